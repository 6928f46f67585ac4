theorem z_hit {a o d x : Int} {r : List (Int × Int)} (h : x = a) : Op.lookupswitch.offset ((a, o) :: r) d x = o := by
  rw [Op.lookupswitch.offset_cons]; simp [h]
theorem z_miss {a o d x o2 : Int} {r : List (Int × Int)} (h : ¬ x = a) (h2 : Op.lookupswitch.offset r d x = o2) : Op.lookupswitch.offset ((a, o) :: r) d x = o2 := by
  rw [Op.lookupswitch.offset_cons, if_neg (fun q => h (by first | exact q | exact q.symm))]; exact h2
theorem z_nil {d x : Int} : Op.lookupswitch.offset [] d x = d := rfl
theorem Y_at {cc : ByteArray} {mL d pc pc2 : Nat} {own : String} {sx : Option (List Int)} {ls : ZLs} {st : List AV} {mem : AMem} {Q : Option AV → AMem → Prop} (e : pc2 = pc) (h : Y cc mL own d sx pc ls st mem Q) : Y cc mL own d sx pc2 ls st mem Q := e ▸ h

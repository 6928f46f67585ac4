/-! values, locals -/
abbrev AV : Type := Int ⊕ (Int ⊕ (Nat × Nat))
abbrev vi (x : Int) : AV := Sum.inl x
abbrev vl (x : Int) : AV := Sum.inr (Sum.inl x)
abbrev vr (k j : Nat) : AV := Sum.inr (Sum.inr (k, j))
abbrev ZAd : Type := Nat → Nat → Nat
abbrev AMem : Type := Nat → Nat → Int → Int
def cv (ad : ZAd) (v : AV) : Value := match v with
  | .inl x => .int (j32 x)
  | .inr (.inl x) => .long (j64 x)
  | .inr (.inr q) => .ref (ad q.1 q.2)
def isL (v : AV) : Bool := match v with
  | .inr (.inl _) => true
  | _ => false
theorem cv_cat (ad : ZAd) (v : AV) : (cv ad v).category = if isL v = true then 2 else 1 := by
  rcases v with x | x | q <;> rfl
abbrev ZLs : Type := List (Option AV)
def toA (ad : ZAd) (ls : ZLs) : List (Nat × Value) := (List.range ls.length).filterMap fun i => match ls[i]? with
  | some (some v) => some (i, cv ad v)
  | _ => none
theorem toA_mem {ad : ZAd} {ls : ZLs} {q : Nat × Value} : q ∈ toA ad ls ↔ ∃ v, ls[q.1]? = some (some v) ∧ q.2 = cv ad v := by
  unfold toA
  rw [List.mem_filterMap]
  constructor
  · rintro ⟨i, -, hi⟩
    split at hi
    · rename_i v hv
      cases hi
      exact ⟨v, hv, rfl⟩
    · cases hi
  · rintro ⟨v, hv, e⟩
    refine ⟨q.1, List.mem_range.mpr (List.getElem?_eq_some_iff.mp hv).1, ?_⟩
    rw [hv]
    show some (q.1, cv ad v) = some q
    rw [← e]
abbrev Lh (ad : ZAd) (la : Array Slot) (mL : Nat) (ls : ZLs) : Prop := lv_has la mL (toA ad ls)
theorem Lh_at {ad : ZAd} {la : Array Slot} {mL : Nat} {ls : ZLs} (h : Lh ad la mL ls) {i : Nat} {v : AV} (hi : ls[i]? = some (some v)) : la[i]? = some (.val (cv ad v)) :=
  h.2.2 (i, cv ad v) (toA_mem.mpr ⟨v, hi, rfl⟩)
theorem Lh_of {ad : ZAd} {la : Array Slot} {mL : Nat} {ls : ZLs} {l : List (Nat × Value)} (h : lv_has la mL l) (hs : ∀ (i : Nat) (v : AV), ls[i]? = some (some v) → (i, cv ad v) ∈ l) : Lh ad la mL ls := by
  refine ⟨h.1, h.2.1, fun q hq => ?_⟩
  obtain ⟨v, hv, e⟩ := toA_mem.mp hq
  have := h.2.2 _ (hs _ _ hv)
  rw [← e] at this
  exact this
/-- nothing long lies just below place i -/
def okst (ls : ZLs) (i : Nat) : Bool := match i with
  | 0 => true
  | i + 1 => match ls[i]? with
    | some (some v) => !isL v
    | _ => true
theorem okst_cat {ad : ZAd} {ls : ZLs} {i j : Nat} {v : AV} (h : okst ls i = true) (hj : ls[j]? = some (some v)) (e : j + 1 = i) : (cv ad v).category = 1 := by
  subst e
  unfold okst at h
  simp only [hj] at h
  rw [cv_cat]
  cases hv : isL v
  · rfl
  · rw [hv] at h; cases h
theorem Lh_put1 {ad : ZAd} {la : Array Slot} {mL : Nat} {ls : ZLs} {i : Nat} {v : AV} (ho : okst ls i = true)
    (h : lv_has la mL ((i, cv ad v) :: (toA ad ls).filter (fun q => !(q.1 == i) && !(q.1 + 1 == i && q.2.category == 2)))) : Lh ad la mL (ls.set i (some v)) := by
  refine Lh_of h fun j w hj => ?_
  rw [List.getElem?_set] at hj
  split at hj
  · rename_i e
    subst e
    split at hj
    · cases hj
      exact List.mem_cons_self
    · cases hj
  · rename_i e
    refine List.mem_cons_of_mem _ (List.mem_filter.mpr ⟨toA_mem.mpr ⟨w, hj, rfl⟩, ?_⟩)
    have e1 : (j == i) = false := by simp; exact fun q => e q.symm
    simp only [e1, Bool.not_false, Bool.true_and, Bool.not_eq_true', Bool.and_eq_false_iff]
    by_cases e2 : j + 1 = i
    · right
      rw [okst_cat ho hj e2]
      rfl
    · left
      simpa using e2
theorem Lh_put2 {ad : ZAd} {la : Array Slot} {mL : Nat} {ls : ZLs} {i : Nat} {v : AV} (ho : okst ls i = true)
    (h : lv_has la mL ((i, cv ad v) :: (toA ad ls).filter (fun q => !(q.1 == i) && (!(q.1 == i + 1) && !(q.1 + 1 == i && q.2.category == 2))))) : Lh ad la mL ((ls.set i (some v)).set (i + 1) none) := by
  refine Lh_of h fun j w hj => ?_
  rw [List.getElem?_set] at hj
  split at hj
  · rename_i e
    split at hj <;> cases hj
  · rename_i e0
    rw [List.getElem?_set] at hj
    split at hj
    · rename_i e
      subst e
      split at hj
      · cases hj
        exact List.mem_cons_self
      · cases hj
    · rename_i e
      refine List.mem_cons_of_mem _ (List.mem_filter.mpr ⟨toA_mem.mpr ⟨w, hj, rfl⟩, ?_⟩)
      have e1 : (j == i) = false := by simp; exact fun q => e q.symm
      have e3 : (j == i + 1) = false := by simp; exact fun q => e0 q.symm
      simp only [e1, e3, Bool.not_false, Bool.true_and, Bool.not_eq_true', Bool.and_eq_false_iff]
      by_cases e2 : j + 1 = i
      · right
        rw [okst_cat ho hj e2]
        rfl
      · left
        simpa using e2
/-- the locals at a method's entry -/
def z_sl (v : AV) : ZLs := if isL v = true then [some v, none] else [some v]
def z_ent (av : List AV) (n : Nat) : ZLs := av.flatMap z_sl ++ List.replicate n none
theorem ent_args {ad : ZAd} : ∀ (av : List AV) (n k i : Nat) (v : AV), (z_ent av n)[i]? = some (some v) → (k + i, cv ad v) ∈ lv_args k (av.map (cv ad)) := by
  intro av
  induction av with
  | nil =>
    intro n k i v h
    simp only [z_ent, List.flatMap_nil, List.nil_append, List.getElem?_replicate] at h
    split at h <;> cases h
  | cons a av ih =>
    intro n k i v h
    have hc := cv_cat ad a
    show (k + i, cv ad v) ∈ (k, cv ad a) :: lv_args (if (cv ad a).category = 2 then k + 2 else k + 1) (av.map (cv ad))
    rw [hc]
    have e : z_ent (a :: av) n = z_sl a ++ z_ent av n := by simp [z_ent, List.append_assoc]
    rw [e] at h
    by_cases ha : isL a = true
    · have e2 : z_sl a = [some a, none] := by simp [z_sl, ha]
      rw [e2] at h
      simp only [ha, if_true]
      match i, h with
      | 0, h => cases h; exact List.mem_cons_self
      | 1, h => cases h
      | i + 2, h =>
        refine List.mem_cons_of_mem _ ?_
        have := ih n (k + 2) i v h
        rwa [show k + 2 + i = k + (i + 2) by omega] at this
    · have e2 : z_sl a = [some a] := by simp [z_sl, ha]
      rw [e2] at h
      simp only [ha]
      match i, h with
      | 0, h => cases h; exact List.mem_cons_self
      | i + 1, h =>
        refine List.mem_cons_of_mem _ ?_
        have := ih n (k + 1) i v h
        rwa [show k + 1 + i = k + (i + 1) by omega] at this

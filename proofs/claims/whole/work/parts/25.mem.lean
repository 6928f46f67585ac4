section
variable {cc : ByteArray} {mL d pc : Nat} {own : String} {sx : Option (List Int)} {ls : ZLs} {st : List AV} {mem : AMem} {Q : Option AV → AMem → Prop}
theorem z_fs {ad : ZAd} {mem : AMem} {k j s N : Nat} (h : s < N) : ((List.range N).map (fv ad mem k j))[s]? = some (fv ad mem k j s) := by
  rw [List.getElem?_map, List.getElem?_range h]; rfl
theorem z_ceO {cA : ZCA} {ad : ZAd} {mem : AMem} {k j N : Nat} (h : kO k = some N) : ce cA ad mem (k, j) = .inr (k, (List.range N).map (fv ad mem k j)) := by
  unfold ce; simp only [h]
theorem z_ceA {cA : ZCA} {ad : ZAd} {mem : AMem} {k j : Nat} {t : FieldType × Nat} (h : kO k = none) (h2 : kArr k = some t) : ce cA ad mem (k, j) = ae cA ad (mem k j) k t := by
  unfold ce; simp only [h, h2, Option.getD_some]
theorem z_fset {ad : ZAd} {mem : AMem} {k j s N : Nat} {x : Int} {v : Value} (h : s < N) (hv : fv ad (upM mem k j s x) k j s = v) : ((List.range N).map (fv ad mem k j)).set s v = (List.range N).map (fv ad (upM mem k j s x) k j) := by
  apply List.ext_getElem?
  intro i
  rw [List.getElem?_set]
  by_cases e : s = i
  · subst e
    rw [if_pos rfl, if_pos (by simpa using h), z_fs h, hv]
  · rw [if_neg e]
    by_cases hi : i < N
    · rw [z_fs hi, z_fs hi]
      congr 1
      unfold fv
      have : upM mem k j s x k j (i : Int) = mem k j i := by
        rw [up_eq, if_neg (by omega)]
      rw [this]
    · rw [List.getElem?_eq_none (by simpa using Nat.not_lt.mp hi), List.getElem?_eq_none (by simpa using Nat.not_lt.mp hi)]
theorem kCnt_le (k : Nat) : kCnt k ≤ 7 := by
  unfold kCnt; split; omega; split; omega; split; omega; split <;> omega
theorem z_fp (k s : Nat) {k2 : Nat} {b : Bool} (h : kF k s = some (k2, b)) : kLng k = false := by
  unfold kF at h
  split at h <;> first | rfl | cases h
/-- a number out of a field -/
theorem a_getf {k j s ix N : Nat} {C ref : String} {T : u_T} (hcl : vwCl[k]? = some (C, T, N)) (hin : ∀ w ∈ u_ws C T N, w ∈ TB) (hk : k < 13) (hO : kO k = some N) (hs : s < N) (hF : kF k s = none) (hw : Cond.fieldLink own ix (T s).1 (T s).2.1 (T s).2.2.1 ∈ TB)
    (hd : decode cc pc = .ok (.getfield ix, 3)) (h : Y cc mL own d sx (pc + 3) ls (vi (mem k j s) :: st) mem Q) : Y cc mL own d sx pc ls (vr k j :: st) mem Q := by
  intro p l e R s' m args below meth c D cA ad A Qs cells slots C' H locs la hP hS hL hl hs' hm
  have hq : (k, j) ∈ LV := LV_mem (by omega) (wfs_h hs')
  obtain ⟨q0, h0, h1⟩ := ws_at (cA := cA) (ad := ad) hq
  have he := h1 mem
  rw [z_ceO hO] at he
  have hr : ri (mem k j s) := hm.1 k j s (by unfold kLng; simp only [Bool.or_eq_false_iff, beq_eq_false_iff_ne, ne_eq]; omega)
  refine va_get (own := own) C'.1.1 C'.1.2.1 C'.1.2.2.2.2 hin C'.1.2.2.2.1 C'.2.1 hP q0 he hcl s hs (C'.1.2.2.2.2 _ hw) (fun _ z => z) (v := .int (j32 (mem k j s))) ?_ hd ?_
  · rw [z_fs hs]; unfold fv; rw [hF]
  · exact h p l e R s' m args below meth c D cA ad A Qs cells slots C' H locs la hP hS hL hl (wfs_c hr (wfs_t hs')) hm
/-- what a final field refers to -/
theorem a_getr {k j s ix N k2 : Nat} {C : String} {T : u_T} (hcl : vwCl[k]? = some (C, T, N)) (hin : ∀ w ∈ u_ws C T N, w ∈ TB) (hk : k < 13) (hO : kO k = some N) (hs : s < N) (hF : kF k s = some (k2, true)) (hN : kCnt k ≤ kCnt k2) (hw : Cond.fieldLink own ix (T s).1 (T s).2.1 (T s).2.2.1 ∈ TB)
    (hd : decode cc pc = .ok (.getfield ix, 3)) (h : Y cc mL own d sx (pc + 3) ls (vr k2 j :: st) mem Q) : Y cc mL own d sx pc ls (vr k j :: st) mem Q := by
  intro p l e R s' m args below meth c D cA ad A Qs cells slots C' H locs la hP hS hL hl hs' hm
  have hj : j < kCnt k := wfs_h hs'
  have hq : (k, j) ∈ LV := LV_mem (by omega) hj
  obtain ⟨q0, h0, h1⟩ := ws_at (cA := cA) (ad := ad) hq
  have he := h1 mem
  rw [z_ceO hO] at he
  refine va_get (own := own) C'.1.1 C'.1.2.1 C'.1.2.2.2.2 hin C'.1.2.2.2.1 C'.2.1 hP q0 he hcl s hs (C'.1.2.2.2.2 _ hw) (fun _ z => z) (v := .ref (ad k2 j)) ?_ hd ?_
  · rw [z_fs hs]; unfold fv; rw [hF]
  · exact h p l e R s' m args below meth c D cA ad A Qs cells slots C' H locs la hP hS hL hl (wfs_c (Nat.lt_of_lt_of_le hj hN) (wfs_t hs')) hm
/-- what another field refers to, if to something -/
theorem a_getm {k j s ix N k2 : Nat} {C : String} {T : u_T} (hcl : vwCl[k]? = some (C, T, N)) (hin : ∀ w ∈ u_ws C T N, w ∈ TB) (hk : k < 13) (hO : kO k = some N) (hs : s < N) (hF : kF k s = some (k2, false)) (hw : Cond.fieldLink own ix (T s).1 (T s).2.1 (T s).2.2.1 ∈ TB)
    (hd : decode cc pc = .ok (.getfield ix, 3)) (h : 0 ≤ mem k j s ∧ Y cc mL own d sx (pc + 3) ls (vr k2 (mem k j s).toNat :: st) mem Q) : Y cc mL own d sx pc ls (vr k j :: st) mem Q := by
  intro p l e R s' m args below meth c D cA ad A Qs cells slots C' H locs la hP hS hL hl hs' hm
  have hj : j < kCnt k := wfs_h hs'
  have hq : (k, j) ∈ LV := LV_mem (by omega) hj
  obtain ⟨q0, h0, h1⟩ := ws_at (cA := cA) (ad := ad) hq
  have he := h1 mem
  rw [z_ceO hO] at he
  have hb := hm.2.2 k j s k2 hF
  have h00 := h.1
  refine va_get (own := own) C'.1.1 C'.1.2.1 C'.1.2.2.2.2 hin C'.1.2.2.2.1 C'.2.1 hP q0 he hcl s hs (C'.1.2.2.2.2 _ hw) (fun _ z => z) (v := .ref (ad k2 (mem k j s).toNat)) ?_ hd ?_
  · rw [z_fs hs]; unfold fv; rw [hF]; simp only; rw [if_neg (by omega)]
  · exact h.2 p l e R s' m args below meth c D cA ad A Qs cells slots C' H locs la hP hS hL hl (wfs_c (show (mem k j s).toNat < kCnt k2 by omega) (wfs_t hs')) hm
theorem a_putf {k j s ix N : Nat} {C : String} {T : u_T} {ty0 : Nat → FieldType} {ty : FieldType} {x : Int} (hcl : vwCl[k]? = some (C, T, N)) (hin : ∀ w ∈ u_ws C T N, w ∈ TB) (hty : ∀ k, k < N → parseFieldDescriptor (T k).2.2.1 = some (ty0 k)) (hnm : ∀ a, a < N → ∀ b, b < N → a ≠ b → (T a).2.1 ≠ (T b).2.1) (hk : k < 13) (hO : kO k = some N) (hs : s < N) (hF : kF k s = none) (hfin : (T s).2.2.2 = false) (he2 : ty0 s = ty) (hw : Cond.fieldLink own ix (T s).1 (T s).2.1 (T s).2.2.1 ∈ TB)
    (hn : narrow ty (.int (j32 x)) = .int (j32 x)) (hfit : fits ty (.int (j32 x)) = true)
    (hd : decode cc pc = .ok (.putfield ix, 3)) (h : Y cc mL own d sx (pc + 3) ls st (upM mem k j s x) Q) : Y cc mL own d sx pc ls (vi x :: vr k j :: st) mem Q := by
  intro p l e R s' m args below meth c D cA ad A Qs cells slots C' H locs la hP hS hL hl hs' hm
  have hx : ri x := wfs_h hs'
  have hj : j < kCnt k := wfs_h (wfs_t hs')
  have hq : (k, j) ∈ LV := LV_mem (by omega) hj
  obtain ⟨q0, h0, h1⟩ := ws_at (cA := cA) (ad := ad) hq
  have he := h1 mem
  rw [z_ceO hO] at he
  have hfv : fv ad (upM mem k j s x) k j s = cv ad (vi x) := by
    show _ = Value.int (j32 x)
    unfold fv; rw [hF]; simp only [up_eq, if_true]
  refine va_put (own := own) (ty := ty) C'.1.1 C'.1.2.1 C'.1.2.2.2.2 hin ty0 hty hnm C'.1.2.2.2.1 C'.2.1 hP (C'.2.2.1 mem) hS q0 he hcl s hs (C'.1.2.2.2.2 _ hw) (fun _ z => z) hfin (by rw [hty s hs, he2]) hn hfit (by simpa using hs) hd (fun H1 locs1 hP1 _ hS1 => ?_)
  rw [z_fset hs hfv, ← z_ceO (cA := cA) hO, ws_set (q := (k, j)) h0 (fun p hp => up_ne hp)] at hP1
  exact h p l e R s' m args below meth c D cA ad A Qs cells slots C' H1 locs1 la hP1 hS1 hL hl (wfs_t (wfs_t hs')) (wfm_up hm (by rw [show kLng k = false by unfold kLng; simp only [Bool.or_eq_false_iff, beq_eq_false_iff_ne, ne_eq]; omega]; exact hx) (fun s2 e2 k2 e3 => by rw [show s2 = s by omega, hF] at e3; cases e3))
/-- a mutable reference -/
theorem a_putm {k j s ix N k2 j2 : Nat} {C : String} {T : u_T} {ty0 : Nat → FieldType} {ty : FieldType} (hcl : vwCl[k]? = some (C, T, N)) (hin : ∀ w ∈ u_ws C T N, w ∈ TB) (hty : ∀ k, k < N → parseFieldDescriptor (T k).2.2.1 = some (ty0 k)) (hnm : ∀ a, a < N → ∀ b, b < N → a ≠ b → (T a).2.1 ≠ (T b).2.1) (hk : k < 13) (hO : kO k = some N) (hs : s < N) (hF : kF k s = some (k2, false)) (hfin : (T s).2.2.2 = false) (he2 : ty0 s = ty) (hw : Cond.fieldLink own ix (T s).1 (T s).2.1 (T s).2.2.1 ∈ TB)
    (hn : ∀ a, narrow ty (.ref a) = .ref a) (hfit : ∀ a, fits ty (.ref a) = true)
    (hd : decode cc pc = .ok (.putfield ix, 3)) (h : Y cc mL own d sx (pc + 3) ls st (upM mem k j s j2) Q) : Y cc mL own d sx pc ls (vr k2 j2 :: vr k j :: st) mem Q := by
  intro p l e R s' m args below meth c D cA ad A Qs cells slots C' H locs la hP hS hL hl hs' hm
  have hj2 : j2 < kCnt k2 := wfs_h hs'
  have hj : j < kCnt k := wfs_h (wfs_t hs')
  have hq : (k, j) ∈ LV := LV_mem (by omega) hj
  obtain ⟨q0, h0, h1⟩ := ws_at (cA := cA) (ad := ad) hq
  have he := h1 mem
  rw [z_ceO hO] at he
  have hfv : fv ad (upM mem k j s j2) k j s = cv ad (vr k2 j2) := by
    show _ = Value.ref (ad k2 j2)
    unfold fv; rw [hF]; simp only [up_eq, if_true]; rw [if_neg (by omega)]; simp
  refine va_put (own := own) (ty := ty) C'.1.1 C'.1.2.1 C'.1.2.2.2.2 hin ty0 hty hnm C'.1.2.2.2.1 C'.2.1 hP (C'.2.2.1 mem) hS q0 he hcl s hs (C'.1.2.2.2.2 _ hw) (fun _ z => z) hfin (by rw [hty s hs, he2]) (hn _) (hfit _) (by simpa using hs) hd (fun H1 locs1 hP1 _ hS1 => ?_)
  have hz := z_fset (ad := ad) (mem := mem) (k := k) (j := j) hs hfv
  rw [hz, ← z_ceO (cA := cA) hO, ws_set (q := (k, j)) h0 (fun p hp => up_ne hp)] at hP1
  have h7 := kCnt_le k2
  exact h p l e R s' m args below meth c D cA ad A Qs cells slots C' H1 locs1 la hP1 hS1 hL hl (wfs_t (wfs_t hs')) (wfm_up hm (by rw [z_fp k s hF]; exact ⟨by omega, by omega⟩) (fun s2 e2 k3 e3 => by rw [show s2 = s by omega, hF] at e3; cases e3; omega))
theorem z_fk {k s : Nat} (h : 13 ≤ k) : kF k s = none := by
  unfold kF
  split <;> first | rfl | omega
theorem a_iald {k j n : Nat} {i : Int} (hk : kArr k = some (.int, n)) (hO : kO k = none) (h2 : k < 2000) (hg : kLng k = false) (hd : decode cc pc = .ok (.iaload, 1)) (h : (0 ≤ i ∧ i < (n : Int)) ∧ Y cc mL own d sx (pc + 1) ls (vi (mem k j i) :: st) mem Q) : Y cc mL own d sx pc ls (vi i :: vr k j :: st) mem Q := by
  intro p l e R s m args below meth c D cA ad A Qs cells slots C H locs la hP hS hL hl hs hm
  have hi : ri i := wfs_h hs
  have hq : (k, j) ∈ LV := LV_mem h2 (wfs_h (wfs_t hs))
  obtain ⟨q0, h0, h1⟩ := ws_at (cA := cA) (ad := ad) hq
  have he := h1 mem
  rw [z_ceA hO hk] at he
  obtain ⟨g1, g2⟩ := n_in hi h.1.1 h.1.2
  have hr := hm.1 k j i hg
  refine va_iald C.1.1 C.1.2.1 C.2.1 hP q0 0 he rfl g1 hd ?_
  rw [g2]
  exact h.2 p l e R s m args below meth c D cA ad A Qs cells slots C H locs la hP hS hL hl (wfs_c hr (wfs_t (wfs_t hs))) hm
theorem a_bald {k j n : Nat} {i : Int} (hk : kArr k = some (.byte, n)) (hO : kO k = none) (h2 : k < 2000) (hg : kLng k = false) (hd : decode cc pc = .ok (.baload, 1)) (h : (0 ≤ i ∧ i < (n : Int)) ∧ Y cc mL own d sx (pc + 1) ls (vi (mem k j i) :: st) mem Q) : Y cc mL own d sx pc ls (vi i :: vr k j :: st) mem Q := by
  intro p l e R s m args below meth c D cA ad A Qs cells slots C H locs la hP hS hL hl hs hm
  have hi : ri i := wfs_h hs
  have hq : (k, j) ∈ LV := LV_mem h2 (wfs_h (wfs_t hs))
  obtain ⟨q0, h0, h1⟩ := ws_at (cA := cA) (ad := ad) hq
  have he := h1 mem
  rw [z_ceA hO hk] at he
  obtain ⟨g1, g2⟩ := n_in hi h.1.1 h.1.2
  have hr := hm.1 k j i hg
  refine va_bald C.1.1 C.1.2.1 C.2.1 hP q0 1 he rfl g1 hd ?_
  rw [g2]
  exact h.2 p l e R s m args below meth c D cA ad A Qs cells slots C H locs la hP hS hL hl (wfs_c hr (wfs_t (wfs_t hs))) hm
theorem a_sald {k j n : Nat} {i : Int} (hk : kArr k = some (.short, n)) (hO : kO k = none) (h2 : k < 2000) (hg : kLng k = false) (hd : decode cc pc = .ok (.saload, 1)) (h : (0 ≤ i ∧ i < (n : Int)) ∧ Y cc mL own d sx (pc + 1) ls (vi (mem k j i) :: st) mem Q) : Y cc mL own d sx pc ls (vi i :: vr k j :: st) mem Q := by
  intro p l e R s m args below meth c D cA ad A Qs cells slots C H locs la hP hS hL hl hs hm
  have hi : ri i := wfs_h hs
  have hq : (k, j) ∈ LV := LV_mem h2 (wfs_h (wfs_t hs))
  obtain ⟨q0, h0, h1⟩ := ws_at (cA := cA) (ad := ad) hq
  have he := h1 mem
  rw [z_ceA hO hk] at he
  obtain ⟨g1, g2⟩ := n_in hi h.1.1 h.1.2
  have hr := hm.1 k j i hg
  refine va_sald C.1.1 C.1.2.1 C.2.1 hP q0 2 he rfl g1 hd ?_
  rw [g2]
  exact h.2 p l e R s m args below meth c D cA ad A Qs cells slots C H locs la hP hS hL hl (wfs_c hr (wfs_t (wfs_t hs))) hm
theorem a_lald {k j n : Nat} {i : Int} (hk : kArr k = some (.long, n)) (hO : kO k = none) (h2 : k < 2000) (hg : kLng k = true) (hd : decode cc pc = .ok (.laload, 1)) (h : (0 ≤ i ∧ i < (n : Int)) ∧ Y cc mL own d sx (pc + 1) ls (vl (mem k j i) :: st) mem Q) : Y cc mL own d sx pc ls (vi i :: vr k j :: st) mem Q := by
  intro p l e R s m args below meth c D cA ad A Qs cells slots C H locs la hP hS hL hl hs hm
  have hi : ri i := wfs_h hs
  have hq : (k, j) ∈ LV := LV_mem h2 (wfs_h (wfs_t hs))
  obtain ⟨q0, h0, h1⟩ := ws_at (cA := cA) (ad := ad) hq
  have he := h1 mem
  rw [z_ceA hO hk] at he
  obtain ⟨g1, g2⟩ := n_in hi h.1.1 h.1.2
  have hr := hm.2.1 k j i hg
  refine va_lald C.1.1 C.1.2.1 C.2.1 hP q0 3 he rfl g1 hd ?_
  rw [g2]
  exact h.2 p l e R s m args below meth c D cA ad A Qs cells slots C H locs la hP hS hL hl (wfs_c hr (wfs_t (wfs_t hs))) hm
theorem a_iast {k j n : Nat} {i x : Int} (hk : kArr k = some (.int, n)) (hO : kO k = none) (h2 : k < 2000) (hg : kLng k = false) (hd : decode cc pc = .ok (.iastore, 1)) (h : (0 ≤ i ∧ i < (n : Int)) ∧ Y cc mL own d sx (pc + 1) ls st (upM mem k j i (x)) Q) : Y cc mL own d sx pc ls (vi x :: vi i :: vr k j :: st) mem Q := by
  intro p l e R s m args below meth c D cA ad A Qs cells slots C H locs la hP hS hL hl hs hm
  have hx : ri x := wfs_h hs
  have hi : ri i := wfs_h (wfs_t hs)
  have hq : (k, j) ∈ LV := LV_mem h2 (wfs_h (wfs_t (wfs_t hs)))
  obtain ⟨q0, h0, h1⟩ := ws_at (cA := cA) (ad := ad) hq
  have he := h1 mem
  rw [z_ceA hO hk] at he
  obtain ⟨g1, g2⟩ := n_in hi h.1.1 h.1.2
  have hkO : k ≥ 13 := by
    unfold kO at hO
    split at hO
    · cases hO
    · omega
  refine va_iast C.1.1 C.1.2.1 C.2.1 hP (C.2.2.1 mem) hS q0 0 he rfl g1 hd (fun H1 locs1 hP1 _ hS1 => ?_)
  have e2 : ce cA ad (upM mem k j i (x)) (k, j) = .inl (cA .int, n, .inl (upd (fun z : Nat => j32 (mem k j z)) (j32 i).toNatClampNeg (j32 x))) := by
    rw [z_ceA hO hk]
    refine congrArg (fun f => (Sum.inl (cA .int, n, Sum.inl f) : va_E)) ?_
    funext z
    simp only [up_eq]
    by_cases hz : z = (j32 i).toNatClampNeg
    · subst hz
      rw [if_pos g2]
      simp [upd]
    · rw [if_neg (fun q => hz (by omega))]
      simp [upd, hz]
  rw [← e2, ws_set (q := (k, j)) h0 (fun p hp => up_ne hp)] at hP1
  exact h.2 p l e R s m args below meth c D cA ad A Qs cells slots C H1 locs1 la hP1 hS1 hL hl (wfs_t (wfs_t (wfs_t hs))) (wfm_up hm (by rw [hg]; exact hx) (fun s2 e2 k3 e3 => by rw [z_fk (by omega)] at e3; cases e3))
theorem a_bast {k j n : Nat} {i x : Int} (hk : kArr k = some (.byte, n)) (hO : kO k = none) (h2 : k < 2000) (hg : kLng k = false) (hd : decode cc pc = .ok (.bastore, 1)) (h : (0 ≤ i ∧ i < (n : Int)) ∧ Y cc mL own d sx (pc + 1) ls st (upM mem k j i (b8 x)) Q) : Y cc mL own d sx pc ls (vi x :: vi i :: vr k j :: st) mem Q := by
  intro p l e R s m args below meth c D cA ad A Qs cells slots C H locs la hP hS hL hl hs hm
  have hx : ri x := wfs_h hs
  have hi : ri i := wfs_h (wfs_t hs)
  have hq : (k, j) ∈ LV := LV_mem h2 (wfs_h (wfs_t (wfs_t hs)))
  obtain ⟨q0, h0, h1⟩ := ws_at (cA := cA) (ad := ad) hq
  have he := h1 mem
  rw [z_ceA hO hk] at he
  obtain ⟨g1, g2⟩ := n_in hi h.1.1 h.1.2
  have hkO : k ≥ 13 := by
    unfold kO at hO
    split at hO
    · cases hO
    · omega
  refine va_bast C.1.1 C.1.2.1 C.2.1 hP (C.2.2.1 mem) hS q0 1 he rfl g1 hd (fun H1 locs1 hP1 _ hS1 => ?_)
  have e2 : ce cA ad (upM mem k j i (b8 x)) (k, j) = .inl (cA .byte, n, .inl (upd (fun z : Nat => j32 (mem k j z)) (j32 i).toNatClampNeg (vp_nar .byte (j32 x)))) := by
    rw [z_ceA hO hk]
    refine congrArg (fun f => (Sum.inl (cA .byte, n, Sum.inl f) : va_E)) ?_
    funext z
    simp only [up_eq]
    by_cases hz : z = (j32 i).toNatClampNeg
    · subst hz
      rw [if_pos g2]
      rw [vp_nar_byte, n_b hx]
      simp only [upd, if_true]
    · rw [if_neg (fun q => hz (by omega))]
      simp [upd, hz]
  rw [← e2, ws_set (q := (k, j)) h0 (fun p hp => up_ne hp)] at hP1
  exact h.2 p l e R s m args below meth c D cA ad A Qs cells slots C H1 locs1 la hP1 hS1 hL hl (wfs_t (wfs_t (wfs_t hs))) (wfm_up hm (by rw [hg]; exact ri_b8 _) (fun s2 e2 k3 e3 => by rw [z_fk (by omega)] at e3; cases e3))
theorem a_sast {k j n : Nat} {i x : Int} (hk : kArr k = some (.short, n)) (hO : kO k = none) (h2 : k < 2000) (hg : kLng k = false) (hd : decode cc pc = .ok (.sastore, 1)) (h : (0 ≤ i ∧ i < (n : Int)) ∧ Y cc mL own d sx (pc + 1) ls st (upM mem k j i (s16 x)) Q) : Y cc mL own d sx pc ls (vi x :: vi i :: vr k j :: st) mem Q := by
  intro p l e R s m args below meth c D cA ad A Qs cells slots C H locs la hP hS hL hl hs hm
  have hx : ri x := wfs_h hs
  have hi : ri i := wfs_h (wfs_t hs)
  have hq : (k, j) ∈ LV := LV_mem h2 (wfs_h (wfs_t (wfs_t hs)))
  obtain ⟨q0, h0, h1⟩ := ws_at (cA := cA) (ad := ad) hq
  have he := h1 mem
  rw [z_ceA hO hk] at he
  obtain ⟨g1, g2⟩ := n_in hi h.1.1 h.1.2
  have hkO : k ≥ 13 := by
    unfold kO at hO
    split at hO
    · cases hO
    · omega
  refine va_sast C.1.1 C.1.2.1 C.2.1 hP (C.2.2.1 mem) hS q0 2 he rfl g1 hd (fun H1 locs1 hP1 _ hS1 => ?_)
  have e2 : ce cA ad (upM mem k j i (s16 x)) (k, j) = .inl (cA .short, n, .inl (upd (fun z : Nat => j32 (mem k j z)) (j32 i).toNatClampNeg (vp_nar .short (j32 x)))) := by
    rw [z_ceA hO hk]
    refine congrArg (fun f => (Sum.inl (cA .short, n, Sum.inl f) : va_E)) ?_
    funext z
    simp only [up_eq]
    by_cases hz : z = (j32 i).toNatClampNeg
    · subst hz
      rw [if_pos g2]
      rw [vp_nar_short, n_s hx]
      simp only [upd, if_true]
    · rw [if_neg (fun q => hz (by omega))]
      simp [upd, hz]
  rw [← e2, ws_set (q := (k, j)) h0 (fun p hp => up_ne hp)] at hP1
  exact h.2 p l e R s m args below meth c D cA ad A Qs cells slots C H1 locs1 la hP1 hS1 hL hl (wfs_t (wfs_t (wfs_t hs))) (wfm_up hm (by rw [hg]; exact ri_s16 _) (fun s2 e2 k3 e3 => by rw [z_fk (by omega)] at e3; cases e3))
theorem a_last {k j n : Nat} {i x : Int} (hk : kArr k = some (.long, n)) (hO : kO k = none) (h2 : k < 2000) (hg : kLng k = true) (hd : decode cc pc = .ok (.lastore, 1)) (h : (0 ≤ i ∧ i < (n : Int)) ∧ Y cc mL own d sx (pc + 1) ls st (upM mem k j i (x)) Q) : Y cc mL own d sx pc ls (vl x :: vi i :: vr k j :: st) mem Q := by
  intro p l e R s m args below meth c D cA ad A Qs cells slots C H locs la hP hS hL hl hs hm
  have hx : rl x := wfs_h hs
  have hi : ri i := wfs_h (wfs_t hs)
  have hq : (k, j) ∈ LV := LV_mem h2 (wfs_h (wfs_t (wfs_t hs)))
  obtain ⟨q0, h0, h1⟩ := ws_at (cA := cA) (ad := ad) hq
  have he := h1 mem
  rw [z_ceA hO hk] at he
  obtain ⟨g1, g2⟩ := n_in hi h.1.1 h.1.2
  have hkO : k ≥ 13 := by
    unfold kO at hO
    split at hO
    · cases hO
    · omega
  refine va_last C.1.1 C.1.2.1 C.2.1 hP (C.2.2.1 mem) hS q0 3 he rfl g1 hd (fun H1 locs1 hP1 _ hS1 => ?_)
  have e2 : ce cA ad (upM mem k j i (x)) (k, j) = .inl (cA .long, n, .inr (.inl (vp_updL (fun z : Nat => j64 (mem k j z)) (j32 i).toNatClampNeg (j64 x)))) := by
    rw [z_ceA hO hk]
    refine congrArg (fun f => (Sum.inl (cA .long, n, Sum.inr (Sum.inl f)) : va_E)) ?_
    funext z
    simp only [up_eq]
    by_cases hz : z = (j32 i).toNatClampNeg
    · subst hz
      rw [if_pos g2]
      simp [vp_updL]
    · rw [if_neg (fun q => hz (by omega))]
      simp [vp_updL, hz]
  rw [← e2, ws_set (q := (k, j)) h0 (fun p hp => up_ne hp)] at hP1
  exact h.2 p l e R s m args below meth c D cA ad A Qs cells slots C H1 locs1 la hP1 hS1 hL hl (wfs_t (wfs_t (wfs_t hs))) (wfm_up hm (by rw [hg]; exact hx) (fun s2 e2 k3 e3 => by rw [z_fk (by omega)] at e3; cases e3))
end

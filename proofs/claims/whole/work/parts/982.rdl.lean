/-! the class reads a text: the signs -/
theorem c16v {t : Int} (h1 : 0 ≤ t) (h2 : t ≤ 255) : c16 t = t := by
  have g : ∀ k : Fin 256, c16 ((k.val : Nat) : Int) = ((k.val : Nat) : Int) := by decide +kernel
  have q := g ⟨t.toNat, by omega⟩
  rwa [show (((⟨t.toNat, by omega⟩ : Fin 256).val : Nat) : Int) = t from Int.toNat_of_nonneg h1] at q
theorem b8v {t : Int} (h1 : 0 ≤ t) (h2 : t ≤ 255) : b8 t = if t < 128 then t else t - 256 := by
  have g : ∀ k : Fin 256, b8 ((k.val : Nat) : Int) = if ((k.val : Nat) : Int) < 128 then ((k.val : Nat) : Int) else ((k.val : Nat) : Int) - 256 := by decide +kernel
  have q := g ⟨t.toNat, by omega⟩
  rwa [show (((⟨t.toNat, by omega⟩ : Fin 256).val : Nat) : Int) = t from Int.toNat_of_nonneg h1] at q
theorem b8e {t c : Int} (h1 : 0 ≤ t) (h2 : t ≤ 255) (hc : 0 ≤ c) (hc2 : c < 128) (h : c = b8 t) : t = c := by
  rw [b8v h1 h2] at h
  split at h <;> omega
theorem b8n {t c : Int} (h1 : 0 ≤ t) (h2 : t ≤ 255) (hc : 0 ≤ c) (hc2 : c < 128) (h : c ≠ b8 t) : ¬ t = c := fun q => h (by
  rw [b8v h1 h2, if_pos (by omega), q])
def ixB (t : Int) : Int := if t = 124 then 0 else if t = 38 then 1 else if t = 60 then 2 else if t = 61 then 3 else if t = 62 then 4 else if t = 43 then 5 else if t = 45 then 6 else if t = 42 then 7 else if t = 47 then 8 else if t = 37 then 9 else -1
theorem jof_ix {t : Int} {r : Nat} (hr : r ≤ 4) : jof r t = if 0 ≤ ixB t ∧ List.getD (romL 2002) (Int.toNat (ixB t)) 0 = (r : Int) then ixB t else -1 := by
  have : r = 0 ∨ r = 1 ∨ r = 2 ∨ r = 3 ∨ r = 4 := by omega
  have key : ∀ c : Int, t = c → (∀ r : Fin 5, jof r.val c = if 0 ≤ ixB c ∧ List.getD (romL 2002) (Int.toNat (ixB c)) 0 = ((r.val : Nat) : Int) then ixB c else -1) → jof r t = if 0 ≤ ixB t ∧ List.getD (romL 2002) (Int.toNat (ixB t)) 0 = (r : Int) then ixB t else -1 := fun c e h => by
    subst e
    exact h ⟨r, by omega⟩

  by_cases h0 : t = 124
  · exact key _ h0 (by decide +kernel)
  by_cases h1 : t = 38
  · exact key _ h1 (by decide +kernel)
  by_cases h2 : t = 60
  · exact key _ h2 (by decide +kernel)
  by_cases h3 : t = 61
  · exact key _ h3 (by decide +kernel)
  by_cases h4 : t = 62
  · exact key _ h4 (by decide +kernel)
  by_cases h5 : t = 43
  · exact key _ h5 (by decide +kernel)
  by_cases h6 : t = 45
  · exact key _ h6 (by decide +kernel)
  by_cases h7 : t = 42
  · exact key _ h7 (by decide +kernel)
  by_cases h8 : t = 47
  · exact key _ h8 (by decide +kernel)
  by_cases h9 : t = 37
  · exact key _ h9 (by decide +kernel)
  have e1 : ixB t = -1 := by simp [ixB, h0, h1, h2, h3, h4, h5, h6, h7, h8, h9]
  rw [e1, if_neg (fun z => absurd z.1 (by decide))]
  rcases this with rfl | rfl | rfl | rfl | rfl <;> simp [jof, h0, h1, h2, h3, h4, h5, h6, h7, h8, h9]
theorem ixB_rg (t : Int) : -1 ≤ ixB t ∧ ixB t ≤ 9 := by
  unfold ixB
  (repeat' split) <;> omega
section
variable {d : Nat} {m : AMem} {Q : Option AV → AMem → Prop}
theorem dup1 {n : Nat} (h : n + 1 ≤ d) : ∃ e, d = e + 1 ∧ n ≤ e := ⟨d - 1, by omega, by omega⟩

theorem cc_ixa {t : Int} (h1 : 0 ≤ t) (h2 : t ≤ 255) (hd : 4 ≤ d) (h : Q (some (vi (nmF t))) m) : MtX yJ0_indexOf_0f7a4 cJ0_indexOf_0f7a4 2 (some .int) d [vr 2020 0, vi (c16 t)] m Q := by
  obtain ⟨d1, e1, hd1⟩ := dup1 hd
  obtain ⟨d2, e2, hd2⟩ := dup1 hd1
  obtain ⟨d3, e3, hd3⟩ := dup1 hd2
  obtain ⟨d4, e4, hd4⟩ := dup1 hd3
  subst e1 e2 e3 e4
  rw [c16v h1 h2]
  have g : ∀ v, nmF t = v → Q (some (vi v)) m := fun v e => e ▸ h
  refine Y_met rfl 0 rfl (sg_J0_indexOf_0f7a4_a_0 _ _ _ (Y_met rfl 0 rfl (sg_J0_indexOf_7cf53_a_0 _ _ _ _ (Y_met rfl 0 rfl (sg_J0_isLatin1_aae02_a_0 _ _ ⟨fun c => absurd c (by decide), fun _ => ⟨fun c => absurd rfl c, fun _ => ⟨Or.inr rfl, _, rfl, fun c => absurd c (by decide), fun _ => ?_⟩⟩⟩)))))
  refine Y_met rfl 0 rfl (sg_J0_length_8abf5_a_0 _ _ (Y_met rfl 0 rfl (sg_J0_coder_7d493_a_0 _ _ ⟨fun c => absurd c (by decide), fun _ => ⟨Or.inl rfl, _, rfl, trivial, _, rfl, ?_⟩⟩)))
  rw [show shr32 6 0 = 6 by decide +kernel]
  refine Y_met rfl 0 rfl (sg_J1_indexOf_4cfef_a_0 _ _ _ _ _ (Y_met rfl 0 rfl (sg_J1_canEncode_9a6ad_0 _ _ _ ⟨fun c => by omega, fun _ => ⟨fun c => by omega, fun _ => ⟨Or.inr rfl, _, rfl, fun _ => ⟨fun _ => ?_, fun c => absurd (by decide) c⟩, fun c => absurd c (by decide)⟩⟩⟩)))
  rw [show max (0 : Int) 0 = 0 by decide, show min (6 : Int) 6 = 6 by decide]
  refine Y_met rfl 2 rfl (sg_J1_indexOfChar_4cfef_a_0 _ _ _ _ _ ?_)
  have fin : ∀ v, nmF t = v → rk (some .int) (some (vi v)) ∧ ∃ x8 : Int, some (vi v) = some (vi x8) ∧ rk (some .int) (some (vi x8)) ∧ ∃ x : Int, some (vi x8) = some (vi x) ∧ rk (some .int) (some (vi x)) ∧ ∃ x2 : Int, some (vi x) = some (vi x2) ∧ rk (some .int) (some (vi x2)) ∧ Q (some (vi x2)) m := fun v e => ⟨trivial, _, rfl, trivial, _, rfl, trivial, _, rfl, trivial, g v e⟩
  refine sg_J1_indexOfChar_4cfef_a_7 _ _ _ _ _ _ _ ⟨fun c => absurd c (by decide), fun _ => ⟨by decide, fun c0 => ?_, fun c0 => fin _ ?_⟩⟩
  rotate_left
  · have e : t = 100 := b8e h1 h2 (by decide) (by decide) c0
    rw [e]
    decide +kernel
  have n0 : ¬ t = 100 := b8n h1 h2 (by decide) (by decide) c0
  rw [show w32 ((0 : Int) + 1) = 1 by decide +kernel]
  refine sg_J1_indexOfChar_4cfef_a_7 _ _ _ _ _ _ _ ⟨fun c => absurd c (by decide), fun _ => ⟨by decide, fun c1 => ?_, fun c1 => fin _ ?_⟩⟩
  rotate_left
  · have e : t = 114 := b8e h1 h2 (by decide) (by decide) c1
    rw [e]
    decide +kernel
  have n1 : ¬ t = 114 := b8n h1 h2 (by decide) (by decide) c1
  rw [show w32 ((1 : Int) + 1) = 2 by decide +kernel]
  refine sg_J1_indexOfChar_4cfef_a_7 _ _ _ _ _ _ _ ⟨fun c => absurd c (by decide), fun _ => ⟨by decide, fun c2 => ?_, fun c2 => fin _ ?_⟩⟩
  rotate_left
  · have e : t = 98 := b8e h1 h2 (by decide) (by decide) c2
    rw [e]
    decide +kernel
  have n2 : ¬ t = 98 := b8n h1 h2 (by decide) (by decide) c2
  rw [show w32 ((2 : Int) + 1) = 3 by decide +kernel]
  refine sg_J1_indexOfChar_4cfef_a_7 _ _ _ _ _ _ _ ⟨fun c => absurd c (by decide), fun _ => ⟨by decide, fun c3 => ?_, fun c3 => fin _ ?_⟩⟩
  rotate_left
  · have e : t = 115 := b8e h1 h2 (by decide) (by decide) c3
    rw [e]
    decide +kernel
  have n3 : ¬ t = 115 := b8n h1 h2 (by decide) (by decide) c3
  rw [show w32 ((3 : Int) + 1) = 4 by decide +kernel]
  refine sg_J1_indexOfChar_4cfef_a_7 _ _ _ _ _ _ _ ⟨fun c => absurd c (by decide), fun _ => ⟨by decide, fun c4 => ?_, fun c4 => fin _ ?_⟩⟩
  rotate_left
  · have e : t = 110 := b8e h1 h2 (by decide) (by decide) c4
    rw [e]
    decide +kernel
  have n4 : ¬ t = 110 := b8n h1 h2 (by decide) (by decide) c4
  rw [show w32 ((4 : Int) + 1) = 5 by decide +kernel]
  refine sg_J1_indexOfChar_4cfef_a_7 _ _ _ _ _ _ _ ⟨fun c => absurd c (by decide), fun _ => ⟨by decide, fun c5 => ?_, fun c5 => fin _ ?_⟩⟩
  rotate_left
  · have e : t = 99 := b8e h1 h2 (by decide) (by decide) c5
    rw [e]
    decide +kernel
  have n5 : ¬ t = 99 := b8n h1 h2 (by decide) (by decide) c5
  rw [show w32 ((5 : Int) + 1) = 6 by decide +kernel]
  refine sg_J1_indexOfChar_4cfef_a_7 _ _ _ _ _ _ _ ⟨fun _ => fin _ ?_, fun c => absurd (by decide) c⟩
  simp [nmF, n0, n1, n2, n3, n4, n5]
theorem cc_ixb {t : Int} (h1 : 0 ≤ t) (h2 : t ≤ 255) (hd : 4 ≤ d) (h : Q (some (vi (ixB t))) m) : MtX yJ0_indexOf_0f7a4 cJ0_indexOf_0f7a4 2 (some .int) d [vr 2021 0, vi (c16 t)] m Q := by
  obtain ⟨d1, e1, hd1⟩ := dup1 hd
  obtain ⟨d2, e2, hd2⟩ := dup1 hd1
  obtain ⟨d3, e3, hd3⟩ := dup1 hd2
  obtain ⟨d4, e4, hd4⟩ := dup1 hd3
  subst e1 e2 e3 e4
  rw [c16v h1 h2]
  have g : ∀ v, ixB t = v → Q (some (vi v)) m := fun v e => e ▸ h
  refine Y_met rfl 0 rfl (sg_J0_indexOf_0f7a4_b_0 _ _ _ (Y_met rfl 0 rfl (sg_J0_indexOf_7cf53_b_0 _ _ _ _ (Y_met rfl 0 rfl (sg_J0_isLatin1_aae02_b_0 _ _ ⟨fun c => absurd c (by decide), fun _ => ⟨fun c => absurd rfl c, fun _ => ⟨Or.inr rfl, _, rfl, fun c => absurd c (by decide), fun _ => ?_⟩⟩⟩)))))
  refine Y_met rfl 0 rfl (sg_J0_length_8abf5_b_0 _ _ (Y_met rfl 0 rfl (sg_J0_coder_7d493_b_0 _ _ ⟨fun c => absurd c (by decide), fun _ => ⟨Or.inl rfl, _, rfl, trivial, _, rfl, ?_⟩⟩)))
  rw [show shr32 10 0 = 10 by decide +kernel]
  refine Y_met rfl 0 rfl (sg_J1_indexOf_4cfef_b_0 _ _ _ _ _ (Y_met rfl 0 rfl (sg_J1_canEncode_9a6ad_0 _ _ _ ⟨fun c => by omega, fun _ => ⟨fun c => by omega, fun _ => ⟨Or.inr rfl, _, rfl, fun _ => ⟨fun _ => ?_, fun c => absurd (by decide) c⟩, fun c => absurd c (by decide)⟩⟩⟩)))
  rw [show max (0 : Int) 0 = 0 by decide, show min (10 : Int) 10 = 10 by decide]
  refine Y_met rfl 2 rfl (sg_J1_indexOfChar_4cfef_b_0 _ _ _ _ _ ?_)
  have fin : ∀ v, ixB t = v → rk (some .int) (some (vi v)) ∧ ∃ x8 : Int, some (vi v) = some (vi x8) ∧ rk (some .int) (some (vi x8)) ∧ ∃ x : Int, some (vi x8) = some (vi x) ∧ rk (some .int) (some (vi x)) ∧ ∃ x2 : Int, some (vi x) = some (vi x2) ∧ rk (some .int) (some (vi x2)) ∧ Q (some (vi x2)) m := fun v e => ⟨trivial, _, rfl, trivial, _, rfl, trivial, _, rfl, trivial, g v e⟩
  refine sg_J1_indexOfChar_4cfef_b_7 _ _ _ _ _ _ _ ⟨fun c => absurd c (by decide), fun _ => ⟨by decide, fun c0 => ?_, fun c0 => fin _ ?_⟩⟩
  rotate_left
  · have e : t = 124 := b8e h1 h2 (by decide) (by decide) c0
    rw [e]
    decide +kernel
  have n0 : ¬ t = 124 := b8n h1 h2 (by decide) (by decide) c0
  rw [show w32 ((0 : Int) + 1) = 1 by decide +kernel]
  refine sg_J1_indexOfChar_4cfef_b_7 _ _ _ _ _ _ _ ⟨fun c => absurd c (by decide), fun _ => ⟨by decide, fun c1 => ?_, fun c1 => fin _ ?_⟩⟩
  rotate_left
  · have e : t = 38 := b8e h1 h2 (by decide) (by decide) c1
    rw [e]
    decide +kernel
  have n1 : ¬ t = 38 := b8n h1 h2 (by decide) (by decide) c1
  rw [show w32 ((1 : Int) + 1) = 2 by decide +kernel]
  refine sg_J1_indexOfChar_4cfef_b_7 _ _ _ _ _ _ _ ⟨fun c => absurd c (by decide), fun _ => ⟨by decide, fun c2 => ?_, fun c2 => fin _ ?_⟩⟩
  rotate_left
  · have e : t = 60 := b8e h1 h2 (by decide) (by decide) c2
    rw [e]
    decide +kernel
  have n2 : ¬ t = 60 := b8n h1 h2 (by decide) (by decide) c2
  rw [show w32 ((2 : Int) + 1) = 3 by decide +kernel]
  refine sg_J1_indexOfChar_4cfef_b_7 _ _ _ _ _ _ _ ⟨fun c => absurd c (by decide), fun _ => ⟨by decide, fun c3 => ?_, fun c3 => fin _ ?_⟩⟩
  rotate_left
  · have e : t = 61 := b8e h1 h2 (by decide) (by decide) c3
    rw [e]
    decide +kernel
  have n3 : ¬ t = 61 := b8n h1 h2 (by decide) (by decide) c3
  rw [show w32 ((3 : Int) + 1) = 4 by decide +kernel]
  refine sg_J1_indexOfChar_4cfef_b_7 _ _ _ _ _ _ _ ⟨fun c => absurd c (by decide), fun _ => ⟨by decide, fun c4 => ?_, fun c4 => fin _ ?_⟩⟩
  rotate_left
  · have e : t = 62 := b8e h1 h2 (by decide) (by decide) c4
    rw [e]
    decide +kernel
  have n4 : ¬ t = 62 := b8n h1 h2 (by decide) (by decide) c4
  rw [show w32 ((4 : Int) + 1) = 5 by decide +kernel]
  refine sg_J1_indexOfChar_4cfef_b_7 _ _ _ _ _ _ _ ⟨fun c => absurd c (by decide), fun _ => ⟨by decide, fun c5 => ?_, fun c5 => fin _ ?_⟩⟩
  rotate_left
  · have e : t = 43 := b8e h1 h2 (by decide) (by decide) c5
    rw [e]
    decide +kernel
  have n5 : ¬ t = 43 := b8n h1 h2 (by decide) (by decide) c5
  rw [show w32 ((5 : Int) + 1) = 6 by decide +kernel]
  refine sg_J1_indexOfChar_4cfef_b_7 _ _ _ _ _ _ _ ⟨fun c => absurd c (by decide), fun _ => ⟨by decide, fun c6 => ?_, fun c6 => fin _ ?_⟩⟩
  rotate_left
  · have e : t = 45 := b8e h1 h2 (by decide) (by decide) c6
    rw [e]
    decide +kernel
  have n6 : ¬ t = 45 := b8n h1 h2 (by decide) (by decide) c6
  rw [show w32 ((6 : Int) + 1) = 7 by decide +kernel]
  refine sg_J1_indexOfChar_4cfef_b_7 _ _ _ _ _ _ _ ⟨fun c => absurd c (by decide), fun _ => ⟨by decide, fun c7 => ?_, fun c7 => fin _ ?_⟩⟩
  rotate_left
  · have e : t = 42 := b8e h1 h2 (by decide) (by decide) c7
    rw [e]
    decide +kernel
  have n7 : ¬ t = 42 := b8n h1 h2 (by decide) (by decide) c7
  rw [show w32 ((7 : Int) + 1) = 8 by decide +kernel]
  refine sg_J1_indexOfChar_4cfef_b_7 _ _ _ _ _ _ _ ⟨fun c => absurd c (by decide), fun _ => ⟨by decide, fun c8 => ?_, fun c8 => fin _ ?_⟩⟩
  rotate_left
  · have e : t = 47 := b8e h1 h2 (by decide) (by decide) c8
    rw [e]
    decide +kernel
  have n8 : ¬ t = 47 := b8n h1 h2 (by decide) (by decide) c8
  rw [show w32 ((8 : Int) + 1) = 9 by decide +kernel]
  refine sg_J1_indexOfChar_4cfef_b_7 _ _ _ _ _ _ _ ⟨fun c => absurd c (by decide), fun _ => ⟨by decide, fun c9 => ?_, fun c9 => fin _ ?_⟩⟩
  rotate_left
  · have e : t = 37 := b8e h1 h2 (by decide) (by decide) c9
    rw [e]
    decide +kernel
  have n9 : ¬ t = 37 := b8n h1 h2 (by decide) (by decide) c9
  rw [show w32 ((9 : Int) + 1) = 10 by decide +kernel]
  refine sg_J1_indexOfChar_4cfef_b_7 _ _ _ _ _ _ _ ⟨fun _ => fin _ ?_, fun c => absurd (by decide) c⟩
  simp [ixB, n0, n1, n2, n3, n4, n5, n6, n7, n8, n9]
end

set_option maxRecDepth 10000 in
theorem sg_L_law_18 {d : Nat}  (a3 : Int) (L : List Int) (hL0 : ∀ v ∈ L, ri v) (hn : L.length < 2000000) (mem : AMem) (Q : Option AV → AMem → Prop) (h : ((w32 ((L.length : Int) - 6)) < a3 → (Q (some (vi 1)) mem)) ∧ (¬ (w32 ((L.length : Int) - 6)) < a3 → ((0 ≤ a3 ∧ a3 < (L.length : Int)) ∧ (((an32 (List.getD L (Int.toNat a3) 0) 63) = 0 → (Y cL_law 4 RL (d + 1) (some L) 200 [some (vr 2010 0), some (vr 11 0), some (vr 12 0), some (vi a3)] [] mem Q)) ∧ ((an32 (List.getD L (Int.toNat a3) 0) 63) = 1 → (Y cL_law 4 RL (d + 1) (some L) 233 [some (vr 2010 0), some (vr 11 0), some (vr 12 0), some (vi a3)] [] mem Q)) ∧ ((an32 (List.getD L (Int.toNat a3) 0) 63) = 2 → (Y cL_law 4 RL (d + 1) (some L) 276 [some (vr 2010 0), some (vr 11 0), some (vr 12 0), some (vi a3)] [] mem Q)) ∧ ((an32 (List.getD L (Int.toNat a3) 0) 63) = 3 → (Y cL_law 4 RL (d + 1) (some L) 319 [some (vr 2010 0), some (vr 11 0), some (vr 12 0), some (vi a3)] [] mem Q)) ∧ ((an32 (List.getD L (Int.toNat a3) 0) 63) = 4 → (Y cL_law 4 RL (d + 1) (some L) 352 [some (vr 2010 0), some (vr 11 0), some (vr 12 0), some (vi a3)] [] mem Q)) ∧ ((an32 (List.getD L (Int.toNat a3) 0) 63) = 5 → (Y cL_law 4 RL (d + 1) (some L) 375 [some (vr 2010 0), some (vr 11 0), some (vr 12 0), some (vi a3)] [] mem Q)) ∧ ((an32 (List.getD L (Int.toNat a3) 0) 63) = 6 → (Y cL_law 4 RL (d + 1) (some L) 388 [some (vr 2010 0), some (vr 11 0), some (vr 12 0), some (vi a3)] [] mem Q)) ∧ ((an32 (List.getD L (Int.toNat a3) 0) 63) = 7 → (Y cL_law 4 RL (d + 1) (some L) 431 [some (vr 2010 0), some (vr 11 0), some (vr 12 0), some (vi a3)] [] mem Q)) ∧ ((an32 (List.getD L (Int.toNat a3) 0) 63) = 8 → (Y cL_law 4 RL (d + 1) (some L) 464 [some (vr 2010 0), some (vr 11 0), some (vr 12 0), some (vi a3)] [] mem Q)) ∧ ((an32 (List.getD L (Int.toNat a3) 0) 63) = 9 → (Y cL_law 4 RL (d + 1) (some L) 507 [some (vr 2010 0), some (vr 11 0), some (vr 12 0), some (vi a3)] [] mem Q)) ∧ ((an32 (List.getD L (Int.toNat a3) 0) 63) = 10 → (Y cL_law 4 RL (d + 1) (some L) 540 [some (vr 2010 0), some (vr 11 0), some (vr 12 0), some (vi a3)] [] mem Q)) ∧ ((an32 (List.getD L (Int.toNat a3) 0) 63) = 11 → (Y cL_law 4 RL (d + 1) (some L) 573 [some (vr 2010 0), some (vr 11 0), some (vr 12 0), some (vi a3)] [] mem Q)) ∧ ((an32 (List.getD L (Int.toNat a3) 0) 63) = 12 → (Y cL_law 4 RL (d + 1) (some L) 596 [some (vr 2010 0), some (vr 11 0), some (vr 12 0), some (vi a3)] [] mem Q)) ∧ ((an32 (List.getD L (Int.toNat a3) 0) 63) = 13 → (Y cL_law 4 RL (d + 1) (some L) 619 [some (vr 2010 0), some (vr 11 0), some (vr 12 0), some (vi a3)] [] mem Q)) ∧ ((an32 (List.getD L (Int.toNat a3) 0) 63) = 14 → (Y cL_law 4 RL (d + 1) (some L) 662 [some (vr 2010 0), some (vr 11 0), some (vr 12 0), some (vi a3)] [] mem Q)) ∧ ((an32 (List.getD L (Int.toNat a3) 0) 63) = 15 → (Y cL_law 4 RL (d + 1) (some L) 685 [some (vr 2010 0), some (vr 11 0), some (vr 12 0), some (vi a3)] [] mem Q)) ∧ ((an32 (List.getD L (Int.toNat a3) 0) 63) = 16 → (Y cL_law 4 RL (d + 1) (some L) 708 [some (vr 2010 0), some (vr 11 0), some (vr 12 0), some (vi a3)] [] mem Q)) ∧ ((an32 (List.getD L (Int.toNat a3) 0) 63) = 17 → (Y cL_law 4 RL (d + 1) (some L) 751 [some (vr 2010 0), some (vr 11 0), some (vr 12 0), some (vi a3)] [] mem Q)) ∧ ((an32 (List.getD L (Int.toNat a3) 0) 63) = 18 → (Y cL_law 4 RL (d + 1) (some L) 804 [some (vr 2010 0), some (vr 11 0), some (vr 12 0), some (vi a3)] [] mem Q)) ∧ ((an32 (List.getD L (Int.toNat a3) 0) 63) = 19 → (Y cL_law 4 RL (d + 1) (some L) 837 [some (vr 2010 0), some (vr 11 0), some (vr 12 0), some (vi a3)] [] mem Q)) ∧ ((an32 (List.getD L (Int.toNat a3) 0) 63) = 20 → (Y cL_law 4 RL (d + 1) (some L) 890 [some (vr 2010 0), some (vr 11 0), some (vr 12 0), some (vi a3)] [] mem Q)) ∧ ((an32 (List.getD L (Int.toNat a3) 0) 63) = 21 → (Y cL_law 4 RL (d + 1) (some L) 933 [some (vr 2010 0), some (vr 11 0), some (vr 12 0), some (vi a3)] [] mem Q)) ∧ ((an32 (List.getD L (Int.toNat a3) 0) 63) = 22 → (Y cL_law 4 RL (d + 1) (some L) 956 [some (vr 2010 0), some (vr 11 0), some (vr 12 0), some (vi a3)] [] mem Q)) ∧ ((an32 (List.getD L (Int.toNat a3) 0) 63) = 23 → (Y cL_law 4 RL (d + 1) (some L) 969 [some (vr 2010 0), some (vr 11 0), some (vr 12 0), some (vi a3)] [] mem Q)) ∧ ((an32 (List.getD L (Int.toNat a3) 0) 63) = 24 → (Y cL_law 4 RL (d + 1) (some L) 992 [some (vr 2010 0), some (vr 11 0), some (vr 12 0), some (vi a3)] [] mem Q)) ∧ ((an32 (List.getD L (Int.toNat a3) 0) 63) = 25 → (Y cL_law 4 RL (d + 1) (some L) 1005 [some (vr 2010 0), some (vr 11 0), some (vr 12 0), some (vi a3)] [] mem Q)) ∧ ((an32 (List.getD L (Int.toNat a3) 0) 63) = 26 → (Y cL_law 4 RL (d + 1) (some L) 1018 [some (vr 2010 0), some (vr 11 0), some (vr 12 0), some (vi a3)] [] mem Q)) ∧ ((an32 (List.getD L (Int.toNat a3) 0) 63) = 27 → (Y cL_law 4 RL (d + 1) (some L) 1031 [some (vr 2010 0), some (vr 11 0), some (vr 12 0), some (vi a3)] [] mem Q)) ∧ ((an32 (List.getD L (Int.toNat a3) 0) 63) = 28 → (Y cL_law 4 RL (d + 1) (some L) 1044 [some (vr 2010 0), some (vr 11 0), some (vr 12 0), some (vi a3)] [] mem Q)) ∧ ((an32 (List.getD L (Int.toNat a3) 0) 63) = 29 → (Y cL_law 4 RL (d + 1) (some L) 1067 [some (vr 2010 0), some (vr 11 0), some (vr 12 0), some (vi a3)] [] mem Q)) ∧ ((an32 (List.getD L (Int.toNat a3) 0) 63) = 30 → (Y cL_law 4 RL (d + 1) (some L) 1110 [some (vr 2010 0), some (vr 11 0), some (vr 12 0), some (vi a3)] [] mem Q)) ∧ ((an32 (List.getD L (Int.toNat a3) 0) 63) = 31 → (Y cL_law 4 RL (d + 1) (some L) 1133 [some (vr 2010 0), some (vr 11 0), some (vr 12 0), some (vi a3)] [] mem Q)) ∧ ((an32 (List.getD L (Int.toNat a3) 0) 63) = 32 → (Y cL_law 4 RL (d + 1) (some L) 1166 [some (vr 2010 0), some (vr 11 0), some (vr 12 0), some (vi a3)] [] mem Q)) ∧ ((an32 (List.getD L (Int.toNat a3) 0) 63) = 33 → (Y cL_law 4 RL (d + 1) (some L) 1209 [some (vr 2010 0), some (vr 11 0), some (vr 12 0), some (vi a3)] [] mem Q)) ∧ ((an32 (List.getD L (Int.toNat a3) 0) 63) = 34 → (Y cL_law 4 RL (d + 1) (some L) 1282 [some (vr 2010 0), some (vr 11 0), some (vr 12 0), some (vi a3)] [] mem Q)) ∧ ((an32 (List.getD L (Int.toNat a3) 0) 63) = 35 → (Y cL_law 4 RL (d + 1) (some L) 1316 [some (vr 2010 0), some (vr 11 0), some (vr 12 0), some (vi a3)] [] mem Q)) ∧ ((an32 (List.getD L (Int.toNat a3) 0) 63) = 36 → (Y cL_law 4 RL (d + 1) (some L) 1379 [some (vr 2010 0), some (vr 11 0), some (vr 12 0), some (vi a3)] [] mem Q)) ∧ ((an32 (List.getD L (Int.toNat a3) 0) 63) = 37 → (Y cL_law 4 RL (d + 1) (some L) 1412 [some (vr 2010 0), some (vr 11 0), some (vr 12 0), some (vi a3)] [] mem Q)) ∧ (¬ (0 ≤ (an32 (List.getD L (Int.toNat a3) 0) 63) ∧ (an32 (List.getD L (Int.toNat a3) 0) 63) ≤ 37) → (Y cL_law 4 RL (d + 1) (some L) 1435 [some (vr 2010 0), some (vr 11 0), some (vr 12 0), some (vi a3)] [] mem Q)))))) : Y cL_law 4 RL (d + 1) (some L) 18 [some (vr 2010 0), some (vr 11 0), some (vr 12 0), some (vi a3)] [] mem Q := by
  refine a_iload_n dL_law_18 rfl rfl ?_
  refine a_aload_n dL_law_19 rfl rfl ?_
  refine a_slen rfl hn dL_law_20 ?_
  refine a_bipush (k := 6) dL_law_21 (by decide) (n_lit (by decide)) ?_
  refine a_isub dL_law_23 ?_
  refine a_icmp_gt (tgt := 1441) dL_law_24 (by decide) ⟨fun c1 => ?_, fun c1 => ?_⟩
  · refine a_iconst (k := 1) dL_law_1441 (n_lit (by decide)) ?_
    exact a_iret dL_law_1442 (h.1 c1)
  · refine a_aload_n dL_law_27 rfl rfl ?_
    refine a_iload_n dL_law_28 rfl rfl ?_
    refine a_script rfl hL0 dL_law_29 ⟨(h.2 c1).1, ?_⟩
    refine a_bipush (k := 63) dL_law_30 (by decide) (n_lit (by decide)) ?_
    refine a_iand dL_law_32 ?_
    refine a_table dL_law_33 (fun z => if z = 0 then 200 else if z = 1 then 233 else if z = 2 then 276 else if z = 3 then 319 else if z = 4 then 352 else if z = 5 then 375 else if z = 6 then 388 else if z = 7 then 431 else if z = 8 then 464 else if z = 9 then 507 else if z = 10 then 540 else if z = 11 then 573 else if z = 12 then 596 else if z = 13 then 619 else if z = 14 then 662 else if z = 15 then 685 else if z = 16 then 708 else if z = 17 then 751 else if z = 18 then 804 else if z = 19 then 837 else if z = 20 then 890 else if z = 21 then 933 else if z = 22 then 956 else if z = 23 then 969 else if z = 24 then 992 else if z = 25 then 1005 else if z = 26 then 1018 else if z = 27 then 1031 else if z = 28 then 1044 else if z = 29 then 1067 else if z = 30 then 1110 else if z = 31 then 1133 else if z = 32 then 1166 else if z = 33 then 1209 else if z = 34 then 1282 else if z = 35 then 1316 else if z = 36 then 1379 else if z = 37 then 1412 else 0) 1435 (by decide) (by decide) (by decide) ⟨fun e2a e2b => ?_, fun e3 => ?_⟩
    · rcases (by omega : (an32 (List.getD L (Int.toNat a3) 0) 63) = 0 ∨ (an32 (List.getD L (Int.toNat a3) 0) 63) = 1 ∨ (an32 (List.getD L (Int.toNat a3) 0) 63) = 2 ∨ (an32 (List.getD L (Int.toNat a3) 0) 63) = 3 ∨ (an32 (List.getD L (Int.toNat a3) 0) 63) = 4 ∨ (an32 (List.getD L (Int.toNat a3) 0) 63) = 5 ∨ (an32 (List.getD L (Int.toNat a3) 0) 63) = 6 ∨ (an32 (List.getD L (Int.toNat a3) 0) 63) = 7 ∨ (an32 (List.getD L (Int.toNat a3) 0) 63) = 8 ∨ (an32 (List.getD L (Int.toNat a3) 0) 63) = 9 ∨ (an32 (List.getD L (Int.toNat a3) 0) 63) = 10 ∨ (an32 (List.getD L (Int.toNat a3) 0) 63) = 11 ∨ (an32 (List.getD L (Int.toNat a3) 0) 63) = 12 ∨ (an32 (List.getD L (Int.toNat a3) 0) 63) = 13 ∨ (an32 (List.getD L (Int.toNat a3) 0) 63) = 14 ∨ (an32 (List.getD L (Int.toNat a3) 0) 63) = 15 ∨ (an32 (List.getD L (Int.toNat a3) 0) 63) = 16 ∨ (an32 (List.getD L (Int.toNat a3) 0) 63) = 17 ∨ (an32 (List.getD L (Int.toNat a3) 0) 63) = 18 ∨ (an32 (List.getD L (Int.toNat a3) 0) 63) = 19 ∨ (an32 (List.getD L (Int.toNat a3) 0) 63) = 20 ∨ (an32 (List.getD L (Int.toNat a3) 0) 63) = 21 ∨ (an32 (List.getD L (Int.toNat a3) 0) 63) = 22 ∨ (an32 (List.getD L (Int.toNat a3) 0) 63) = 23 ∨ (an32 (List.getD L (Int.toNat a3) 0) 63) = 24 ∨ (an32 (List.getD L (Int.toNat a3) 0) 63) = 25 ∨ (an32 (List.getD L (Int.toNat a3) 0) 63) = 26 ∨ (an32 (List.getD L (Int.toNat a3) 0) 63) = 27 ∨ (an32 (List.getD L (Int.toNat a3) 0) 63) = 28 ∨ (an32 (List.getD L (Int.toNat a3) 0) 63) = 29 ∨ (an32 (List.getD L (Int.toNat a3) 0) 63) = 30 ∨ (an32 (List.getD L (Int.toNat a3) 0) 63) = 31 ∨ (an32 (List.getD L (Int.toNat a3) 0) 63) = 32 ∨ (an32 (List.getD L (Int.toNat a3) 0) 63) = 33 ∨ (an32 (List.getD L (Int.toNat a3) 0) 63) = 34 ∨ (an32 (List.getD L (Int.toNat a3) 0) 63) = 35 ∨ (an32 (List.getD L (Int.toNat a3) 0) 63) = 36 ∨ (an32 (List.getD L (Int.toNat a3) 0) 63) = 37) with e2 | e2 | e2 | e2 | e2 | e2 | e2 | e2 | e2 | e2 | e2 | e2 | e2 | e2 | e2 | e2 | e2 | e2 | e2 | e2 | e2 | e2 | e2 | e2 | e2 | e2 | e2 | e2 | e2 | e2 | e2 | e2 | e2 | e2 | e2 | e2 | e2 | e2
      · refine Y_at (pc := 200) (by rw [e2]; rfl) ?_
        exact ((h.2 c1).2.1 e2)
      · refine Y_at (pc := 233) (by rw [e2]; rfl) ?_
        exact ((h.2 c1).2.2.1 e2)
      · refine Y_at (pc := 276) (by rw [e2]; rfl) ?_
        exact ((h.2 c1).2.2.2.1 e2)
      · refine Y_at (pc := 319) (by rw [e2]; rfl) ?_
        exact ((h.2 c1).2.2.2.2.1 e2)
      · refine Y_at (pc := 352) (by rw [e2]; rfl) ?_
        exact ((h.2 c1).2.2.2.2.2.1 e2)
      · refine Y_at (pc := 375) (by rw [e2]; rfl) ?_
        exact ((h.2 c1).2.2.2.2.2.2.1 e2)
      · refine Y_at (pc := 388) (by rw [e2]; rfl) ?_
        exact ((h.2 c1).2.2.2.2.2.2.2.1 e2)
      · refine Y_at (pc := 431) (by rw [e2]; rfl) ?_
        exact ((h.2 c1).2.2.2.2.2.2.2.2.1 e2)
      · refine Y_at (pc := 464) (by rw [e2]; rfl) ?_
        exact ((h.2 c1).2.2.2.2.2.2.2.2.2.1 e2)
      · refine Y_at (pc := 507) (by rw [e2]; rfl) ?_
        exact ((h.2 c1).2.2.2.2.2.2.2.2.2.2.1 e2)
      · refine Y_at (pc := 540) (by rw [e2]; rfl) ?_
        exact ((h.2 c1).2.2.2.2.2.2.2.2.2.2.2.1 e2)
      · refine Y_at (pc := 573) (by rw [e2]; rfl) ?_
        exact ((h.2 c1).2.2.2.2.2.2.2.2.2.2.2.2.1 e2)
      · refine Y_at (pc := 596) (by rw [e2]; rfl) ?_
        exact ((h.2 c1).2.2.2.2.2.2.2.2.2.2.2.2.2.1 e2)
      · refine Y_at (pc := 619) (by rw [e2]; rfl) ?_
        exact ((h.2 c1).2.2.2.2.2.2.2.2.2.2.2.2.2.2.1 e2)
      · refine Y_at (pc := 662) (by rw [e2]; rfl) ?_
        exact ((h.2 c1).2.2.2.2.2.2.2.2.2.2.2.2.2.2.2.1 e2)
      · refine Y_at (pc := 685) (by rw [e2]; rfl) ?_
        exact ((h.2 c1).2.2.2.2.2.2.2.2.2.2.2.2.2.2.2.2.1 e2)
      · refine Y_at (pc := 708) (by rw [e2]; rfl) ?_
        exact ((h.2 c1).2.2.2.2.2.2.2.2.2.2.2.2.2.2.2.2.2.1 e2)
      · refine Y_at (pc := 751) (by rw [e2]; rfl) ?_
        exact ((h.2 c1).2.2.2.2.2.2.2.2.2.2.2.2.2.2.2.2.2.2.1 e2)
      · refine Y_at (pc := 804) (by rw [e2]; rfl) ?_
        exact ((h.2 c1).2.2.2.2.2.2.2.2.2.2.2.2.2.2.2.2.2.2.2.1 e2)
      · refine Y_at (pc := 837) (by rw [e2]; rfl) ?_
        exact ((h.2 c1).2.2.2.2.2.2.2.2.2.2.2.2.2.2.2.2.2.2.2.2.1 e2)
      · refine Y_at (pc := 890) (by rw [e2]; rfl) ?_
        exact ((h.2 c1).2.2.2.2.2.2.2.2.2.2.2.2.2.2.2.2.2.2.2.2.2.1 e2)
      · refine Y_at (pc := 933) (by rw [e2]; rfl) ?_
        exact ((h.2 c1).2.2.2.2.2.2.2.2.2.2.2.2.2.2.2.2.2.2.2.2.2.2.1 e2)
      · refine Y_at (pc := 956) (by rw [e2]; rfl) ?_
        exact ((h.2 c1).2.2.2.2.2.2.2.2.2.2.2.2.2.2.2.2.2.2.2.2.2.2.2.1 e2)
      · refine Y_at (pc := 969) (by rw [e2]; rfl) ?_
        exact ((h.2 c1).2.2.2.2.2.2.2.2.2.2.2.2.2.2.2.2.2.2.2.2.2.2.2.2.1 e2)
      · refine Y_at (pc := 992) (by rw [e2]; rfl) ?_
        exact ((h.2 c1).2.2.2.2.2.2.2.2.2.2.2.2.2.2.2.2.2.2.2.2.2.2.2.2.2.1 e2)
      · refine Y_at (pc := 1005) (by rw [e2]; rfl) ?_
        exact ((h.2 c1).2.2.2.2.2.2.2.2.2.2.2.2.2.2.2.2.2.2.2.2.2.2.2.2.2.2.1 e2)
      · refine Y_at (pc := 1018) (by rw [e2]; rfl) ?_
        exact ((h.2 c1).2.2.2.2.2.2.2.2.2.2.2.2.2.2.2.2.2.2.2.2.2.2.2.2.2.2.2.1 e2)
      · refine Y_at (pc := 1031) (by rw [e2]; rfl) ?_
        exact ((h.2 c1).2.2.2.2.2.2.2.2.2.2.2.2.2.2.2.2.2.2.2.2.2.2.2.2.2.2.2.2.1 e2)
      · refine Y_at (pc := 1044) (by rw [e2]; rfl) ?_
        exact ((h.2 c1).2.2.2.2.2.2.2.2.2.2.2.2.2.2.2.2.2.2.2.2.2.2.2.2.2.2.2.2.2.1 e2)
      · refine Y_at (pc := 1067) (by rw [e2]; rfl) ?_
        exact ((h.2 c1).2.2.2.2.2.2.2.2.2.2.2.2.2.2.2.2.2.2.2.2.2.2.2.2.2.2.2.2.2.2.1 e2)
      · refine Y_at (pc := 1110) (by rw [e2]; rfl) ?_
        exact ((h.2 c1).2.2.2.2.2.2.2.2.2.2.2.2.2.2.2.2.2.2.2.2.2.2.2.2.2.2.2.2.2.2.2.1 e2)
      · refine Y_at (pc := 1133) (by rw [e2]; rfl) ?_
        exact ((h.2 c1).2.2.2.2.2.2.2.2.2.2.2.2.2.2.2.2.2.2.2.2.2.2.2.2.2.2.2.2.2.2.2.2.1 e2)
      · refine Y_at (pc := 1166) (by rw [e2]; rfl) ?_
        exact ((h.2 c1).2.2.2.2.2.2.2.2.2.2.2.2.2.2.2.2.2.2.2.2.2.2.2.2.2.2.2.2.2.2.2.2.2.1 e2)
      · refine Y_at (pc := 1209) (by rw [e2]; rfl) ?_
        exact ((h.2 c1).2.2.2.2.2.2.2.2.2.2.2.2.2.2.2.2.2.2.2.2.2.2.2.2.2.2.2.2.2.2.2.2.2.2.1 e2)
      · refine Y_at (pc := 1282) (by rw [e2]; rfl) ?_
        exact ((h.2 c1).2.2.2.2.2.2.2.2.2.2.2.2.2.2.2.2.2.2.2.2.2.2.2.2.2.2.2.2.2.2.2.2.2.2.2.1 e2)
      · refine Y_at (pc := 1316) (by rw [e2]; rfl) ?_
        exact ((h.2 c1).2.2.2.2.2.2.2.2.2.2.2.2.2.2.2.2.2.2.2.2.2.2.2.2.2.2.2.2.2.2.2.2.2.2.2.2.1 e2)
      · refine Y_at (pc := 1379) (by rw [e2]; rfl) ?_
        exact ((h.2 c1).2.2.2.2.2.2.2.2.2.2.2.2.2.2.2.2.2.2.2.2.2.2.2.2.2.2.2.2.2.2.2.2.2.2.2.2.2.1 e2)
      · refine Y_at (pc := 1412) (by rw [e2]; rfl) ?_
        exact ((h.2 c1).2.2.2.2.2.2.2.2.2.2.2.2.2.2.2.2.2.2.2.2.2.2.2.2.2.2.2.2.2.2.2.2.2.2.2.2.2.2.1 e2)
    · exact ((h.2 c1).2.2.2.2.2.2.2.2.2.2.2.2.2.2.2.2.2.2.2.2.2.2.2.2.2.2.2.2.2.2.2.2.2.2.2.2.2.2.2 e3)
set_option maxRecDepth 10000 in
theorem sg_L_law_200 {d : Nat}  (a3 : Int) (L : List Int) (hL0 : ∀ v ∈ L, ri v) (hn : L.length < 2000000) (mem : AMem) (Q : Option AV → AMem → Prop) (h : (0 ≤ (w32 (a3 + 1)) ∧ (w32 (a3 + 1)) < (L.length : Int)) ∧ ((0 ≤ (w32 (a3 + 2)) ∧ (w32 (a3 + 2)) < (L.length : Int)) ∧ (MtX yX11_defender cX11_defender 3 (some .int) d [vr 11 0, vi (List.getD L (Int.toNat (w32 (a3 + 1))) 0), vi (List.getD L (Int.toNat (w32 (a3 + 2))) 0)] mem (fun r m1 => ∃ x3 : Int, r = some (vi x3) ∧ ((0 ≤ (w32 (a3 + 1)) ∧ (w32 (a3 + 1)) < (L.length : Int)) ∧ ((0 ≤ (w32 (a3 + 2)) ∧ (w32 (a3 + 2)) < (L.length : Int)) ∧ (MtX yX12_defender cX12_defender 3 (some .int) d [vr 12 0, vi (List.getD L (Int.toNat (w32 (a3 + 1))) 0), vi (List.getD L (Int.toNat (w32 (a3 + 2))) 0)] m1 (fun r m4 => ∃ x6 : Int, r = some (vi x6) ∧ ((x3 = x6 → (Y cL_law 4 RL (d + 1) (some L) 1435 [some (vr 2010 0), some (vr 11 0), some (vr 12 0), some (vi a3)] [] m4 Q)) ∧ (¬ x3 = x6 → (Q (some (vi 0)) m4))))))))))) : Y cL_law 4 RL (d + 1) (some L) 200 [some (vr 2010 0), some (vr 11 0), some (vr 12 0), some (vi a3)] [] mem Q := by
  refine a_aload_n dL_law_200 rfl rfl ?_
  refine a_aload_n dL_law_201 rfl rfl ?_
  refine a_iload_n dL_law_202 rfl rfl ?_
  refine a_iconst (k := 1) dL_law_203 (n_lit (by decide)) ?_
  refine a_iadd dL_law_204 ?_
  refine a_script rfl hL0 dL_law_205 ⟨h.1, ?_⟩
  refine a_aload_n dL_law_206 rfl rfl ?_
  refine a_iload_n dL_law_207 rfl rfl ?_
  refine a_iconst (k := 2) dL_law_208 (n_lit (by decide)) ?_
  refine a_iadd dL_law_209 ?_
  refine a_script rfl hL0 dL_law_210 ⟨h.2.1, ?_⟩
  refine iv_L_13 dL_law_211 (Nat.le_of_ble_eq_true rfl) (MtX_mono h.2.2 (fun r m1 hq => ?_))
  obtain ⟨x3, rfl, h2⟩ := hq
  refine ⟨x3, rfl, ?_⟩
  refine a_aload_n dL_law_214 rfl rfl ?_
  refine a_aload_n dL_law_215 rfl rfl ?_
  refine a_iload_n dL_law_216 rfl rfl ?_
  refine a_iconst (k := 1) dL_law_217 (n_lit (by decide)) ?_
  refine a_iadd dL_law_218 ?_
  refine a_script rfl hL0 dL_law_219 ⟨h2.1, ?_⟩
  refine a_aload_n dL_law_220 rfl rfl ?_
  refine a_iload_n dL_law_221 rfl rfl ?_
  refine a_iconst (k := 2) dL_law_222 (n_lit (by decide)) ?_
  refine a_iadd dL_law_223 ?_
  refine a_script rfl hL0 dL_law_224 ⟨h2.2.1, ?_⟩
  refine iv_L_17 dL_law_225 (Nat.le_of_ble_eq_true rfl) (MtX_mono h2.2.2 (fun r m4 hq => ?_))
  obtain ⟨x6, rfl, h5⟩ := hq
  refine ⟨x6, rfl, ?_⟩
  refine a_icmp_eq (tgt := 1435) dL_law_228 (by decide) ⟨fun c7 => ?_, fun c7 => ?_⟩
  · exact (h5.1 c7)
  · refine a_iconst (k := 0) dL_law_231 (n_lit (by decide)) ?_
    exact a_iret dL_law_232 (h5.2 c7)
set_option maxRecDepth 10000 in
theorem sg_L_law_233 {d : Nat}  (a3 : Int) (L : List Int) (hL0 : ∀ v ∈ L, ri v) (hn : L.length < 2000000) (mem : AMem) (Q : Option AV → AMem → Prop) (h : (0 ≤ (w32 (a3 + 1)) ∧ (w32 (a3 + 1)) < (L.length : Int)) ∧ ((0 ≤ (w32 (a3 + 2)) ∧ (w32 (a3 + 2)) < (L.length : Int)) ∧ ((0 ≤ (w32 (a3 + 3)) ∧ (w32 (a3 + 3)) < (L.length : Int)) ∧ (MtX yX11_defenders cX11_defenders 5 (some .int) d [vr 11 0, vi (List.getD L (Int.toNat (w32 (a3 + 1))) 0), vi (List.getD L (Int.toNat (w32 (a3 + 2))) 0), vi (List.getD L (Int.toNat (w32 (a3 + 3))) 0)] mem (fun r m1 => ∃ x3 : Int, r = some (vi x3) ∧ ((0 ≤ (w32 (a3 + 1)) ∧ (w32 (a3 + 1)) < (L.length : Int)) ∧ ((0 ≤ (w32 (a3 + 2)) ∧ (w32 (a3 + 2)) < (L.length : Int)) ∧ ((0 ≤ (w32 (a3 + 3)) ∧ (w32 (a3 + 3)) < (L.length : Int)) ∧ (MtX yX12_defenders cX12_defenders 8 (some .int) d [vr 12 0, vi (List.getD L (Int.toNat (w32 (a3 + 1))) 0), vi (List.getD L (Int.toNat (w32 (a3 + 2))) 0), vi (List.getD L (Int.toNat (w32 (a3 + 3))) 0)] m1 (fun r m4 => ∃ x6 : Int, r = some (vi x6) ∧ ((x3 = x6 → (Y cL_law 4 RL (d + 1) (some L) 1435 [some (vr 2010 0), some (vr 11 0), some (vr 12 0), some (vi a3)] [] m4 Q)) ∧ (¬ x3 = x6 → (Q (some (vi 0)) m4))))))))))))) : Y cL_law 4 RL (d + 1) (some L) 233 [some (vr 2010 0), some (vr 11 0), some (vr 12 0), some (vi a3)] [] mem Q := by
  refine a_aload_n dL_law_233 rfl rfl ?_
  refine a_aload_n dL_law_234 rfl rfl ?_
  refine a_iload_n dL_law_235 rfl rfl ?_
  refine a_iconst (k := 1) dL_law_236 (n_lit (by decide)) ?_
  refine a_iadd dL_law_237 ?_
  refine a_script rfl hL0 dL_law_238 ⟨h.1, ?_⟩
  refine a_aload_n dL_law_239 rfl rfl ?_
  refine a_iload_n dL_law_240 rfl rfl ?_
  refine a_iconst (k := 2) dL_law_241 (n_lit (by decide)) ?_
  refine a_iadd dL_law_242 ?_
  refine a_script rfl hL0 dL_law_243 ⟨h.2.1, ?_⟩
  refine a_aload_n dL_law_244 rfl rfl ?_
  refine a_iload_n dL_law_245 rfl rfl ?_
  refine a_iconst (k := 3) dL_law_246 (n_lit (by decide)) ?_
  refine a_iadd dL_law_247 ?_
  refine a_script rfl hL0 dL_law_248 ⟨h.2.2.1, ?_⟩
  refine iv_L_18 dL_law_249 (Nat.le_of_ble_eq_true rfl) (MtX_mono h.2.2.2 (fun r m1 hq => ?_))
  obtain ⟨x3, rfl, h2⟩ := hq
  refine ⟨x3, rfl, ?_⟩
  refine a_aload_n dL_law_252 rfl rfl ?_
  refine a_aload_n dL_law_253 rfl rfl ?_
  refine a_iload_n dL_law_254 rfl rfl ?_
  refine a_iconst (k := 1) dL_law_255 (n_lit (by decide)) ?_
  refine a_iadd dL_law_256 ?_
  refine a_script rfl hL0 dL_law_257 ⟨h2.1, ?_⟩
  refine a_aload_n dL_law_258 rfl rfl ?_
  refine a_iload_n dL_law_259 rfl rfl ?_
  refine a_iconst (k := 2) dL_law_260 (n_lit (by decide)) ?_
  refine a_iadd dL_law_261 ?_
  refine a_script rfl hL0 dL_law_262 ⟨h2.2.1, ?_⟩
  refine a_aload_n dL_law_263 rfl rfl ?_
  refine a_iload_n dL_law_264 rfl rfl ?_
  refine a_iconst (k := 3) dL_law_265 (n_lit (by decide)) ?_
  refine a_iadd dL_law_266 ?_
  refine a_script rfl hL0 dL_law_267 ⟨h2.2.2.1, ?_⟩
  refine iv_L_22 dL_law_268 (Nat.le_of_ble_eq_true rfl) (MtX_mono h2.2.2.2 (fun r m4 hq => ?_))
  obtain ⟨x6, rfl, h5⟩ := hq
  refine ⟨x6, rfl, ?_⟩
  refine a_icmp_eq (tgt := 1435) dL_law_271 (by decide) ⟨fun c7 => ?_, fun c7 => ?_⟩
  · exact (h5.1 c7)
  · refine a_iconst (k := 0) dL_law_274 (n_lit (by decide)) ?_
    exact a_iret dL_law_275 (h5.2 c7)
set_option maxRecDepth 10000 in
theorem sg_L_law_276 {d : Nat}  (a3 : Int) (L : List Int) (hL0 : ∀ v ∈ L, ri v) (hn : L.length < 2000000) (mem : AMem) (Q : Option AV → AMem → Prop) (h : (0 ≤ (w32 (a3 + 1)) ∧ (w32 (a3 + 1)) < (L.length : Int)) ∧ ((0 ≤ (w32 (a3 + 2)) ∧ (w32 (a3 + 2)) < (L.length : Int)) ∧ ((0 ≤ (w32 (a3 + 3)) ∧ (w32 (a3 + 3)) < (L.length : Int)) ∧ (MtX yX11_mend cX11_mend 5 (some .int) d [vr 11 0, vi (List.getD L (Int.toNat (w32 (a3 + 1))) 0), vi (List.getD L (Int.toNat (w32 (a3 + 2))) 0), vi (List.getD L (Int.toNat (w32 (a3 + 3))) 0)] mem (fun r m1 => ∃ x3 : Int, r = some (vi x3) ∧ ((0 ≤ (w32 (a3 + 1)) ∧ (w32 (a3 + 1)) < (L.length : Int)) ∧ ((0 ≤ (w32 (a3 + 2)) ∧ (w32 (a3 + 2)) < (L.length : Int)) ∧ ((0 ≤ (w32 (a3 + 3)) ∧ (w32 (a3 + 3)) < (L.length : Int)) ∧ (MtX yX12_mend cX12_mend 4 (some .int) d [vr 12 0, vi (List.getD L (Int.toNat (w32 (a3 + 1))) 0), vi (List.getD L (Int.toNat (w32 (a3 + 2))) 0), vi (List.getD L (Int.toNat (w32 (a3 + 3))) 0)] m1 (fun r m4 => ∃ x6 : Int, r = some (vi x6) ∧ ((x3 = x6 → (Y cL_law 4 RL (d + 1) (some L) 1435 [some (vr 2010 0), some (vr 11 0), some (vr 12 0), some (vi a3)] [] m4 Q)) ∧ (¬ x3 = x6 → (Q (some (vi 0)) m4))))))))))))) : Y cL_law 4 RL (d + 1) (some L) 276 [some (vr 2010 0), some (vr 11 0), some (vr 12 0), some (vi a3)] [] mem Q := by
  refine a_aload_n dL_law_276 rfl rfl ?_
  refine a_aload_n dL_law_277 rfl rfl ?_
  refine a_iload_n dL_law_278 rfl rfl ?_
  refine a_iconst (k := 1) dL_law_279 (n_lit (by decide)) ?_
  refine a_iadd dL_law_280 ?_
  refine a_script rfl hL0 dL_law_281 ⟨h.1, ?_⟩
  refine a_aload_n dL_law_282 rfl rfl ?_
  refine a_iload_n dL_law_283 rfl rfl ?_
  refine a_iconst (k := 2) dL_law_284 (n_lit (by decide)) ?_
  refine a_iadd dL_law_285 ?_
  refine a_script rfl hL0 dL_law_286 ⟨h.2.1, ?_⟩
  refine a_aload_n dL_law_287 rfl rfl ?_
  refine a_iload_n dL_law_288 rfl rfl ?_
  refine a_iconst (k := 3) dL_law_289 (n_lit (by decide)) ?_
  refine a_iadd dL_law_290 ?_
  refine a_script rfl hL0 dL_law_291 ⟨h.2.2.1, ?_⟩
  refine iv_L_23 dL_law_292 (Nat.le_of_ble_eq_true rfl) (MtX_mono h.2.2.2 (fun r m1 hq => ?_))
  obtain ⟨x3, rfl, h2⟩ := hq
  refine ⟨x3, rfl, ?_⟩
  refine a_aload_n dL_law_295 rfl rfl ?_
  refine a_aload_n dL_law_296 rfl rfl ?_
  refine a_iload_n dL_law_297 rfl rfl ?_
  refine a_iconst (k := 1) dL_law_298 (n_lit (by decide)) ?_
  refine a_iadd dL_law_299 ?_
  refine a_script rfl hL0 dL_law_300 ⟨h2.1, ?_⟩
  refine a_aload_n dL_law_301 rfl rfl ?_
  refine a_iload_n dL_law_302 rfl rfl ?_
  refine a_iconst (k := 2) dL_law_303 (n_lit (by decide)) ?_
  refine a_iadd dL_law_304 ?_
  refine a_script rfl hL0 dL_law_305 ⟨h2.2.1, ?_⟩
  refine a_aload_n dL_law_306 rfl rfl ?_
  refine a_iload_n dL_law_307 rfl rfl ?_
  refine a_iconst (k := 3) dL_law_308 (n_lit (by decide)) ?_
  refine a_iadd dL_law_309 ?_
  refine a_script rfl hL0 dL_law_310 ⟨h2.2.2.1, ?_⟩
  refine iv_L_26 dL_law_311 (Nat.le_of_ble_eq_true rfl) (MtX_mono h2.2.2.2 (fun r m4 hq => ?_))
  obtain ⟨x6, rfl, h5⟩ := hq
  refine ⟨x6, rfl, ?_⟩
  refine a_icmp_eq (tgt := 1435) dL_law_314 (by decide) ⟨fun c7 => ?_, fun c7 => ?_⟩
  · exact (h5.1 c7)
  · refine a_iconst (k := 0) dL_law_317 (n_lit (by decide)) ?_
    exact a_iret dL_law_318 (h5.2 c7)
set_option maxRecDepth 10000 in
theorem sg_L_law_319 {d : Nat}  (a3 : Int) (L : List Int) (hL0 : ∀ v ∈ L, ri v) (hn : L.length < 2000000) (mem : AMem) (Q : Option AV → AMem → Prop) (h : (0 ≤ (w32 (a3 + 1)) ∧ (w32 (a3 + 1)) < (L.length : Int)) ∧ ((0 ≤ (w32 (a3 + 2)) ∧ (w32 (a3 + 2)) < (L.length : Int)) ∧ (MtX yX11_of cX11_of 3 (some .int) d [vr 11 0, vi (List.getD L (Int.toNat (w32 (a3 + 1))) 0), vi (List.getD L (Int.toNat (w32 (a3 + 2))) 0)] mem (fun r m1 => ∃ x3 : Int, r = some (vi x3) ∧ ((0 ≤ (w32 (a3 + 1)) ∧ (w32 (a3 + 1)) < (L.length : Int)) ∧ ((0 ≤ (w32 (a3 + 2)) ∧ (w32 (a3 + 2)) < (L.length : Int)) ∧ (MtX yX12_of cX12_of 3 (some .int) d [vr 12 0, vi (List.getD L (Int.toNat (w32 (a3 + 1))) 0), vi (List.getD L (Int.toNat (w32 (a3 + 2))) 0)] m1 (fun r m4 => ∃ x6 : Int, r = some (vi x6) ∧ ((x3 = x6 → (Y cL_law 4 RL (d + 1) (some L) 1435 [some (vr 2010 0), some (vr 11 0), some (vr 12 0), some (vi a3)] [] m4 Q)) ∧ (¬ x3 = x6 → (Q (some (vi 0)) m4))))))))))) : Y cL_law 4 RL (d + 1) (some L) 319 [some (vr 2010 0), some (vr 11 0), some (vr 12 0), some (vi a3)] [] mem Q := by
  refine a_aload_n dL_law_319 rfl rfl ?_
  refine a_aload_n dL_law_320 rfl rfl ?_
  refine a_iload_n dL_law_321 rfl rfl ?_
  refine a_iconst (k := 1) dL_law_322 (n_lit (by decide)) ?_
  refine a_iadd dL_law_323 ?_
  refine a_script rfl hL0 dL_law_324 ⟨h.1, ?_⟩
  refine a_aload_n dL_law_325 rfl rfl ?_
  refine a_iload_n dL_law_326 rfl rfl ?_
  refine a_iconst (k := 2) dL_law_327 (n_lit (by decide)) ?_
  refine a_iadd dL_law_328 ?_
  refine a_script rfl hL0 dL_law_329 ⟨h.2.1, ?_⟩
  refine iv_L_27 dL_law_330 (Nat.le_of_ble_eq_true rfl) (MtX_mono h.2.2 (fun r m1 hq => ?_))
  obtain ⟨x3, rfl, h2⟩ := hq
  refine ⟨x3, rfl, ?_⟩
  refine a_aload_n dL_law_333 rfl rfl ?_
  refine a_aload_n dL_law_334 rfl rfl ?_
  refine a_iload_n dL_law_335 rfl rfl ?_
  refine a_iconst (k := 1) dL_law_336 (n_lit (by decide)) ?_
  refine a_iadd dL_law_337 ?_
  refine a_script rfl hL0 dL_law_338 ⟨h2.1, ?_⟩
  refine a_aload_n dL_law_339 rfl rfl ?_
  refine a_iload_n dL_law_340 rfl rfl ?_
  refine a_iconst (k := 2) dL_law_341 (n_lit (by decide)) ?_
  refine a_iadd dL_law_342 ?_
  refine a_script rfl hL0 dL_law_343 ⟨h2.2.1, ?_⟩
  refine iv_L_30 dL_law_344 (Nat.le_of_ble_eq_true rfl) (MtX_mono h2.2.2 (fun r m4 hq => ?_))
  obtain ⟨x6, rfl, h5⟩ := hq
  refine ⟨x6, rfl, ?_⟩
  refine a_icmp_eq (tgt := 1435) dL_law_347 (by decide) ⟨fun c7 => ?_, fun c7 => ?_⟩
  · exact (h5.1 c7)
  · refine a_iconst (k := 0) dL_law_350 (n_lit (by decide)) ?_
    exact a_iret dL_law_351 (h5.2 c7)
set_option maxRecDepth 10000 in
theorem sg_L_law_352 {d : Nat}  (a3 : Int) (L : List Int) (hL0 : ∀ v ∈ L, ri v) (hn : L.length < 2000000) (mem : AMem) (Q : Option AV → AMem → Prop) (h : (0 ≤ (w32 (a3 + 1)) ∧ (w32 (a3 + 1)) < (L.length : Int)) ∧ (MtX yX11_feed cX11_feed 2 (some .int) d [vr 11 0, vi (List.getD L (Int.toNat (w32 (a3 + 1))) 0)] mem (fun r m1 => ∃ x3 : Int, r = some (vi x3) ∧ ((0 ≤ (w32 (a3 + 1)) ∧ (w32 (a3 + 1)) < (L.length : Int)) ∧ (MtX yX12_feed cX12_feed 2 (some .int) d [vr 12 0, vi (List.getD L (Int.toNat (w32 (a3 + 1))) 0)] m1 (fun r m4 => ∃ x6 : Int, r = some (vi x6) ∧ ((x3 = x6 → (Y cL_law 4 RL (d + 1) (some L) 1435 [some (vr 2010 0), some (vr 11 0), some (vr 12 0), some (vi a3)] [] m4 Q)) ∧ (¬ x3 = x6 → (Q (some (vi 0)) m4))))))))) : Y cL_law 4 RL (d + 1) (some L) 352 [some (vr 2010 0), some (vr 11 0), some (vr 12 0), some (vi a3)] [] mem Q := by
  refine a_aload_n dL_law_352 rfl rfl ?_
  refine a_aload_n dL_law_353 rfl rfl ?_
  refine a_iload_n dL_law_354 rfl rfl ?_
  refine a_iconst (k := 1) dL_law_355 (n_lit (by decide)) ?_
  refine a_iadd dL_law_356 ?_
  refine a_script rfl hL0 dL_law_357 ⟨h.1, ?_⟩
  refine iv_L_31 dL_law_358 (Nat.le_of_ble_eq_true rfl) (MtX_mono h.2 (fun r m1 hq => ?_))
  obtain ⟨x3, rfl, h2⟩ := hq
  refine ⟨x3, rfl, ?_⟩
  refine a_aload_n dL_law_361 rfl rfl ?_
  refine a_aload_n dL_law_362 rfl rfl ?_
  refine a_iload_n dL_law_363 rfl rfl ?_
  refine a_iconst (k := 1) dL_law_364 (n_lit (by decide)) ?_
  refine a_iadd dL_law_365 ?_
  refine a_script rfl hL0 dL_law_366 ⟨h2.1, ?_⟩
  refine iv_L_35 dL_law_367 (Nat.le_of_ble_eq_true rfl) (MtX_mono h2.2 (fun r m4 hq => ?_))
  obtain ⟨x6, rfl, h5⟩ := hq
  refine ⟨x6, rfl, ?_⟩
  refine a_icmp_eq (tgt := 1435) dL_law_370 (by decide) ⟨fun c7 => ?_, fun c7 => ?_⟩
  · exact (h5.1 c7)
  · refine a_iconst (k := 0) dL_law_373 (n_lit (by decide)) ?_
    exact a_iret dL_law_374 (h5.2 c7)
set_option maxRecDepth 10000 in
theorem sg_L_law_375 {d : Nat}  (a3 : Int) (L : List Int) (hL0 : ∀ v ∈ L, ri v) (hn : L.length < 2000000) (mem : AMem) (Q : Option AV → AMem → Prop) (h : MtX yX11_law cX11_law 2 (some .int) d [vr 11 0] mem (fun r m1 => ∃ x3 : Int, r = some (vi x3) ∧ (MtX yX12_law cX12_law 2 (some .int) d [vr 12 0] m1 (fun r m4 => ∃ x6 : Int, r = some (vi x6) ∧ ((x3 = x6 → (Y cL_law 4 RL (d + 1) (some L) 1435 [some (vr 2010 0), some (vr 11 0), some (vr 12 0), some (vi a3)] [] m4 Q)) ∧ (¬ x3 = x6 → (Q (some (vi 0)) m4))))))) : Y cL_law 4 RL (d + 1) (some L) 375 [some (vr 2010 0), some (vr 11 0), some (vr 12 0), some (vi a3)] [] mem Q := by
  refine a_aload_n dL_law_375 rfl rfl ?_
  refine iv_L_36 dL_law_376 (Nat.le_of_ble_eq_true rfl) (MtX_mono h (fun r m1 hq => ?_))
  obtain ⟨x3, rfl, h2⟩ := hq
  refine ⟨x3, rfl, ?_⟩
  refine a_aload_n dL_law_379 rfl rfl ?_
  refine iv_L_40 dL_law_380 (Nat.le_of_ble_eq_true rfl) (MtX_mono h2 (fun r m4 hq => ?_))
  obtain ⟨x6, rfl, h5⟩ := hq
  refine ⟨x6, rfl, ?_⟩
  refine a_icmp_eq (tgt := 1435) dL_law_383 (by decide) ⟨fun c7 => ?_, fun c7 => ?_⟩
  · exact (h5.1 c7)
  · refine a_iconst (k := 0) dL_law_386 (n_lit (by decide)) ?_
    exact a_iret dL_law_387 (h5.2 c7)
set_option maxRecDepth 10000 in
theorem sg_L_law_388 {d : Nat}  (a3 : Int) (L : List Int) (hL0 : ∀ v ∈ L, ri v) (hn : L.length < 2000000) (mem : AMem) (Q : Option AV → AMem → Prop) (h : (0 ≤ (w32 (a3 + 1)) ∧ (w32 (a3 + 1)) < (L.length : Int)) ∧ ((0 ≤ (w32 (a3 + 2)) ∧ (w32 (a3 + 2)) < (L.length : Int)) ∧ ((0 ≤ (w32 (a3 + 3)) ∧ (w32 (a3 + 3)) < (L.length : Int)) ∧ (MtX yX11_does cX11_does 4 (some .int) d [vr 11 0, vi (List.getD L (Int.toNat (w32 (a3 + 1))) 0), vi (List.getD L (Int.toNat (w32 (a3 + 2))) 0), vi (List.getD L (Int.toNat (w32 (a3 + 3))) 0)] mem (fun r m1 => ∃ x3 : Int, r = some (vi x3) ∧ ((0 ≤ (w32 (a3 + 1)) ∧ (w32 (a3 + 1)) < (L.length : Int)) ∧ ((0 ≤ (w32 (a3 + 2)) ∧ (w32 (a3 + 2)) < (L.length : Int)) ∧ ((0 ≤ (w32 (a3 + 3)) ∧ (w32 (a3 + 3)) < (L.length : Int)) ∧ (MtX yX12_does cX12_does 4 (some .int) d [vr 12 0, vi (List.getD L (Int.toNat (w32 (a3 + 1))) 0), vi (List.getD L (Int.toNat (w32 (a3 + 2))) 0), vi (List.getD L (Int.toNat (w32 (a3 + 3))) 0)] m1 (fun r m4 => ∃ x6 : Int, r = some (vi x6) ∧ ((x3 = x6 → (Y cL_law 4 RL (d + 1) (some L) 1435 [some (vr 2010 0), some (vr 11 0), some (vr 12 0), some (vi a3)] [] m4 Q)) ∧ (¬ x3 = x6 → (Q (some (vi 0)) m4))))))))))))) : Y cL_law 4 RL (d + 1) (some L) 388 [some (vr 2010 0), some (vr 11 0), some (vr 12 0), some (vi a3)] [] mem Q := by
  refine a_aload_n dL_law_388 rfl rfl ?_
  refine a_aload_n dL_law_389 rfl rfl ?_
  refine a_iload_n dL_law_390 rfl rfl ?_
  refine a_iconst (k := 1) dL_law_391 (n_lit (by decide)) ?_
  refine a_iadd dL_law_392 ?_
  refine a_script rfl hL0 dL_law_393 ⟨h.1, ?_⟩
  refine a_aload_n dL_law_394 rfl rfl ?_
  refine a_iload_n dL_law_395 rfl rfl ?_
  refine a_iconst (k := 2) dL_law_396 (n_lit (by decide)) ?_
  refine a_iadd dL_law_397 ?_
  refine a_script rfl hL0 dL_law_398 ⟨h.2.1, ?_⟩
  refine a_aload_n dL_law_399 rfl rfl ?_
  refine a_iload_n dL_law_400 rfl rfl ?_
  refine a_iconst (k := 3) dL_law_401 (n_lit (by decide)) ?_
  refine a_iadd dL_law_402 ?_
  refine a_script rfl hL0 dL_law_403 ⟨h.2.2.1, ?_⟩
  refine iv_L_41 dL_law_404 (Nat.le_of_ble_eq_true rfl) (MtX_mono h.2.2.2 (fun r m1 hq => ?_))
  obtain ⟨x3, rfl, h2⟩ := hq
  refine ⟨x3, rfl, ?_⟩
  refine a_aload_n dL_law_407 rfl rfl ?_
  refine a_aload_n dL_law_408 rfl rfl ?_
  refine a_iload_n dL_law_409 rfl rfl ?_
  refine a_iconst (k := 1) dL_law_410 (n_lit (by decide)) ?_
  refine a_iadd dL_law_411 ?_
  refine a_script rfl hL0 dL_law_412 ⟨h2.1, ?_⟩
  refine a_aload_n dL_law_413 rfl rfl ?_
  refine a_iload_n dL_law_414 rfl rfl ?_
  refine a_iconst (k := 2) dL_law_415 (n_lit (by decide)) ?_
  refine a_iadd dL_law_416 ?_
  refine a_script rfl hL0 dL_law_417 ⟨h2.2.1, ?_⟩
  refine a_aload_n dL_law_418 rfl rfl ?_
  refine a_iload_n dL_law_419 rfl rfl ?_
  refine a_iconst (k := 3) dL_law_420 (n_lit (by decide)) ?_
  refine a_iadd dL_law_421 ?_
  refine a_script rfl hL0 dL_law_422 ⟨h2.2.2.1, ?_⟩
  refine iv_L_44 dL_law_423 (Nat.le_of_ble_eq_true rfl) (MtX_mono h2.2.2.2 (fun r m4 hq => ?_))
  obtain ⟨x6, rfl, h5⟩ := hq
  refine ⟨x6, rfl, ?_⟩
  refine a_icmp_eq (tgt := 1435) dL_law_426 (by decide) ⟨fun c7 => ?_, fun c7 => ?_⟩
  · exact (h5.1 c7)
  · refine a_iconst (k := 0) dL_law_429 (n_lit (by decide)) ?_
    exact a_iret dL_law_430 (h5.2 c7)
set_option maxRecDepth 10000 in
theorem sg_L_law_431 {d : Nat}  (a3 : Int) (L : List Int) (hL0 : ∀ v ∈ L, ri v) (hn : L.length < 2000000) (mem : AMem) (Q : Option AV → AMem → Prop) (h : (0 ≤ (w32 (a3 + 1)) ∧ (w32 (a3 + 1)) < (L.length : Int)) ∧ ((0 ≤ (w32 (a3 + 2)) ∧ (w32 (a3 + 2)) < (L.length : Int)) ∧ (MtX yX11_raid cX11_raid 4 (some .int) d [vr 11 0, vi (List.getD L (Int.toNat (w32 (a3 + 1))) 0), vi (List.getD L (Int.toNat (w32 (a3 + 2))) 0)] mem (fun r m1 => ∃ x3 : Int, r = some (vi x3) ∧ ((0 ≤ (w32 (a3 + 1)) ∧ (w32 (a3 + 1)) < (L.length : Int)) ∧ ((0 ≤ (w32 (a3 + 2)) ∧ (w32 (a3 + 2)) < (L.length : Int)) ∧ (MtX yX12_raid cX12_raid 3 (some .int) d [vr 12 0, vi (List.getD L (Int.toNat (w32 (a3 + 1))) 0), vi (List.getD L (Int.toNat (w32 (a3 + 2))) 0)] m1 (fun r m4 => ∃ x6 : Int, r = some (vi x6) ∧ ((x3 = x6 → (Y cL_law 4 RL (d + 1) (some L) 1435 [some (vr 2010 0), some (vr 11 0), some (vr 12 0), some (vi a3)] [] m4 Q)) ∧ (¬ x3 = x6 → (Q (some (vi 0)) m4))))))))))) : Y cL_law 4 RL (d + 1) (some L) 431 [some (vr 2010 0), some (vr 11 0), some (vr 12 0), some (vi a3)] [] mem Q := by
  refine a_aload_n dL_law_431 rfl rfl ?_
  refine a_aload_n dL_law_432 rfl rfl ?_
  refine a_iload_n dL_law_433 rfl rfl ?_
  refine a_iconst (k := 1) dL_law_434 (n_lit (by decide)) ?_
  refine a_iadd dL_law_435 ?_
  refine a_script rfl hL0 dL_law_436 ⟨h.1, ?_⟩
  refine a_aload_n dL_law_437 rfl rfl ?_
  refine a_iload_n dL_law_438 rfl rfl ?_
  refine a_iconst (k := 2) dL_law_439 (n_lit (by decide)) ?_
  refine a_iadd dL_law_440 ?_
  refine a_script rfl hL0 dL_law_441 ⟨h.2.1, ?_⟩
  refine iv_L_45 dL_law_442 (Nat.le_of_ble_eq_true rfl) (MtX_mono h.2.2 (fun r m1 hq => ?_))
  obtain ⟨x3, rfl, h2⟩ := hq
  refine ⟨x3, rfl, ?_⟩
  refine a_aload_n dL_law_445 rfl rfl ?_
  refine a_aload_n dL_law_446 rfl rfl ?_
  refine a_iload_n dL_law_447 rfl rfl ?_
  refine a_iconst (k := 1) dL_law_448 (n_lit (by decide)) ?_
  refine a_iadd dL_law_449 ?_
  refine a_script rfl hL0 dL_law_450 ⟨h2.1, ?_⟩
  refine a_aload_n dL_law_451 rfl rfl ?_
  refine a_iload_n dL_law_452 rfl rfl ?_
  refine a_iconst (k := 2) dL_law_453 (n_lit (by decide)) ?_
  refine a_iadd dL_law_454 ?_
  refine a_script rfl hL0 dL_law_455 ⟨h2.2.1, ?_⟩
  refine iv_L_48 dL_law_456 (Nat.le_of_ble_eq_true rfl) (MtX_mono h2.2.2 (fun r m4 hq => ?_))
  obtain ⟨x6, rfl, h5⟩ := hq
  refine ⟨x6, rfl, ?_⟩
  refine a_icmp_eq (tgt := 1435) dL_law_459 (by decide) ⟨fun c7 => ?_, fun c7 => ?_⟩
  · exact (h5.1 c7)
  · refine a_iconst (k := 0) dL_law_462 (n_lit (by decide)) ?_
    exact a_iret dL_law_463 (h5.2 c7)
set_option maxRecDepth 10000 in
theorem sg_L_law_464 {d : Nat}  (a3 : Int) (L : List Int) (hL0 : ∀ v ∈ L, ri v) (hn : L.length < 2000000) (mem : AMem) (Q : Option AV → AMem → Prop) (h : (0 ≤ (w32 (a3 + 1)) ∧ (w32 (a3 + 1)) < (L.length : Int)) ∧ ((0 ≤ (w32 (a3 + 2)) ∧ (w32 (a3 + 2)) < (L.length : Int)) ∧ ((0 ≤ (w32 (a3 + 3)) ∧ (w32 (a3 + 3)) < (L.length : Int)) ∧ (MtX yX11_where cX11_where 5 (some .int) d [vr 11 0, vi (List.getD L (Int.toNat (w32 (a3 + 1))) 0), vi (List.getD L (Int.toNat (w32 (a3 + 2))) 0), vi (List.getD L (Int.toNat (w32 (a3 + 3))) 0)] mem (fun r m1 => ∃ x3 : Int, r = some (vi x3) ∧ ((0 ≤ (w32 (a3 + 1)) ∧ (w32 (a3 + 1)) < (L.length : Int)) ∧ ((0 ≤ (w32 (a3 + 2)) ∧ (w32 (a3 + 2)) < (L.length : Int)) ∧ ((0 ≤ (w32 (a3 + 3)) ∧ (w32 (a3 + 3)) < (L.length : Int)) ∧ (MtX yX12_where cX12_where 4 (some .int) d [vr 12 0, vi (List.getD L (Int.toNat (w32 (a3 + 1))) 0), vi (List.getD L (Int.toNat (w32 (a3 + 2))) 0), vi (List.getD L (Int.toNat (w32 (a3 + 3))) 0)] m1 (fun r m4 => ∃ x6 : Int, r = some (vi x6) ∧ ((x3 = x6 → (Y cL_law 4 RL (d + 1) (some L) 1435 [some (vr 2010 0), some (vr 11 0), some (vr 12 0), some (vi a3)] [] m4 Q)) ∧ (¬ x3 = x6 → (Q (some (vi 0)) m4))))))))))))) : Y cL_law 4 RL (d + 1) (some L) 464 [some (vr 2010 0), some (vr 11 0), some (vr 12 0), some (vi a3)] [] mem Q := by
  refine a_aload_n dL_law_464 rfl rfl ?_
  refine a_aload_n dL_law_465 rfl rfl ?_
  refine a_iload_n dL_law_466 rfl rfl ?_
  refine a_iconst (k := 1) dL_law_467 (n_lit (by decide)) ?_
  refine a_iadd dL_law_468 ?_
  refine a_script rfl hL0 dL_law_469 ⟨h.1, ?_⟩
  refine a_aload_n dL_law_470 rfl rfl ?_
  refine a_iload_n dL_law_471 rfl rfl ?_
  refine a_iconst (k := 2) dL_law_472 (n_lit (by decide)) ?_
  refine a_iadd dL_law_473 ?_
  refine a_script rfl hL0 dL_law_474 ⟨h.2.1, ?_⟩
  refine a_aload_n dL_law_475 rfl rfl ?_
  refine a_iload_n dL_law_476 rfl rfl ?_
  refine a_iconst (k := 3) dL_law_477 (n_lit (by decide)) ?_
  refine a_iadd dL_law_478 ?_
  refine a_script rfl hL0 dL_law_479 ⟨h.2.2.1, ?_⟩
  refine iv_L_49 dL_law_480 (Nat.le_of_ble_eq_true rfl) (MtX_mono h.2.2.2 (fun r m1 hq => ?_))
  obtain ⟨x3, rfl, h2⟩ := hq
  refine ⟨x3, rfl, ?_⟩
  refine a_aload_n dL_law_483 rfl rfl ?_
  refine a_aload_n dL_law_484 rfl rfl ?_
  refine a_iload_n dL_law_485 rfl rfl ?_
  refine a_iconst (k := 1) dL_law_486 (n_lit (by decide)) ?_
  refine a_iadd dL_law_487 ?_
  refine a_script rfl hL0 dL_law_488 ⟨h2.1, ?_⟩
  refine a_aload_n dL_law_489 rfl rfl ?_
  refine a_iload_n dL_law_490 rfl rfl ?_
  refine a_iconst (k := 2) dL_law_491 (n_lit (by decide)) ?_
  refine a_iadd dL_law_492 ?_
  refine a_script rfl hL0 dL_law_493 ⟨h2.2.1, ?_⟩
  refine a_aload_n dL_law_494 rfl rfl ?_
  refine a_iload_n dL_law_495 rfl rfl ?_
  refine a_iconst (k := 3) dL_law_496 (n_lit (by decide)) ?_
  refine a_iadd dL_law_497 ?_
  refine a_script rfl hL0 dL_law_498 ⟨h2.2.2.1, ?_⟩
  refine iv_L_52 dL_law_499 (Nat.le_of_ble_eq_true rfl) (MtX_mono h2.2.2.2 (fun r m4 hq => ?_))
  obtain ⟨x6, rfl, h5⟩ := hq
  refine ⟨x6, rfl, ?_⟩
  refine a_icmp_eq (tgt := 1435) dL_law_502 (by decide) ⟨fun c7 => ?_, fun c7 => ?_⟩
  · exact (h5.1 c7)
  · refine a_iconst (k := 0) dL_law_505 (n_lit (by decide)) ?_
    exact a_iret dL_law_506 (h5.2 c7)
set_option maxRecDepth 10000 in
theorem sg_L_law_507 {d : Nat}  (a3 : Int) (L : List Int) (hL0 : ∀ v ∈ L, ri v) (hn : L.length < 2000000) (mem : AMem) (Q : Option AV → AMem → Prop) (h : (0 ≤ (w32 (a3 + 1)) ∧ (w32 (a3 + 1)) < (L.length : Int)) ∧ ((0 ≤ (w32 (a3 + 2)) ∧ (w32 (a3 + 2)) < (L.length : Int)) ∧ (MtX yX11_best cX11_best 3 (some .int) d [vr 11 0, vi (List.getD L (Int.toNat (w32 (a3 + 1))) 0), vi (List.getD L (Int.toNat (w32 (a3 + 2))) 0)] mem (fun r m1 => ∃ x3 : Int, r = some (vi x3) ∧ ((0 ≤ (w32 (a3 + 1)) ∧ (w32 (a3 + 1)) < (L.length : Int)) ∧ ((0 ≤ (w32 (a3 + 2)) ∧ (w32 (a3 + 2)) < (L.length : Int)) ∧ (MtX yX12_best cX12_best 5 (some .int) d [vr 12 0, vi (List.getD L (Int.toNat (w32 (a3 + 1))) 0), vi (List.getD L (Int.toNat (w32 (a3 + 2))) 0)] m1 (fun r m4 => ∃ x6 : Int, r = some (vi x6) ∧ ((x3 = x6 → (Y cL_law 4 RL (d + 1) (some L) 1435 [some (vr 2010 0), some (vr 11 0), some (vr 12 0), some (vi a3)] [] m4 Q)) ∧ (¬ x3 = x6 → (Q (some (vi 0)) m4))))))))))) : Y cL_law 4 RL (d + 1) (some L) 507 [some (vr 2010 0), some (vr 11 0), some (vr 12 0), some (vi a3)] [] mem Q := by
  refine a_aload_n dL_law_507 rfl rfl ?_
  refine a_aload_n dL_law_508 rfl rfl ?_
  refine a_iload_n dL_law_509 rfl rfl ?_
  refine a_iconst (k := 1) dL_law_510 (n_lit (by decide)) ?_
  refine a_iadd dL_law_511 ?_
  refine a_script rfl hL0 dL_law_512 ⟨h.1, ?_⟩
  refine a_aload_n dL_law_513 rfl rfl ?_
  refine a_iload_n dL_law_514 rfl rfl ?_
  refine a_iconst (k := 2) dL_law_515 (n_lit (by decide)) ?_
  refine a_iadd dL_law_516 ?_
  refine a_script rfl hL0 dL_law_517 ⟨h.2.1, ?_⟩
  refine iv_L_53 dL_law_518 (Nat.le_of_ble_eq_true rfl) (MtX_mono h.2.2 (fun r m1 hq => ?_))
  obtain ⟨x3, rfl, h2⟩ := hq
  refine ⟨x3, rfl, ?_⟩
  refine a_aload_n dL_law_521 rfl rfl ?_
  refine a_aload_n dL_law_522 rfl rfl ?_
  refine a_iload_n dL_law_523 rfl rfl ?_
  refine a_iconst (k := 1) dL_law_524 (n_lit (by decide)) ?_
  refine a_iadd dL_law_525 ?_
  refine a_script rfl hL0 dL_law_526 ⟨h2.1, ?_⟩
  refine a_aload_n dL_law_527 rfl rfl ?_
  refine a_iload_n dL_law_528 rfl rfl ?_
  refine a_iconst (k := 2) dL_law_529 (n_lit (by decide)) ?_
  refine a_iadd dL_law_530 ?_
  refine a_script rfl hL0 dL_law_531 ⟨h2.2.1, ?_⟩
  refine iv_L_56 dL_law_532 (Nat.le_of_ble_eq_true rfl) (MtX_mono h2.2.2 (fun r m4 hq => ?_))
  obtain ⟨x6, rfl, h5⟩ := hq
  refine ⟨x6, rfl, ?_⟩
  refine a_icmp_eq (tgt := 1435) dL_law_535 (by decide) ⟨fun c7 => ?_, fun c7 => ?_⟩
  · exact (h5.1 c7)
  · refine a_iconst (k := 0) dL_law_538 (n_lit (by decide)) ?_
    exact a_iret dL_law_539 (h5.2 c7)
set_option maxRecDepth 10000 in
theorem sg_L_law_540 {d : Nat}  (a3 : Int) (L : List Int) (hL0 : ∀ v ∈ L, ri v) (hn : L.length < 2000000) (mem : AMem) (Q : Option AV → AMem → Prop) (h : (0 ≤ (w32 (a3 + 1)) ∧ (w32 (a3 + 1)) < (L.length : Int)) ∧ ((0 ≤ (w32 (a3 + 2)) ∧ (w32 (a3 + 2)) < (L.length : Int)) ∧ (MtX yX11_touch cX11_touch 4 (some .int) d [vr 11 0, vi (List.getD L (Int.toNat (w32 (a3 + 1))) 0), vi (List.getD L (Int.toNat (w32 (a3 + 2))) 0)] mem (fun r m1 => ∃ x3 : Int, r = some (vi x3) ∧ ((0 ≤ (w32 (a3 + 1)) ∧ (w32 (a3 + 1)) < (L.length : Int)) ∧ ((0 ≤ (w32 (a3 + 2)) ∧ (w32 (a3 + 2)) < (L.length : Int)) ∧ (MtX yX12_touch cX12_touch 4 (some .int) d [vr 12 0, vi (List.getD L (Int.toNat (w32 (a3 + 1))) 0), vi (List.getD L (Int.toNat (w32 (a3 + 2))) 0)] m1 (fun r m4 => ∃ x6 : Int, r = some (vi x6) ∧ ((x3 = x6 → (Y cL_law 4 RL (d + 1) (some L) 1435 [some (vr 2010 0), some (vr 11 0), some (vr 12 0), some (vi a3)] [] m4 Q)) ∧ (¬ x3 = x6 → (Q (some (vi 0)) m4))))))))))) : Y cL_law 4 RL (d + 1) (some L) 540 [some (vr 2010 0), some (vr 11 0), some (vr 12 0), some (vi a3)] [] mem Q := by
  refine a_aload_n dL_law_540 rfl rfl ?_
  refine a_aload_n dL_law_541 rfl rfl ?_
  refine a_iload_n dL_law_542 rfl rfl ?_
  refine a_iconst (k := 1) dL_law_543 (n_lit (by decide)) ?_
  refine a_iadd dL_law_544 ?_
  refine a_script rfl hL0 dL_law_545 ⟨h.1, ?_⟩
  refine a_aload_n dL_law_546 rfl rfl ?_
  refine a_iload_n dL_law_547 rfl rfl ?_
  refine a_iconst (k := 2) dL_law_548 (n_lit (by decide)) ?_
  refine a_iadd dL_law_549 ?_
  refine a_script rfl hL0 dL_law_550 ⟨h.2.1, ?_⟩
  refine iv_L_57 dL_law_551 (Nat.le_of_ble_eq_true rfl) (MtX_mono h.2.2 (fun r m1 hq => ?_))
  obtain ⟨x3, rfl, h2⟩ := hq
  refine ⟨x3, rfl, ?_⟩
  refine a_aload_n dL_law_554 rfl rfl ?_
  refine a_aload_n dL_law_555 rfl rfl ?_
  refine a_iload_n dL_law_556 rfl rfl ?_
  refine a_iconst (k := 1) dL_law_557 (n_lit (by decide)) ?_
  refine a_iadd dL_law_558 ?_
  refine a_script rfl hL0 dL_law_559 ⟨h2.1, ?_⟩
  refine a_aload_n dL_law_560 rfl rfl ?_
  refine a_iload_n dL_law_561 rfl rfl ?_
  refine a_iconst (k := 2) dL_law_562 (n_lit (by decide)) ?_
  refine a_iadd dL_law_563 ?_
  refine a_script rfl hL0 dL_law_564 ⟨h2.2.1, ?_⟩
  refine iv_L_60 dL_law_565 (Nat.le_of_ble_eq_true rfl) (MtX_mono h2.2.2 (fun r m4 hq => ?_))
  obtain ⟨x6, rfl, h5⟩ := hq
  refine ⟨x6, rfl, ?_⟩
  refine a_icmp_eq (tgt := 1435) dL_law_568 (by decide) ⟨fun c7 => ?_, fun c7 => ?_⟩
  · exact (h5.1 c7)
  · refine a_iconst (k := 0) dL_law_571 (n_lit (by decide)) ?_
    exact a_iret dL_law_572 (h5.2 c7)
set_option maxRecDepth 10000 in
theorem sg_L_law_573 {d : Nat}  (a3 : Int) (L : List Int) (hL0 : ∀ v ∈ L, ri v) (hn : L.length < 2000000) (mem : AMem) (Q : Option AV → AMem → Prop) (h : (0 ≤ (w32 (a3 + 1)) ∧ (w32 (a3 + 1)) < (L.length : Int)) ∧ (MtX yX11_needs cX11_needs 3 (some .int) d [vr 11 0, vi (List.getD L (Int.toNat (w32 (a3 + 1))) 0)] mem (fun r m1 => ∃ x3 : Int, r = some (vi x3) ∧ ((0 ≤ (w32 (a3 + 1)) ∧ (w32 (a3 + 1)) < (L.length : Int)) ∧ (MtX yX12_needs cX12_needs 3 (some .int) d [vr 12 0, vi (List.getD L (Int.toNat (w32 (a3 + 1))) 0)] m1 (fun r m4 => ∃ x6 : Int, r = some (vi x6) ∧ ((x3 = x6 → (Y cL_law 4 RL (d + 1) (some L) 1435 [some (vr 2010 0), some (vr 11 0), some (vr 12 0), some (vi a3)] [] m4 Q)) ∧ (¬ x3 = x6 → (Q (some (vi 0)) m4))))))))) : Y cL_law 4 RL (d + 1) (some L) 573 [some (vr 2010 0), some (vr 11 0), some (vr 12 0), some (vi a3)] [] mem Q := by
  refine a_aload_n dL_law_573 rfl rfl ?_
  refine a_aload_n dL_law_574 rfl rfl ?_
  refine a_iload_n dL_law_575 rfl rfl ?_
  refine a_iconst (k := 1) dL_law_576 (n_lit (by decide)) ?_
  refine a_iadd dL_law_577 ?_
  refine a_script rfl hL0 dL_law_578 ⟨h.1, ?_⟩
  refine iv_L_61 dL_law_579 (Nat.le_of_ble_eq_true rfl) (MtX_mono h.2 (fun r m1 hq => ?_))
  obtain ⟨x3, rfl, h2⟩ := hq
  refine ⟨x3, rfl, ?_⟩
  refine a_aload_n dL_law_582 rfl rfl ?_
  refine a_aload_n dL_law_583 rfl rfl ?_
  refine a_iload_n dL_law_584 rfl rfl ?_
  refine a_iconst (k := 1) dL_law_585 (n_lit (by decide)) ?_
  refine a_iadd dL_law_586 ?_
  refine a_script rfl hL0 dL_law_587 ⟨h2.1, ?_⟩
  refine iv_L_64 dL_law_588 (Nat.le_of_ble_eq_true rfl) (MtX_mono h2.2 (fun r m4 hq => ?_))
  obtain ⟨x6, rfl, h5⟩ := hq
  refine ⟨x6, rfl, ?_⟩
  refine a_icmp_eq (tgt := 1435) dL_law_591 (by decide) ⟨fun c7 => ?_, fun c7 => ?_⟩
  · exact (h5.1 c7)
  · refine a_iconst (k := 0) dL_law_594 (n_lit (by decide)) ?_
    exact a_iret dL_law_595 (h5.2 c7)
set_option maxRecDepth 10000 in
theorem sg_L_law_596 {d : Nat}  (a3 : Int) (L : List Int) (hL0 : ∀ v ∈ L, ri v) (hn : L.length < 2000000) (mem : AMem) (Q : Option AV → AMem → Prop) (h : (0 ≤ (w32 (a3 + 1)) ∧ (w32 (a3 + 1)) < (L.length : Int)) ∧ (MtX yX11_spared cX11_spared 5 (some .int) d [vr 11 0, vi (List.getD L (Int.toNat (w32 (a3 + 1))) 0)] mem (fun r m1 => ∃ x3 : Int, r = some (vi x3) ∧ ((0 ≤ (w32 (a3 + 1)) ∧ (w32 (a3 + 1)) < (L.length : Int)) ∧ (MtX yX12_spared cX12_spared 4 (some .int) d [vr 12 0, vi (List.getD L (Int.toNat (w32 (a3 + 1))) 0)] m1 (fun r m4 => ∃ x6 : Int, r = some (vi x6) ∧ ((x3 = x6 → (Y cL_law 4 RL (d + 1) (some L) 1435 [some (vr 2010 0), some (vr 11 0), some (vr 12 0), some (vi a3)] [] m4 Q)) ∧ (¬ x3 = x6 → (Q (some (vi 0)) m4))))))))) : Y cL_law 4 RL (d + 1) (some L) 596 [some (vr 2010 0), some (vr 11 0), some (vr 12 0), some (vi a3)] [] mem Q := by
  refine a_aload_n dL_law_596 rfl rfl ?_
  refine a_aload_n dL_law_597 rfl rfl ?_
  refine a_iload_n dL_law_598 rfl rfl ?_
  refine a_iconst (k := 1) dL_law_599 (n_lit (by decide)) ?_
  refine a_iadd dL_law_600 ?_
  refine a_script rfl hL0 dL_law_601 ⟨h.1, ?_⟩
  refine iv_L_65 dL_law_602 (Nat.le_of_ble_eq_true rfl) (MtX_mono h.2 (fun r m1 hq => ?_))
  obtain ⟨x3, rfl, h2⟩ := hq
  refine ⟨x3, rfl, ?_⟩
  refine a_aload_n dL_law_605 rfl rfl ?_
  refine a_aload_n dL_law_606 rfl rfl ?_
  refine a_iload_n dL_law_607 rfl rfl ?_
  refine a_iconst (k := 1) dL_law_608 (n_lit (by decide)) ?_
  refine a_iadd dL_law_609 ?_
  refine a_script rfl hL0 dL_law_610 ⟨h2.1, ?_⟩
  refine iv_L_68 dL_law_611 (Nat.le_of_ble_eq_true rfl) (MtX_mono h2.2 (fun r m4 hq => ?_))
  obtain ⟨x6, rfl, h5⟩ := hq
  refine ⟨x6, rfl, ?_⟩
  refine a_icmp_eq (tgt := 1435) dL_law_614 (by decide) ⟨fun c7 => ?_, fun c7 => ?_⟩
  · exact (h5.1 c7)
  · refine a_iconst (k := 0) dL_law_617 (n_lit (by decide)) ?_
    exact a_iret dL_law_618 (h5.2 c7)
set_option maxRecDepth 10000 in
theorem sg_L_law_619 {d : Nat}  (a3 : Int) (L : List Int) (hL0 : ∀ v ∈ L, ri v) (hn : L.length < 2000000) (mem : AMem) (Q : Option AV → AMem → Prop) (h : (0 ≤ (w32 (a3 + 1)) ∧ (w32 (a3 + 1)) < (L.length : Int)) ∧ ((0 ≤ (w32 (a3 + 2)) ∧ (w32 (a3 + 2)) < (L.length : Int)) ∧ ((0 ≤ (w32 (a3 + 3)) ∧ (w32 (a3 + 3)) < (L.length : Int)) ∧ (MtX yX11_stand cX11_stand 10 (some .int) d [vr 11 0, vi (List.getD L (Int.toNat (w32 (a3 + 1))) 0), vi (List.getD L (Int.toNat (w32 (a3 + 2))) 0), vi (List.getD L (Int.toNat (w32 (a3 + 3))) 0)] mem (fun r m1 => ∃ x3 : Int, r = some (vi x3) ∧ ((0 ≤ (w32 (a3 + 1)) ∧ (w32 (a3 + 1)) < (L.length : Int)) ∧ ((0 ≤ (w32 (a3 + 2)) ∧ (w32 (a3 + 2)) < (L.length : Int)) ∧ ((0 ≤ (w32 (a3 + 3)) ∧ (w32 (a3 + 3)) < (L.length : Int)) ∧ (MtX yX12_stand cX12_stand 10 (some .int) d [vr 12 0, vi (List.getD L (Int.toNat (w32 (a3 + 1))) 0), vi (List.getD L (Int.toNat (w32 (a3 + 2))) 0), vi (List.getD L (Int.toNat (w32 (a3 + 3))) 0)] m1 (fun r m4 => ∃ x6 : Int, r = some (vi x6) ∧ ((x3 = x6 → (Y cL_law 4 RL (d + 1) (some L) 1435 [some (vr 2010 0), some (vr 11 0), some (vr 12 0), some (vi a3)] [] m4 Q)) ∧ (¬ x3 = x6 → (Q (some (vi 0)) m4))))))))))))) : Y cL_law 4 RL (d + 1) (some L) 619 [some (vr 2010 0), some (vr 11 0), some (vr 12 0), some (vi a3)] [] mem Q := by
  refine a_aload_n dL_law_619 rfl rfl ?_
  refine a_aload_n dL_law_620 rfl rfl ?_
  refine a_iload_n dL_law_621 rfl rfl ?_
  refine a_iconst (k := 1) dL_law_622 (n_lit (by decide)) ?_
  refine a_iadd dL_law_623 ?_
  refine a_script rfl hL0 dL_law_624 ⟨h.1, ?_⟩
  refine a_aload_n dL_law_625 rfl rfl ?_
  refine a_iload_n dL_law_626 rfl rfl ?_
  refine a_iconst (k := 2) dL_law_627 (n_lit (by decide)) ?_
  refine a_iadd dL_law_628 ?_
  refine a_script rfl hL0 dL_law_629 ⟨h.2.1, ?_⟩
  refine a_aload_n dL_law_630 rfl rfl ?_
  refine a_iload_n dL_law_631 rfl rfl ?_
  refine a_iconst (k := 3) dL_law_632 (n_lit (by decide)) ?_
  refine a_iadd dL_law_633 ?_
  refine a_script rfl hL0 dL_law_634 ⟨h.2.2.1, ?_⟩
  refine iv_L_69 dL_law_635 (Nat.le_of_ble_eq_true rfl) (MtX_mono h.2.2.2 (fun r m1 hq => ?_))
  obtain ⟨x3, rfl, h2⟩ := hq
  refine ⟨x3, rfl, ?_⟩
  refine a_aload_n dL_law_638 rfl rfl ?_
  refine a_aload_n dL_law_639 rfl rfl ?_
  refine a_iload_n dL_law_640 rfl rfl ?_
  refine a_iconst (k := 1) dL_law_641 (n_lit (by decide)) ?_
  refine a_iadd dL_law_642 ?_
  refine a_script rfl hL0 dL_law_643 ⟨h2.1, ?_⟩
  refine a_aload_n dL_law_644 rfl rfl ?_
  refine a_iload_n dL_law_645 rfl rfl ?_
  refine a_iconst (k := 2) dL_law_646 (n_lit (by decide)) ?_
  refine a_iadd dL_law_647 ?_
  refine a_script rfl hL0 dL_law_648 ⟨h2.2.1, ?_⟩
  refine a_aload_n dL_law_649 rfl rfl ?_
  refine a_iload_n dL_law_650 rfl rfl ?_
  refine a_iconst (k := 3) dL_law_651 (n_lit (by decide)) ?_
  refine a_iadd dL_law_652 ?_
  refine a_script rfl hL0 dL_law_653 ⟨h2.2.2.1, ?_⟩
  refine iv_L_72 dL_law_654 (Nat.le_of_ble_eq_true rfl) (MtX_mono h2.2.2.2 (fun r m4 hq => ?_))
  obtain ⟨x6, rfl, h5⟩ := hq
  refine ⟨x6, rfl, ?_⟩
  refine a_icmp_eq (tgt := 1435) dL_law_657 (by decide) ⟨fun c7 => ?_, fun c7 => ?_⟩
  · exact (h5.1 c7)
  · refine a_iconst (k := 0) dL_law_660 (n_lit (by decide)) ?_
    exact a_iret dL_law_661 (h5.2 c7)
set_option maxRecDepth 10000 in
theorem sg_L_law_662 {d : Nat}  (a3 : Int) (L : List Int) (hL0 : ∀ v ∈ L, ri v) (hn : L.length < 2000000) (mem : AMem) (Q : Option AV → AMem → Prop) (h : (0 ≤ (w32 (a3 + 1)) ∧ (w32 (a3 + 1)) < (L.length : Int)) ∧ (MtX yX11_mightHe cX11_mightHe 3 (some .int) d [vr 11 0, vi (List.getD L (Int.toNat (w32 (a3 + 1))) 0)] mem (fun r m1 => ∃ x3 : Int, r = some (vi x3) ∧ ((0 ≤ (w32 (a3 + 1)) ∧ (w32 (a3 + 1)) < (L.length : Int)) ∧ (MtX yX12_mightHe cX12_mightHe 5 (some .int) d [vr 12 0, vi (List.getD L (Int.toNat (w32 (a3 + 1))) 0)] m1 (fun r m4 => ∃ x6 : Int, r = some (vi x6) ∧ ((x3 = x6 → (Y cL_law 4 RL (d + 1) (some L) 1435 [some (vr 2010 0), some (vr 11 0), some (vr 12 0), some (vi a3)] [] m4 Q)) ∧ (¬ x3 = x6 → (Q (some (vi 0)) m4))))))))) : Y cL_law 4 RL (d + 1) (some L) 662 [some (vr 2010 0), some (vr 11 0), some (vr 12 0), some (vi a3)] [] mem Q := by
  refine a_aload_n dL_law_662 rfl rfl ?_
  refine a_aload_n dL_law_663 rfl rfl ?_
  refine a_iload_n dL_law_664 rfl rfl ?_
  refine a_iconst (k := 1) dL_law_665 (n_lit (by decide)) ?_
  refine a_iadd dL_law_666 ?_
  refine a_script rfl hL0 dL_law_667 ⟨h.1, ?_⟩
  refine iv_L_73 dL_law_668 (Nat.le_of_ble_eq_true rfl) (MtX_mono h.2 (fun r m1 hq => ?_))
  obtain ⟨x3, rfl, h2⟩ := hq
  refine ⟨x3, rfl, ?_⟩
  refine a_aload_n dL_law_671 rfl rfl ?_
  refine a_aload_n dL_law_672 rfl rfl ?_
  refine a_iload_n dL_law_673 rfl rfl ?_
  refine a_iconst (k := 1) dL_law_674 (n_lit (by decide)) ?_
  refine a_iadd dL_law_675 ?_
  refine a_script rfl hL0 dL_law_676 ⟨h2.1, ?_⟩
  refine iv_L_76 dL_law_677 (Nat.le_of_ble_eq_true rfl) (MtX_mono h2.2 (fun r m4 hq => ?_))
  obtain ⟨x6, rfl, h5⟩ := hq
  refine ⟨x6, rfl, ?_⟩
  refine a_icmp_eq (tgt := 1435) dL_law_680 (by decide) ⟨fun c7 => ?_, fun c7 => ?_⟩
  · exact (h5.1 c7)
  · refine a_iconst (k := 0) dL_law_683 (n_lit (by decide)) ?_
    exact a_iret dL_law_684 (h5.2 c7)
set_option maxRecDepth 10000 in
theorem sg_L_law_685 {d : Nat}  (a3 : Int) (L : List Int) (hL0 : ∀ v ∈ L, ri v) (hn : L.length < 2000000) (mem : AMem) (Q : Option AV → AMem → Prop) (h : (0 ≤ (w32 (a3 + 1)) ∧ (w32 (a3 + 1)) < (L.length : Int)) ∧ (MtX yX11_line cX11_line 2 (some .int) d [vr 11 0, vi (List.getD L (Int.toNat (w32 (a3 + 1))) 0)] mem (fun r m1 => ∃ x3 : Int, r = some (vi x3) ∧ ((0 ≤ (w32 (a3 + 1)) ∧ (w32 (a3 + 1)) < (L.length : Int)) ∧ (MtX yX12_line cX12_line 6 (some .int) d [vr 12 0, vi (List.getD L (Int.toNat (w32 (a3 + 1))) 0)] m1 (fun r m4 => ∃ x6 : Int, r = some (vi x6) ∧ ((x3 = x6 → (Y cL_law 4 RL (d + 1) (some L) 1435 [some (vr 2010 0), some (vr 11 0), some (vr 12 0), some (vi a3)] [] m4 Q)) ∧ (¬ x3 = x6 → (Q (some (vi 0)) m4))))))))) : Y cL_law 4 RL (d + 1) (some L) 685 [some (vr 2010 0), some (vr 11 0), some (vr 12 0), some (vi a3)] [] mem Q := by
  refine a_aload_n dL_law_685 rfl rfl ?_
  refine a_aload_n dL_law_686 rfl rfl ?_
  refine a_iload_n dL_law_687 rfl rfl ?_
  refine a_iconst (k := 1) dL_law_688 (n_lit (by decide)) ?_
  refine a_iadd dL_law_689 ?_
  refine a_script rfl hL0 dL_law_690 ⟨h.1, ?_⟩
  refine iv_L_77 dL_law_691 (Nat.le_of_ble_eq_true rfl) (MtX_mono h.2 (fun r m1 hq => ?_))
  obtain ⟨x3, rfl, h2⟩ := hq
  refine ⟨x3, rfl, ?_⟩
  refine a_aload_n dL_law_694 rfl rfl ?_
  refine a_aload_n dL_law_695 rfl rfl ?_
  refine a_iload_n dL_law_696 rfl rfl ?_
  refine a_iconst (k := 1) dL_law_697 (n_lit (by decide)) ?_
  refine a_iadd dL_law_698 ?_
  refine a_script rfl hL0 dL_law_699 ⟨h2.1, ?_⟩
  refine iv_L_80 dL_law_700 (Nat.le_of_ble_eq_true rfl) (MtX_mono h2.2 (fun r m4 hq => ?_))
  obtain ⟨x6, rfl, h5⟩ := hq
  refine ⟨x6, rfl, ?_⟩
  refine a_icmp_eq (tgt := 1435) dL_law_703 (by decide) ⟨fun c7 => ?_, fun c7 => ?_⟩
  · exact (h5.1 c7)
  · refine a_iconst (k := 0) dL_law_706 (n_lit (by decide)) ?_
    exact a_iret dL_law_707 (h5.2 c7)
set_option maxRecDepth 10000 in
theorem sg_L_law_708 {d : Nat}  (a3 : Int) (L : List Int) (hL0 : ∀ v ∈ L, ri v) (hn : L.length < 2000000) (mem : AMem) (Q : Option AV → AMem → Prop) (h : (0 ≤ (w32 (a3 + 1)) ∧ (w32 (a3 + 1)) < (L.length : Int)) ∧ ((0 ≤ (w32 (a3 + 2)) ∧ (w32 (a3 + 2)) < (L.length : Int)) ∧ ((0 ≤ (w32 (a3 + 3)) ∧ (w32 (a3 + 3)) < (L.length : Int)) ∧ (MtX yX11_left cX11_left 4 (some .int) d [vr 11 0, vi (List.getD L (Int.toNat (w32 (a3 + 1))) 0), vi (List.getD L (Int.toNat (w32 (a3 + 2))) 0), vi (List.getD L (Int.toNat (w32 (a3 + 3))) 0)] mem (fun r m1 => ∃ x3 : Int, r = some (vi x3) ∧ ((0 ≤ (w32 (a3 + 1)) ∧ (w32 (a3 + 1)) < (L.length : Int)) ∧ ((0 ≤ (w32 (a3 + 2)) ∧ (w32 (a3 + 2)) < (L.length : Int)) ∧ ((0 ≤ (w32 (a3 + 3)) ∧ (w32 (a3 + 3)) < (L.length : Int)) ∧ (MtX yX12_left cX12_left 4 (some .int) d [vr 12 0, vi (List.getD L (Int.toNat (w32 (a3 + 1))) 0), vi (List.getD L (Int.toNat (w32 (a3 + 2))) 0), vi (List.getD L (Int.toNat (w32 (a3 + 3))) 0)] m1 (fun r m4 => ∃ x6 : Int, r = some (vi x6) ∧ ((x3 = x6 → (Y cL_law 4 RL (d + 1) (some L) 1435 [some (vr 2010 0), some (vr 11 0), some (vr 12 0), some (vi a3)] [] m4 Q)) ∧ (¬ x3 = x6 → (Q (some (vi 0)) m4))))))))))))) : Y cL_law 4 RL (d + 1) (some L) 708 [some (vr 2010 0), some (vr 11 0), some (vr 12 0), some (vi a3)] [] mem Q := by
  refine a_aload_n dL_law_708 rfl rfl ?_
  refine a_aload_n dL_law_709 rfl rfl ?_
  refine a_iload_n dL_law_710 rfl rfl ?_
  refine a_iconst (k := 1) dL_law_711 (n_lit (by decide)) ?_
  refine a_iadd dL_law_712 ?_
  refine a_script rfl hL0 dL_law_713 ⟨h.1, ?_⟩
  refine a_aload_n dL_law_714 rfl rfl ?_
  refine a_iload_n dL_law_715 rfl rfl ?_
  refine a_iconst (k := 2) dL_law_716 (n_lit (by decide)) ?_
  refine a_iadd dL_law_717 ?_
  refine a_script rfl hL0 dL_law_718 ⟨h.2.1, ?_⟩
  refine a_aload_n dL_law_719 rfl rfl ?_
  refine a_iload_n dL_law_720 rfl rfl ?_
  refine a_iconst (k := 3) dL_law_721 (n_lit (by decide)) ?_
  refine a_iadd dL_law_722 ?_
  refine a_script rfl hL0 dL_law_723 ⟨h.2.2.1, ?_⟩
  refine iv_L_81 dL_law_724 (Nat.le_of_ble_eq_true rfl) (MtX_mono h.2.2.2 (fun r m1 hq => ?_))
  obtain ⟨x3, rfl, h2⟩ := hq
  refine ⟨x3, rfl, ?_⟩
  refine a_aload_n dL_law_727 rfl rfl ?_
  refine a_aload_n dL_law_728 rfl rfl ?_
  refine a_iload_n dL_law_729 rfl rfl ?_
  refine a_iconst (k := 1) dL_law_730 (n_lit (by decide)) ?_
  refine a_iadd dL_law_731 ?_
  refine a_script rfl hL0 dL_law_732 ⟨h2.1, ?_⟩
  refine a_aload_n dL_law_733 rfl rfl ?_
  refine a_iload_n dL_law_734 rfl rfl ?_
  refine a_iconst (k := 2) dL_law_735 (n_lit (by decide)) ?_
  refine a_iadd dL_law_736 ?_
  refine a_script rfl hL0 dL_law_737 ⟨h2.2.1, ?_⟩
  refine a_aload_n dL_law_738 rfl rfl ?_
  refine a_iload_n dL_law_739 rfl rfl ?_
  refine a_iconst (k := 3) dL_law_740 (n_lit (by decide)) ?_
  refine a_iadd dL_law_741 ?_
  refine a_script rfl hL0 dL_law_742 ⟨h2.2.2.1, ?_⟩
  refine iv_L_84 dL_law_743 (Nat.le_of_ble_eq_true rfl) (MtX_mono h2.2.2.2 (fun r m4 hq => ?_))
  obtain ⟨x6, rfl, h5⟩ := hq
  refine ⟨x6, rfl, ?_⟩
  refine a_icmp_eq (tgt := 1435) dL_law_746 (by decide) ⟨fun c7 => ?_, fun c7 => ?_⟩
  · exact (h5.1 c7)
  · refine a_iconst (k := 0) dL_law_749 (n_lit (by decide)) ?_
    exact a_iret dL_law_750 (h5.2 c7)
set_option maxRecDepth 10000 in
theorem sg_L_law_751 {d : Nat}  (a3 : Int) (L : List Int) (hL0 : ∀ v ∈ L, ri v) (hn : L.length < 2000000) (mem : AMem) (Q : Option AV → AMem → Prop) (h : (0 ≤ (w32 (a3 + 1)) ∧ (w32 (a3 + 1)) < (L.length : Int)) ∧ ((0 ≤ (w32 (a3 + 2)) ∧ (w32 (a3 + 2)) < (L.length : Int)) ∧ ((0 ≤ (w32 (a3 + 3)) ∧ (w32 (a3 + 3)) < (L.length : Int)) ∧ ((0 ≤ (w32 (a3 + 4)) ∧ (w32 (a3 + 4)) < (L.length : Int)) ∧ (MtX yX11_third cX11_third 5 (some .int) d [vr 11 0, vi (List.getD L (Int.toNat (w32 (a3 + 1))) 0), vi (List.getD L (Int.toNat (w32 (a3 + 2))) 0), vi (List.getD L (Int.toNat (w32 (a3 + 3))) 0), vi (List.getD L (Int.toNat (w32 (a3 + 4))) 0)] mem (fun r m1 => ∃ x3 : Int, r = some (vi x3) ∧ ((0 ≤ (w32 (a3 + 1)) ∧ (w32 (a3 + 1)) < (L.length : Int)) ∧ ((0 ≤ (w32 (a3 + 2)) ∧ (w32 (a3 + 2)) < (L.length : Int)) ∧ ((0 ≤ (w32 (a3 + 3)) ∧ (w32 (a3 + 3)) < (L.length : Int)) ∧ ((0 ≤ (w32 (a3 + 4)) ∧ (w32 (a3 + 4)) < (L.length : Int)) ∧ (MtX yX12_third cX12_third 5 (some .int) d [vr 12 0, vi (List.getD L (Int.toNat (w32 (a3 + 1))) 0), vi (List.getD L (Int.toNat (w32 (a3 + 2))) 0), vi (List.getD L (Int.toNat (w32 (a3 + 3))) 0), vi (List.getD L (Int.toNat (w32 (a3 + 4))) 0)] m1 (fun r m4 => ∃ x6 : Int, r = some (vi x6) ∧ ((x3 = x6 → (Y cL_law 4 RL (d + 1) (some L) 1435 [some (vr 2010 0), some (vr 11 0), some (vr 12 0), some (vi a3)] [] m4 Q)) ∧ (¬ x3 = x6 → (Q (some (vi 0)) m4))))))))))))))) : Y cL_law 4 RL (d + 1) (some L) 751 [some (vr 2010 0), some (vr 11 0), some (vr 12 0), some (vi a3)] [] mem Q := by
  refine a_aload_n dL_law_751 rfl rfl ?_
  refine a_aload_n dL_law_752 rfl rfl ?_
  refine a_iload_n dL_law_753 rfl rfl ?_
  refine a_iconst (k := 1) dL_law_754 (n_lit (by decide)) ?_
  refine a_iadd dL_law_755 ?_
  refine a_script rfl hL0 dL_law_756 ⟨h.1, ?_⟩
  refine a_aload_n dL_law_757 rfl rfl ?_
  refine a_iload_n dL_law_758 rfl rfl ?_
  refine a_iconst (k := 2) dL_law_759 (n_lit (by decide)) ?_
  refine a_iadd dL_law_760 ?_
  refine a_script rfl hL0 dL_law_761 ⟨h.2.1, ?_⟩
  refine a_aload_n dL_law_762 rfl rfl ?_
  refine a_iload_n dL_law_763 rfl rfl ?_
  refine a_iconst (k := 3) dL_law_764 (n_lit (by decide)) ?_
  refine a_iadd dL_law_765 ?_
  refine a_script rfl hL0 dL_law_766 ⟨h.2.2.1, ?_⟩
  refine a_aload_n dL_law_767 rfl rfl ?_
  refine a_iload_n dL_law_768 rfl rfl ?_
  refine a_iconst (k := 4) dL_law_769 (n_lit (by decide)) ?_
  refine a_iadd dL_law_770 ?_
  refine a_script rfl hL0 dL_law_771 ⟨h.2.2.2.1, ?_⟩
  refine iv_L_85 dL_law_772 (Nat.le_of_ble_eq_true rfl) (MtX_mono h.2.2.2.2 (fun r m1 hq => ?_))
  obtain ⟨x3, rfl, h2⟩ := hq
  refine ⟨x3, rfl, ?_⟩
  refine a_aload_n dL_law_775 rfl rfl ?_
  refine a_aload_n dL_law_776 rfl rfl ?_
  refine a_iload_n dL_law_777 rfl rfl ?_
  refine a_iconst (k := 1) dL_law_778 (n_lit (by decide)) ?_
  refine a_iadd dL_law_779 ?_
  refine a_script rfl hL0 dL_law_780 ⟨h2.1, ?_⟩
  refine a_aload_n dL_law_781 rfl rfl ?_
  refine a_iload_n dL_law_782 rfl rfl ?_
  refine a_iconst (k := 2) dL_law_783 (n_lit (by decide)) ?_
  refine a_iadd dL_law_784 ?_
  refine a_script rfl hL0 dL_law_785 ⟨h2.2.1, ?_⟩
  refine a_aload_n dL_law_786 rfl rfl ?_
  refine a_iload_n dL_law_787 rfl rfl ?_
  refine a_iconst (k := 3) dL_law_788 (n_lit (by decide)) ?_
  refine a_iadd dL_law_789 ?_
  refine a_script rfl hL0 dL_law_790 ⟨h2.2.2.1, ?_⟩
  refine a_aload_n dL_law_791 rfl rfl ?_
  refine a_iload_n dL_law_792 rfl rfl ?_
  refine a_iconst (k := 4) dL_law_793 (n_lit (by decide)) ?_
  refine a_iadd dL_law_794 ?_
  refine a_script rfl hL0 dL_law_795 ⟨h2.2.2.2.1, ?_⟩
  refine iv_L_89 dL_law_796 (Nat.le_of_ble_eq_true rfl) (MtX_mono h2.2.2.2.2 (fun r m4 hq => ?_))
  obtain ⟨x6, rfl, h5⟩ := hq
  refine ⟨x6, rfl, ?_⟩
  refine a_icmp_eq (tgt := 1435) dL_law_799 (by decide) ⟨fun c7 => ?_, fun c7 => ?_⟩
  · exact (h5.1 c7)
  · refine a_iconst (k := 0) dL_law_802 (n_lit (by decide)) ?_
    exact a_iret dL_law_803 (h5.2 c7)
set_option maxRecDepth 10000 in
theorem sg_L_law_804 {d : Nat}  (a3 : Int) (L : List Int) (hL0 : ∀ v ∈ L, ri v) (hn : L.length < 2000000) (mem : AMem) (Q : Option AV → AMem → Prop) (h : (0 ≤ (w32 (a3 + 1)) ∧ (w32 (a3 + 1)) < (L.length : Int)) ∧ ((0 ≤ (w32 (a3 + 2)) ∧ (w32 (a3 + 2)) < (L.length : Int)) ∧ (MtX yX11_judge cX11_judge 4 (some .int) d [vr 11 0, vi (List.getD L (Int.toNat (w32 (a3 + 1))) 0), vi (List.getD L (Int.toNat (w32 (a3 + 2))) 0)] mem (fun r m1 => ∃ x3 : Int, r = some (vi x3) ∧ ((0 ≤ (w32 (a3 + 1)) ∧ (w32 (a3 + 1)) < (L.length : Int)) ∧ ((0 ≤ (w32 (a3 + 2)) ∧ (w32 (a3 + 2)) < (L.length : Int)) ∧ (MtX yX12_judge cX12_judge 3 (some .int) d [vr 12 0, vi (List.getD L (Int.toNat (w32 (a3 + 1))) 0), vi (List.getD L (Int.toNat (w32 (a3 + 2))) 0)] m1 (fun r m4 => ∃ x6 : Int, r = some (vi x6) ∧ ((x3 = x6 → (Y cL_law 4 RL (d + 1) (some L) 1435 [some (vr 2010 0), some (vr 11 0), some (vr 12 0), some (vi a3)] [] m4 Q)) ∧ (¬ x3 = x6 → (Q (some (vi 0)) m4))))))))))) : Y cL_law 4 RL (d + 1) (some L) 804 [some (vr 2010 0), some (vr 11 0), some (vr 12 0), some (vi a3)] [] mem Q := by
  refine a_aload_n dL_law_804 rfl rfl ?_
  refine a_aload_n dL_law_805 rfl rfl ?_
  refine a_iload_n dL_law_806 rfl rfl ?_
  refine a_iconst (k := 1) dL_law_807 (n_lit (by decide)) ?_
  refine a_iadd dL_law_808 ?_
  refine a_script rfl hL0 dL_law_809 ⟨h.1, ?_⟩
  refine a_aload_n dL_law_810 rfl rfl ?_
  refine a_iload_n dL_law_811 rfl rfl ?_
  refine a_iconst (k := 2) dL_law_812 (n_lit (by decide)) ?_
  refine a_iadd dL_law_813 ?_
  refine a_script rfl hL0 dL_law_814 ⟨h.2.1, ?_⟩
  refine iv_L_90 dL_law_815 (Nat.le_of_ble_eq_true rfl) (MtX_mono h.2.2 (fun r m1 hq => ?_))
  obtain ⟨x3, rfl, h2⟩ := hq
  refine ⟨x3, rfl, ?_⟩
  refine a_aload_n dL_law_818 rfl rfl ?_
  refine a_aload_n dL_law_819 rfl rfl ?_
  refine a_iload_n dL_law_820 rfl rfl ?_
  refine a_iconst (k := 1) dL_law_821 (n_lit (by decide)) ?_
  refine a_iadd dL_law_822 ?_
  refine a_script rfl hL0 dL_law_823 ⟨h2.1, ?_⟩
  refine a_aload_n dL_law_824 rfl rfl ?_
  refine a_iload_n dL_law_825 rfl rfl ?_
  refine a_iconst (k := 2) dL_law_826 (n_lit (by decide)) ?_
  refine a_iadd dL_law_827 ?_
  refine a_script rfl hL0 dL_law_828 ⟨h2.2.1, ?_⟩
  refine iv_L_93 dL_law_829 (Nat.le_of_ble_eq_true rfl) (MtX_mono h2.2.2 (fun r m4 hq => ?_))
  obtain ⟨x6, rfl, h5⟩ := hq
  refine ⟨x6, rfl, ?_⟩
  refine a_icmp_eq (tgt := 1435) dL_law_832 (by decide) ⟨fun c7 => ?_, fun c7 => ?_⟩
  · exact (h5.1 c7)
  · refine a_iconst (k := 0) dL_law_835 (n_lit (by decide)) ?_
    exact a_iret dL_law_836 (h5.2 c7)
set_option maxRecDepth 10000 in
theorem sg_L_law_837 {d : Nat}  (a3 : Int) (L : List Int) (hL0 : ∀ v ∈ L, ri v) (hn : L.length < 2000000) (mem : AMem) (Q : Option AV → AMem → Prop) (h : (0 ≤ (w32 (a3 + 1)) ∧ (w32 (a3 + 1)) < (L.length : Int)) ∧ ((0 ≤ (w32 (a3 + 2)) ∧ (w32 (a3 + 2)) < (L.length : Int)) ∧ ((0 ≤ (w32 (a3 + 3)) ∧ (w32 (a3 + 3)) < (L.length : Int)) ∧ ((0 ≤ (w32 (a3 + 4)) ∧ (w32 (a3 + 4)) < (L.length : Int)) ∧ (MtX yX11_bench cX11_bench 6 (some .int) d [vr 11 0, vi (List.getD L (Int.toNat (w32 (a3 + 1))) 0), vi (List.getD L (Int.toNat (w32 (a3 + 2))) 0), vi (List.getD L (Int.toNat (w32 (a3 + 3))) 0), vi (List.getD L (Int.toNat (w32 (a3 + 4))) 0)] mem (fun r m1 => ∃ x3 : Int, r = some (vi x3) ∧ ((0 ≤ (w32 (a3 + 1)) ∧ (w32 (a3 + 1)) < (L.length : Int)) ∧ ((0 ≤ (w32 (a3 + 2)) ∧ (w32 (a3 + 2)) < (L.length : Int)) ∧ ((0 ≤ (w32 (a3 + 3)) ∧ (w32 (a3 + 3)) < (L.length : Int)) ∧ ((0 ≤ (w32 (a3 + 4)) ∧ (w32 (a3 + 4)) < (L.length : Int)) ∧ (MtX yX12_bench cX12_bench 5 (some .int) d [vr 12 0, vi (List.getD L (Int.toNat (w32 (a3 + 1))) 0), vi (List.getD L (Int.toNat (w32 (a3 + 2))) 0), vi (List.getD L (Int.toNat (w32 (a3 + 3))) 0), vi (List.getD L (Int.toNat (w32 (a3 + 4))) 0)] m1 (fun r m4 => ∃ x6 : Int, r = some (vi x6) ∧ ((x3 = x6 → (Y cL_law 4 RL (d + 1) (some L) 1435 [some (vr 2010 0), some (vr 11 0), some (vr 12 0), some (vi a3)] [] m4 Q)) ∧ (¬ x3 = x6 → (Q (some (vi 0)) m4))))))))))))))) : Y cL_law 4 RL (d + 1) (some L) 837 [some (vr 2010 0), some (vr 11 0), some (vr 12 0), some (vi a3)] [] mem Q := by
  refine a_aload_n dL_law_837 rfl rfl ?_
  refine a_aload_n dL_law_838 rfl rfl ?_
  refine a_iload_n dL_law_839 rfl rfl ?_
  refine a_iconst (k := 1) dL_law_840 (n_lit (by decide)) ?_
  refine a_iadd dL_law_841 ?_
  refine a_script rfl hL0 dL_law_842 ⟨h.1, ?_⟩
  refine a_aload_n dL_law_843 rfl rfl ?_
  refine a_iload_n dL_law_844 rfl rfl ?_
  refine a_iconst (k := 2) dL_law_845 (n_lit (by decide)) ?_
  refine a_iadd dL_law_846 ?_
  refine a_script rfl hL0 dL_law_847 ⟨h.2.1, ?_⟩
  refine a_aload_n dL_law_848 rfl rfl ?_
  refine a_iload_n dL_law_849 rfl rfl ?_
  refine a_iconst (k := 3) dL_law_850 (n_lit (by decide)) ?_
  refine a_iadd dL_law_851 ?_
  refine a_script rfl hL0 dL_law_852 ⟨h.2.2.1, ?_⟩
  refine a_aload_n dL_law_853 rfl rfl ?_
  refine a_iload_n dL_law_854 rfl rfl ?_
  refine a_iconst (k := 4) dL_law_855 (n_lit (by decide)) ?_
  refine a_iadd dL_law_856 ?_
  refine a_script rfl hL0 dL_law_857 ⟨h.2.2.2.1, ?_⟩
  refine iv_L_94 dL_law_858 (Nat.le_of_ble_eq_true rfl) (MtX_mono h.2.2.2.2 (fun r m1 hq => ?_))
  obtain ⟨x3, rfl, h2⟩ := hq
  refine ⟨x3, rfl, ?_⟩
  refine a_aload_n dL_law_861 rfl rfl ?_
  refine a_aload_n dL_law_862 rfl rfl ?_
  refine a_iload_n dL_law_863 rfl rfl ?_
  refine a_iconst (k := 1) dL_law_864 (n_lit (by decide)) ?_
  refine a_iadd dL_law_865 ?_
  refine a_script rfl hL0 dL_law_866 ⟨h2.1, ?_⟩
  refine a_aload_n dL_law_867 rfl rfl ?_
  refine a_iload_n dL_law_868 rfl rfl ?_
  refine a_iconst (k := 2) dL_law_869 (n_lit (by decide)) ?_
  refine a_iadd dL_law_870 ?_
  refine a_script rfl hL0 dL_law_871 ⟨h2.2.1, ?_⟩
  refine a_aload_n dL_law_872 rfl rfl ?_
  refine a_iload_n dL_law_873 rfl rfl ?_
  refine a_iconst (k := 3) dL_law_874 (n_lit (by decide)) ?_
  refine a_iadd dL_law_875 ?_
  refine a_script rfl hL0 dL_law_876 ⟨h2.2.2.1, ?_⟩
  refine a_aload_n dL_law_877 rfl rfl ?_
  refine a_iload_n dL_law_878 rfl rfl ?_
  refine a_iconst (k := 4) dL_law_879 (n_lit (by decide)) ?_
  refine a_iadd dL_law_880 ?_
  refine a_script rfl hL0 dL_law_881 ⟨h2.2.2.2.1, ?_⟩
  refine iv_L_97 dL_law_882 (Nat.le_of_ble_eq_true rfl) (MtX_mono h2.2.2.2.2 (fun r m4 hq => ?_))
  obtain ⟨x6, rfl, h5⟩ := hq
  refine ⟨x6, rfl, ?_⟩
  refine a_icmp_eq (tgt := 1435) dL_law_885 (by decide) ⟨fun c7 => ?_, fun c7 => ?_⟩
  · exact (h5.1 c7)
  · refine a_iconst (k := 0) dL_law_888 (n_lit (by decide)) ?_
    exact a_iret dL_law_889 (h5.2 c7)
set_option maxRecDepth 10000 in
theorem sg_L_law_890 {d : Nat}  (a3 : Int) (L : List Int) (hL0 : ∀ v ∈ L, ri v) (hn : L.length < 2000000) (mem : AMem) (Q : Option AV → AMem → Prop) (h : (0 ≤ (w32 (a3 + 1)) ∧ (w32 (a3 + 1)) < (L.length : Int)) ∧ ((0 ≤ (w32 (a3 + 2)) ∧ (w32 (a3 + 2)) < (L.length : Int)) ∧ ((0 ≤ (w32 (a3 + 3)) ∧ (w32 (a3 + 3)) < (L.length : Int)) ∧ (MtX yX11_drawn cX11_drawn 8 (some .int) d [vr 11 0, vi (List.getD L (Int.toNat (w32 (a3 + 1))) 0), vi (List.getD L (Int.toNat (w32 (a3 + 2))) 0), vi (List.getD L (Int.toNat (w32 (a3 + 3))) 0)] mem (fun r m1 => ∃ x3 : Int, r = some (vi x3) ∧ ((0 ≤ (w32 (a3 + 1)) ∧ (w32 (a3 + 1)) < (L.length : Int)) ∧ ((0 ≤ (w32 (a3 + 2)) ∧ (w32 (a3 + 2)) < (L.length : Int)) ∧ ((0 ≤ (w32 (a3 + 3)) ∧ (w32 (a3 + 3)) < (L.length : Int)) ∧ (MtX yX12_drawn cX12_drawn 8 (some .int) d [vr 12 0, vi (List.getD L (Int.toNat (w32 (a3 + 1))) 0), vi (List.getD L (Int.toNat (w32 (a3 + 2))) 0), vi (List.getD L (Int.toNat (w32 (a3 + 3))) 0)] m1 (fun r m4 => ∃ x6 : Int, r = some (vi x6) ∧ ((x3 = x6 → (Y cL_law 4 RL (d + 1) (some L) 1435 [some (vr 2010 0), some (vr 11 0), some (vr 12 0), some (vi a3)] [] m4 Q)) ∧ (¬ x3 = x6 → (Q (some (vi 0)) m4))))))))))))) : Y cL_law 4 RL (d + 1) (some L) 890 [some (vr 2010 0), some (vr 11 0), some (vr 12 0), some (vi a3)] [] mem Q := by
  refine a_aload_n dL_law_890 rfl rfl ?_
  refine a_aload_n dL_law_891 rfl rfl ?_
  refine a_iload_n dL_law_892 rfl rfl ?_
  refine a_iconst (k := 1) dL_law_893 (n_lit (by decide)) ?_
  refine a_iadd dL_law_894 ?_
  refine a_script rfl hL0 dL_law_895 ⟨h.1, ?_⟩
  refine a_aload_n dL_law_896 rfl rfl ?_
  refine a_iload_n dL_law_897 rfl rfl ?_
  refine a_iconst (k := 2) dL_law_898 (n_lit (by decide)) ?_
  refine a_iadd dL_law_899 ?_
  refine a_script rfl hL0 dL_law_900 ⟨h.2.1, ?_⟩
  refine a_aload_n dL_law_901 rfl rfl ?_
  refine a_iload_n dL_law_902 rfl rfl ?_
  refine a_iconst (k := 3) dL_law_903 (n_lit (by decide)) ?_
  refine a_iadd dL_law_904 ?_
  refine a_script rfl hL0 dL_law_905 ⟨h.2.2.1, ?_⟩
  refine iv_L_98 dL_law_906 (Nat.le_of_ble_eq_true rfl) (MtX_mono h.2.2.2 (fun r m1 hq => ?_))
  obtain ⟨x3, rfl, h2⟩ := hq
  refine ⟨x3, rfl, ?_⟩
  refine a_aload_n dL_law_909 rfl rfl ?_
  refine a_aload_n dL_law_910 rfl rfl ?_
  refine a_iload_n dL_law_911 rfl rfl ?_
  refine a_iconst (k := 1) dL_law_912 (n_lit (by decide)) ?_
  refine a_iadd dL_law_913 ?_
  refine a_script rfl hL0 dL_law_914 ⟨h2.1, ?_⟩
  refine a_aload_n dL_law_915 rfl rfl ?_
  refine a_iload_n dL_law_916 rfl rfl ?_
  refine a_iconst (k := 2) dL_law_917 (n_lit (by decide)) ?_
  refine a_iadd dL_law_918 ?_
  refine a_script rfl hL0 dL_law_919 ⟨h2.2.1, ?_⟩
  refine a_aload_n dL_law_920 rfl rfl ?_
  refine a_iload_n dL_law_921 rfl rfl ?_
  refine a_iconst (k := 3) dL_law_922 (n_lit (by decide)) ?_
  refine a_iadd dL_law_923 ?_
  refine a_script rfl hL0 dL_law_924 ⟨h2.2.2.1, ?_⟩
  refine iv_L_101 dL_law_925 (Nat.le_of_ble_eq_true rfl) (MtX_mono h2.2.2.2 (fun r m4 hq => ?_))
  obtain ⟨x6, rfl, h5⟩ := hq
  refine ⟨x6, rfl, ?_⟩
  refine a_icmp_eq (tgt := 1435) dL_law_928 (by decide) ⟨fun c7 => ?_, fun c7 => ?_⟩
  · exact (h5.1 c7)
  · refine a_iconst (k := 0) dL_law_931 (n_lit (by decide)) ?_
    exact a_iret dL_law_932 (h5.2 c7)
set_option maxRecDepth 10000 in
theorem sg_L_law_933 {d : Nat}  (a3 : Int) (L : List Int) (hL0 : ∀ v ∈ L, ri v) (hn : L.length < 2000000) (mem : AMem) (Q : Option AV → AMem → Prop) (h : (0 ≤ (w32 (a3 + 1)) ∧ (w32 (a3 + 1)) < (L.length : Int)) ∧ (MtX yX11_go cX11_go 3 (some .int) d [vr 11 0, vi (List.getD L (Int.toNat (w32 (a3 + 1))) 0)] mem (fun r m1 => ∃ x3 : Int, r = some (vi x3) ∧ ((0 ≤ (w32 (a3 + 1)) ∧ (w32 (a3 + 1)) < (L.length : Int)) ∧ (MtX yX12_go cX12_go 4 (some .int) d [vr 12 0, vi (List.getD L (Int.toNat (w32 (a3 + 1))) 0)] m1 (fun r m4 => ∃ x6 : Int, r = some (vi x6) ∧ ((x3 = x6 → (Y cL_law 4 RL (d + 1) (some L) 1435 [some (vr 2010 0), some (vr 11 0), some (vr 12 0), some (vi a3)] [] m4 Q)) ∧ (¬ x3 = x6 → (Q (some (vi 0)) m4))))))))) : Y cL_law 4 RL (d + 1) (some L) 933 [some (vr 2010 0), some (vr 11 0), some (vr 12 0), some (vi a3)] [] mem Q := by
  refine a_aload_n dL_law_933 rfl rfl ?_
  refine a_aload_n dL_law_934 rfl rfl ?_
  refine a_iload_n dL_law_935 rfl rfl ?_
  refine a_iconst (k := 1) dL_law_936 (n_lit (by decide)) ?_
  refine a_iadd dL_law_937 ?_
  refine a_script rfl hL0 dL_law_938 ⟨h.1, ?_⟩
  refine iv_L_102 dL_law_939 (Nat.le_of_ble_eq_true rfl) (MtX_mono h.2 (fun r m1 hq => ?_))
  obtain ⟨x3, rfl, h2⟩ := hq
  refine ⟨x3, rfl, ?_⟩
  refine a_aload_n dL_law_942 rfl rfl ?_
  refine a_aload_n dL_law_943 rfl rfl ?_
  refine a_iload_n dL_law_944 rfl rfl ?_
  refine a_iconst (k := 1) dL_law_945 (n_lit (by decide)) ?_
  refine a_iadd dL_law_946 ?_
  refine a_script rfl hL0 dL_law_947 ⟨h2.1, ?_⟩
  refine iv_L_105 dL_law_948 (Nat.le_of_ble_eq_true rfl) (MtX_mono h2.2 (fun r m4 hq => ?_))
  obtain ⟨x6, rfl, h5⟩ := hq
  refine ⟨x6, rfl, ?_⟩
  refine a_icmp_eq (tgt := 1435) dL_law_951 (by decide) ⟨fun c7 => ?_, fun c7 => ?_⟩
  · exact (h5.1 c7)
  · refine a_iconst (k := 0) dL_law_954 (n_lit (by decide)) ?_
    exact a_iret dL_law_955 (h5.2 c7)
set_option maxRecDepth 10000 in
theorem sg_L_law_956 {d : Nat}  (a3 : Int) (L : List Int) (hL0 : ∀ v ∈ L, ri v) (hn : L.length < 2000000) (mem : AMem) (Q : Option AV → AMem → Prop) (h : MtX yX11_allIn cX11_allIn 3 (some .int) d [vr 11 0] mem (fun r m1 => ∃ x3 : Int, r = some (vi x3) ∧ (MtX yX12_allIn cX12_allIn 3 (some .int) d [vr 12 0] m1 (fun r m4 => ∃ x6 : Int, r = some (vi x6) ∧ ((x3 = x6 → (Y cL_law 4 RL (d + 1) (some L) 1435 [some (vr 2010 0), some (vr 11 0), some (vr 12 0), some (vi a3)] [] m4 Q)) ∧ (¬ x3 = x6 → (Q (some (vi 0)) m4))))))) : Y cL_law 4 RL (d + 1) (some L) 956 [some (vr 2010 0), some (vr 11 0), some (vr 12 0), some (vi a3)] [] mem Q := by
  refine a_aload_n dL_law_956 rfl rfl ?_
  refine iv_L_106 dL_law_957 (Nat.le_of_ble_eq_true rfl) (MtX_mono h (fun r m1 hq => ?_))
  obtain ⟨x3, rfl, h2⟩ := hq
  refine ⟨x3, rfl, ?_⟩
  refine a_aload_n dL_law_960 rfl rfl ?_
  refine iv_L_109 dL_law_961 (Nat.le_of_ble_eq_true rfl) (MtX_mono h2 (fun r m4 hq => ?_))
  obtain ⟨x6, rfl, h5⟩ := hq
  refine ⟨x6, rfl, ?_⟩
  refine a_icmp_eq (tgt := 1435) dL_law_964 (by decide) ⟨fun c7 => ?_, fun c7 => ?_⟩
  · exact (h5.1 c7)
  · refine a_iconst (k := 0) dL_law_967 (n_lit (by decide)) ?_
    exact a_iret dL_law_968 (h5.2 c7)
set_option maxRecDepth 10000 in
theorem sg_L_law_969 {d : Nat}  (a3 : Int) (L : List Int) (hL0 : ∀ v ∈ L, ri v) (hn : L.length < 2000000) (mem : AMem) (Q : Option AV → AMem → Prop) (h : (0 ≤ (w32 (a3 + 1)) ∧ (w32 (a3 + 1)) < (L.length : Int)) ∧ (MtX yX11_led cX11_led 2 (some .int) d [vr 11 0, vi (List.getD L (Int.toNat (w32 (a3 + 1))) 0)] mem (fun r m1 => ∃ x3 : Int, r = some (vi x3) ∧ ((0 ≤ (w32 (a3 + 1)) ∧ (w32 (a3 + 1)) < (L.length : Int)) ∧ (MtX yX12_led cX12_led 2 (some .int) d [vr 12 0, vi (List.getD L (Int.toNat (w32 (a3 + 1))) 0)] m1 (fun r m4 => ∃ x6 : Int, r = some (vi x6) ∧ ((x3 = x6 → (Y cL_law 4 RL (d + 1) (some L) 1435 [some (vr 2010 0), some (vr 11 0), some (vr 12 0), some (vi a3)] [] m4 Q)) ∧ (¬ x3 = x6 → (Q (some (vi 0)) m4))))))))) : Y cL_law 4 RL (d + 1) (some L) 969 [some (vr 2010 0), some (vr 11 0), some (vr 12 0), some (vi a3)] [] mem Q := by
  refine a_aload_n dL_law_969 rfl rfl ?_
  refine a_aload_n dL_law_970 rfl rfl ?_
  refine a_iload_n dL_law_971 rfl rfl ?_
  refine a_iconst (k := 1) dL_law_972 (n_lit (by decide)) ?_
  refine a_iadd dL_law_973 ?_
  refine a_script rfl hL0 dL_law_974 ⟨h.1, ?_⟩
  refine iv_L_110 dL_law_975 (Nat.le_of_ble_eq_true rfl) (MtX_mono h.2 (fun r m1 hq => ?_))
  obtain ⟨x3, rfl, h2⟩ := hq
  refine ⟨x3, rfl, ?_⟩
  refine a_aload_n dL_law_978 rfl rfl ?_
  refine a_aload_n dL_law_979 rfl rfl ?_
  refine a_iload_n dL_law_980 rfl rfl ?_
  refine a_iconst (k := 1) dL_law_981 (n_lit (by decide)) ?_
  refine a_iadd dL_law_982 ?_
  refine a_script rfl hL0 dL_law_983 ⟨h2.1, ?_⟩
  refine iv_L_113 dL_law_984 (Nat.le_of_ble_eq_true rfl) (MtX_mono h2.2 (fun r m4 hq => ?_))
  obtain ⟨x6, rfl, h5⟩ := hq
  refine ⟨x6, rfl, ?_⟩
  refine a_icmp_eq (tgt := 1435) dL_law_987 (by decide) ⟨fun c7 => ?_, fun c7 => ?_⟩
  · exact (h5.1 c7)
  · refine a_iconst (k := 0) dL_law_990 (n_lit (by decide)) ?_
    exact a_iret dL_law_991 (h5.2 c7)
set_option maxRecDepth 10000 in
theorem sg_L_law_992 {d : Nat}  (a3 : Int) (L : List Int) (hL0 : ∀ v ∈ L, ri v) (hn : L.length < 2000000) (mem : AMem) (Q : Option AV → AMem → Prop) (h : MtX yX11_image cX11_image 1 (some .int) d [vr 11 0] mem (fun r m1 => ∃ x3 : Int, r = some (vi x3) ∧ (MtX yX12_image cX12_image 2 (some .int) d [vr 12 0] m1 (fun r m4 => ∃ x6 : Int, r = some (vi x6) ∧ ((x3 = x6 → (Y cL_law 4 RL (d + 1) (some L) 1435 [some (vr 2010 0), some (vr 11 0), some (vr 12 0), some (vi a3)] [] m4 Q)) ∧ (¬ x3 = x6 → (Q (some (vi 0)) m4))))))) : Y cL_law 4 RL (d + 1) (some L) 992 [some (vr 2010 0), some (vr 11 0), some (vr 12 0), some (vi a3)] [] mem Q := by
  refine a_aload_n dL_law_992 rfl rfl ?_
  refine iv_L_114 dL_law_993 (Nat.le_of_ble_eq_true rfl) (MtX_mono h (fun r m1 hq => ?_))
  obtain ⟨x3, rfl, h2⟩ := hq
  refine ⟨x3, rfl, ?_⟩
  refine a_aload_n dL_law_996 rfl rfl ?_
  refine iv_L_117 dL_law_997 (Nat.le_of_ble_eq_true rfl) (MtX_mono h2 (fun r m4 hq => ?_))
  obtain ⟨x6, rfl, h5⟩ := hq
  refine ⟨x6, rfl, ?_⟩
  refine a_icmp_eq (tgt := 1435) dL_law_1000 (by decide) ⟨fun c7 => ?_, fun c7 => ?_⟩
  · exact (h5.1 c7)
  · refine a_iconst (k := 0) dL_law_1003 (n_lit (by decide)) ?_
    exact a_iret dL_law_1004 (h5.2 c7)
set_option maxRecDepth 10000 in
theorem sg_L_law_1005 {d : Nat}  (a3 : Int) (L : List Int) (hL0 : ∀ v ∈ L, ri v) (hn : L.length < 2000000) (mem : AMem) (Q : Option AV → AMem → Prop) (h : MtX yX11_back cX11_back 1 (some .int) d [vr 11 0] mem (fun r m1 => ∃ x3 : Int, r = some (vi x3) ∧ (MtX yX12_back cX12_back 2 (some .int) d [vr 12 0] m1 (fun r m4 => ∃ x6 : Int, r = some (vi x6) ∧ ((x3 = x6 → (Y cL_law 4 RL (d + 1) (some L) 1435 [some (vr 2010 0), some (vr 11 0), some (vr 12 0), some (vi a3)] [] m4 Q)) ∧ (¬ x3 = x6 → (Q (some (vi 0)) m4))))))) : Y cL_law 4 RL (d + 1) (some L) 1005 [some (vr 2010 0), some (vr 11 0), some (vr 12 0), some (vi a3)] [] mem Q := by
  refine a_aload_n dL_law_1005 rfl rfl ?_
  refine iv_L_118 dL_law_1006 (Nat.le_of_ble_eq_true rfl) (MtX_mono h (fun r m1 hq => ?_))
  obtain ⟨x3, rfl, h2⟩ := hq
  refine ⟨x3, rfl, ?_⟩
  refine a_aload_n dL_law_1009 rfl rfl ?_
  refine iv_L_121 dL_law_1010 (Nat.le_of_ble_eq_true rfl) (MtX_mono h2 (fun r m4 hq => ?_))
  obtain ⟨x6, rfl, h5⟩ := hq
  refine ⟨x6, rfl, ?_⟩
  refine a_icmp_eq (tgt := 1435) dL_law_1013 (by decide) ⟨fun c7 => ?_, fun c7 => ?_⟩
  · exact (h5.1 c7)
  · refine a_iconst (k := 0) dL_law_1016 (n_lit (by decide)) ?_
    exact a_iret dL_law_1017 (h5.2 c7)
set_option maxRecDepth 10000 in
theorem sg_L_law_1018 {d : Nat}  (a3 : Int) (L : List Int) (hL0 : ∀ v ∈ L, ri v) (hn : L.length < 2000000) (mem : AMem) (Q : Option AV → AMem → Prop) (h : MtX yX11_undo cX11_undo 1 (some .int) d [vr 11 0] mem (fun r m1 => ∃ x3 : Int, r = some (vi x3) ∧ (MtX yX12_undo cX12_undo 1 (some .int) d [vr 12 0] m1 (fun r m4 => ∃ x6 : Int, r = some (vi x6) ∧ ((x3 = x6 → (Y cL_law 4 RL (d + 1) (some L) 1435 [some (vr 2010 0), some (vr 11 0), some (vr 12 0), some (vi a3)] [] m4 Q)) ∧ (¬ x3 = x6 → (Q (some (vi 0)) m4))))))) : Y cL_law 4 RL (d + 1) (some L) 1018 [some (vr 2010 0), some (vr 11 0), some (vr 12 0), some (vi a3)] [] mem Q := by
  refine a_aload_n dL_law_1018 rfl rfl ?_
  refine iv_L_122 dL_law_1019 (Nat.le_of_ble_eq_true rfl) (MtX_mono h (fun r m1 hq => ?_))
  obtain ⟨x3, rfl, h2⟩ := hq
  refine ⟨x3, rfl, ?_⟩
  refine a_aload_n dL_law_1022 rfl rfl ?_
  refine iv_L_125 dL_law_1023 (Nat.le_of_ble_eq_true rfl) (MtX_mono h2 (fun r m4 hq => ?_))
  obtain ⟨x6, rfl, h5⟩ := hq
  refine ⟨x6, rfl, ?_⟩
  refine a_icmp_eq (tgt := 1435) dL_law_1026 (by decide) ⟨fun c7 => ?_, fun c7 => ?_⟩
  · exact (h5.1 c7)
  · refine a_iconst (k := 0) dL_law_1029 (n_lit (by decide)) ?_
    exact a_iret dL_law_1030 (h5.2 c7)
set_option maxRecDepth 10000 in
theorem sg_L_law_1031 {d : Nat}  (a3 : Int) (L : List Int) (hL0 : ∀ v ∈ L, ri v) (hn : L.length < 2000000) (mem : AMem) (Q : Option AV → AMem → Prop) (h : MtX yX11_redo cX11_redo 1 (some .int) d [vr 11 0] mem (fun r m1 => ∃ x3 : Int, r = some (vi x3) ∧ (MtX yX12_redo cX12_redo 1 (some .int) d [vr 12 0] m1 (fun r m4 => ∃ x6 : Int, r = some (vi x6) ∧ ((x3 = x6 → (Y cL_law 4 RL (d + 1) (some L) 1435 [some (vr 2010 0), some (vr 11 0), some (vr 12 0), some (vi a3)] [] m4 Q)) ∧ (¬ x3 = x6 → (Q (some (vi 0)) m4))))))) : Y cL_law 4 RL (d + 1) (some L) 1031 [some (vr 2010 0), some (vr 11 0), some (vr 12 0), some (vi a3)] [] mem Q := by
  refine a_aload_n dL_law_1031 rfl rfl ?_
  refine iv_L_126 dL_law_1032 (Nat.le_of_ble_eq_true rfl) (MtX_mono h (fun r m1 hq => ?_))
  obtain ⟨x3, rfl, h2⟩ := hq
  refine ⟨x3, rfl, ?_⟩
  refine a_aload_n dL_law_1035 rfl rfl ?_
  refine iv_L_129 dL_law_1036 (Nat.le_of_ble_eq_true rfl) (MtX_mono h2 (fun r m4 hq => ?_))
  obtain ⟨x6, rfl, h5⟩ := hq
  refine ⟨x6, rfl, ?_⟩
  refine a_icmp_eq (tgt := 1435) dL_law_1039 (by decide) ⟨fun c7 => ?_, fun c7 => ?_⟩
  · exact (h5.1 c7)
  · refine a_iconst (k := 0) dL_law_1042 (n_lit (by decide)) ?_
    exact a_iret dL_law_1043 (h5.2 c7)
set_option maxRecDepth 10000 in
theorem sg_L_law_1044 {d : Nat}  (a3 : Int) (L : List Int) (hL0 : ∀ v ∈ L, ri v) (hn : L.length < 2000000) (mem : AMem) (Q : Option AV → AMem → Prop) (h : (0 ≤ (w32 (a3 + 1)) ∧ (w32 (a3 + 1)) < (L.length : Int)) ∧ (MtX yX11_body cX11_body 2 (some .int) d [vr 11 0, vi (List.getD L (Int.toNat (w32 (a3 + 1))) 0)] mem (fun r m1 => ∃ x3 : Int, r = some (vi x3) ∧ ((0 ≤ (w32 (a3 + 1)) ∧ (w32 (a3 + 1)) < (L.length : Int)) ∧ (MtX yX12_body cX12_body 2 (some .int) d [vr 12 0, vi (List.getD L (Int.toNat (w32 (a3 + 1))) 0)] m1 (fun r m4 => ∃ x6 : Int, r = some (vi x6) ∧ ((x3 = x6 → (Y cL_law 4 RL (d + 1) (some L) 1435 [some (vr 2010 0), some (vr 11 0), some (vr 12 0), some (vi a3)] [] m4 Q)) ∧ (¬ x3 = x6 → (Q (some (vi 0)) m4))))))))) : Y cL_law 4 RL (d + 1) (some L) 1044 [some (vr 2010 0), some (vr 11 0), some (vr 12 0), some (vi a3)] [] mem Q := by
  refine a_aload_n dL_law_1044 rfl rfl ?_
  refine a_aload_n dL_law_1045 rfl rfl ?_
  refine a_iload_n dL_law_1046 rfl rfl ?_
  refine a_iconst (k := 1) dL_law_1047 (n_lit (by decide)) ?_
  refine a_iadd dL_law_1048 ?_
  refine a_script rfl hL0 dL_law_1049 ⟨h.1, ?_⟩
  refine iv_L_130 dL_law_1050 (Nat.le_of_ble_eq_true rfl) (MtX_mono h.2 (fun r m1 hq => ?_))
  obtain ⟨x3, rfl, h2⟩ := hq
  refine ⟨x3, rfl, ?_⟩
  refine a_aload_n dL_law_1053 rfl rfl ?_
  refine a_aload_n dL_law_1054 rfl rfl ?_
  refine a_iload_n dL_law_1055 rfl rfl ?_
  refine a_iconst (k := 1) dL_law_1056 (n_lit (by decide)) ?_
  refine a_iadd dL_law_1057 ?_
  refine a_script rfl hL0 dL_law_1058 ⟨h2.1, ?_⟩
  refine iv_L_133 dL_law_1059 (Nat.le_of_ble_eq_true rfl) (MtX_mono h2.2 (fun r m4 hq => ?_))
  obtain ⟨x6, rfl, h5⟩ := hq
  refine ⟨x6, rfl, ?_⟩
  refine a_icmp_eq (tgt := 1435) dL_law_1062 (by decide) ⟨fun c7 => ?_, fun c7 => ?_⟩
  · exact (h5.1 c7)
  · refine a_iconst (k := 0) dL_law_1065 (n_lit (by decide)) ?_
    exact a_iret dL_law_1066 (h5.2 c7)
set_option maxRecDepth 10000 in
theorem sg_L_law_1067 {d : Nat}  (a3 : Int) (L : List Int) (hL0 : ∀ v ∈ L, ri v) (hn : L.length < 2000000) (mem : AMem) (Q : Option AV → AMem → Prop) (h : (0 ≤ (w32 (a3 + 1)) ∧ (w32 (a3 + 1)) < (L.length : Int)) ∧ ((0 ≤ (w32 (a3 + 2)) ∧ (w32 (a3 + 2)) < (L.length : Int)) ∧ ((0 ≤ (w32 (a3 + 3)) ∧ (w32 (a3 + 3)) < (L.length : Int)) ∧ (MtX yX11_act cX11_act 4 (some .int) d [vr 11 0, vi (List.getD L (Int.toNat (w32 (a3 + 1))) 0), vi (List.getD L (Int.toNat (w32 (a3 + 2))) 0), vi (List.getD L (Int.toNat (w32 (a3 + 3))) 0)] mem (fun r m1 => ∃ x3 : Int, r = some (vi x3) ∧ ((0 ≤ (w32 (a3 + 1)) ∧ (w32 (a3 + 1)) < (L.length : Int)) ∧ ((0 ≤ (w32 (a3 + 2)) ∧ (w32 (a3 + 2)) < (L.length : Int)) ∧ ((0 ≤ (w32 (a3 + 3)) ∧ (w32 (a3 + 3)) < (L.length : Int)) ∧ (MtX yX12_act cX12_act 4 (some .int) d [vr 12 0, vi (List.getD L (Int.toNat (w32 (a3 + 1))) 0), vi (List.getD L (Int.toNat (w32 (a3 + 2))) 0), vi (List.getD L (Int.toNat (w32 (a3 + 3))) 0)] m1 (fun r m4 => ∃ x6 : Int, r = some (vi x6) ∧ ((x3 = x6 → (Y cL_law 4 RL (d + 1) (some L) 1435 [some (vr 2010 0), some (vr 11 0), some (vr 12 0), some (vi a3)] [] m4 Q)) ∧ (¬ x3 = x6 → (Q (some (vi 0)) m4))))))))))))) : Y cL_law 4 RL (d + 1) (some L) 1067 [some (vr 2010 0), some (vr 11 0), some (vr 12 0), some (vi a3)] [] mem Q := by
  refine a_aload_n dL_law_1067 rfl rfl ?_
  refine a_aload_n dL_law_1068 rfl rfl ?_
  refine a_iload_n dL_law_1069 rfl rfl ?_
  refine a_iconst (k := 1) dL_law_1070 (n_lit (by decide)) ?_
  refine a_iadd dL_law_1071 ?_
  refine a_script rfl hL0 dL_law_1072 ⟨h.1, ?_⟩
  refine a_aload_n dL_law_1073 rfl rfl ?_
  refine a_iload_n dL_law_1074 rfl rfl ?_
  refine a_iconst (k := 2) dL_law_1075 (n_lit (by decide)) ?_
  refine a_iadd dL_law_1076 ?_
  refine a_script rfl hL0 dL_law_1077 ⟨h.2.1, ?_⟩
  refine a_aload_n dL_law_1078 rfl rfl ?_
  refine a_iload_n dL_law_1079 rfl rfl ?_
  refine a_iconst (k := 3) dL_law_1080 (n_lit (by decide)) ?_
  refine a_iadd dL_law_1081 ?_
  refine a_script rfl hL0 dL_law_1082 ⟨h.2.2.1, ?_⟩
  refine iv_L_134 dL_law_1083 (Nat.le_of_ble_eq_true rfl) (MtX_mono h.2.2.2 (fun r m1 hq => ?_))
  obtain ⟨x3, rfl, h2⟩ := hq
  refine ⟨x3, rfl, ?_⟩
  refine a_aload_n dL_law_1086 rfl rfl ?_
  refine a_aload_n dL_law_1087 rfl rfl ?_
  refine a_iload_n dL_law_1088 rfl rfl ?_
  refine a_iconst (k := 1) dL_law_1089 (n_lit (by decide)) ?_
  refine a_iadd dL_law_1090 ?_
  refine a_script rfl hL0 dL_law_1091 ⟨h2.1, ?_⟩
  refine a_aload_n dL_law_1092 rfl rfl ?_
  refine a_iload_n dL_law_1093 rfl rfl ?_
  refine a_iconst (k := 2) dL_law_1094 (n_lit (by decide)) ?_
  refine a_iadd dL_law_1095 ?_
  refine a_script rfl hL0 dL_law_1096 ⟨h2.2.1, ?_⟩
  refine a_aload_n dL_law_1097 rfl rfl ?_
  refine a_iload_n dL_law_1098 rfl rfl ?_
  refine a_iconst (k := 3) dL_law_1099 (n_lit (by decide)) ?_
  refine a_iadd dL_law_1100 ?_
  refine a_script rfl hL0 dL_law_1101 ⟨h2.2.2.1, ?_⟩
  refine iv_L_137 dL_law_1102 (Nat.le_of_ble_eq_true rfl) (MtX_mono h2.2.2.2 (fun r m4 hq => ?_))
  obtain ⟨x6, rfl, h5⟩ := hq
  refine ⟨x6, rfl, ?_⟩
  refine a_icmp_eq (tgt := 1435) dL_law_1105 (by decide) ⟨fun c7 => ?_, fun c7 => ?_⟩
  · exact (h5.1 c7)
  · refine a_iconst (k := 0) dL_law_1108 (n_lit (by decide)) ?_
    exact a_iret dL_law_1109 (h5.2 c7)
set_option maxRecDepth 10000 in
theorem sg_L_law_1110 {d : Nat}  (a3 : Int) (L : List Int) (hL0 : ∀ v ∈ L, ri v) (hn : L.length < 2000000) (mem : AMem) (Q : Option AV → AMem → Prop) (h : (0 ≤ (w32 (a3 + 1)) ∧ (w32 (a3 + 1)) < (L.length : Int)) ∧ (MtX yX11_trace cX11_trace 2 (some .int) d [vr 11 0, vi (List.getD L (Int.toNat (w32 (a3 + 1))) 0)] mem (fun r m1 => ∃ x3 : Int, r = some (vi x3) ∧ ((0 ≤ (w32 (a3 + 1)) ∧ (w32 (a3 + 1)) < (L.length : Int)) ∧ (MtX yX12_trace cX12_trace 2 (some .int) d [vr 12 0, vi (List.getD L (Int.toNat (w32 (a3 + 1))) 0)] m1 (fun r m4 => ∃ x6 : Int, r = some (vi x6) ∧ ((x3 = x6 → (Y cL_law 4 RL (d + 1) (some L) 1435 [some (vr 2010 0), some (vr 11 0), some (vr 12 0), some (vi a3)] [] m4 Q)) ∧ (¬ x3 = x6 → (Q (some (vi 0)) m4))))))))) : Y cL_law 4 RL (d + 1) (some L) 1110 [some (vr 2010 0), some (vr 11 0), some (vr 12 0), some (vi a3)] [] mem Q := by
  refine a_aload_n dL_law_1110 rfl rfl ?_
  refine a_aload_n dL_law_1111 rfl rfl ?_
  refine a_iload_n dL_law_1112 rfl rfl ?_
  refine a_iconst (k := 1) dL_law_1113 (n_lit (by decide)) ?_
  refine a_iadd dL_law_1114 ?_
  refine a_script rfl hL0 dL_law_1115 ⟨h.1, ?_⟩
  refine iv_L_138 dL_law_1116 (Nat.le_of_ble_eq_true rfl) (MtX_mono h.2 (fun r m1 hq => ?_))
  obtain ⟨x3, rfl, h2⟩ := hq
  refine ⟨x3, rfl, ?_⟩
  refine a_aload_n dL_law_1119 rfl rfl ?_
  refine a_aload_n dL_law_1120 rfl rfl ?_
  refine a_iload_n dL_law_1121 rfl rfl ?_
  refine a_iconst (k := 1) dL_law_1122 (n_lit (by decide)) ?_
  refine a_iadd dL_law_1123 ?_
  refine a_script rfl hL0 dL_law_1124 ⟨h2.1, ?_⟩
  refine iv_L_141 dL_law_1125 (Nat.le_of_ble_eq_true rfl) (MtX_mono h2.2 (fun r m4 hq => ?_))
  obtain ⟨x6, rfl, h5⟩ := hq
  refine ⟨x6, rfl, ?_⟩
  refine a_icmp_eq (tgt := 1435) dL_law_1128 (by decide) ⟨fun c7 => ?_, fun c7 => ?_⟩
  · exact (h5.1 c7)
  · refine a_iconst (k := 0) dL_law_1131 (n_lit (by decide)) ?_
    exact a_iret dL_law_1132 (h5.2 c7)
set_option maxRecDepth 10000 in
theorem sg_L_law_1133 {d : Nat}  (a3 : Int) (L : List Int) (hL0 : ∀ v ∈ L, ri v) (hn : L.length < 2000000) (mem : AMem) (Q : Option AV → AMem → Prop) (h : (0 ≤ (w32 (a3 + 1)) ∧ (w32 (a3 + 1)) < (L.length : Int)) ∧ ((0 ≤ (w32 (a3 + 2)) ∧ (w32 (a3 + 2)) < (L.length : Int)) ∧ (MtX yX11_keep cX11_keep 3 (some .int) d [vr 11 0, vi (List.getD L (Int.toNat (w32 (a3 + 1))) 0), vi (List.getD L (Int.toNat (w32 (a3 + 2))) 0)] mem (fun r m1 => ∃ x3 : Int, r = some (vi x3) ∧ ((0 ≤ (w32 (a3 + 1)) ∧ (w32 (a3 + 1)) < (L.length : Int)) ∧ ((0 ≤ (w32 (a3 + 2)) ∧ (w32 (a3 + 2)) < (L.length : Int)) ∧ (MtX yX12_keep cX12_keep 3 (some .int) d [vr 12 0, vi (List.getD L (Int.toNat (w32 (a3 + 1))) 0), vi (List.getD L (Int.toNat (w32 (a3 + 2))) 0)] m1 (fun r m4 => ∃ x6 : Int, r = some (vi x6) ∧ ((x3 = x6 → (Y cL_law 4 RL (d + 1) (some L) 1435 [some (vr 2010 0), some (vr 11 0), some (vr 12 0), some (vi a3)] [] m4 Q)) ∧ (¬ x3 = x6 → (Q (some (vi 0)) m4))))))))))) : Y cL_law 4 RL (d + 1) (some L) 1133 [some (vr 2010 0), some (vr 11 0), some (vr 12 0), some (vi a3)] [] mem Q := by
  refine a_aload_n dL_law_1133 rfl rfl ?_
  refine a_aload_n dL_law_1134 rfl rfl ?_
  refine a_iload_n dL_law_1135 rfl rfl ?_
  refine a_iconst (k := 1) dL_law_1136 (n_lit (by decide)) ?_
  refine a_iadd dL_law_1137 ?_
  refine a_script rfl hL0 dL_law_1138 ⟨h.1, ?_⟩
  refine a_aload_n dL_law_1139 rfl rfl ?_
  refine a_iload_n dL_law_1140 rfl rfl ?_
  refine a_iconst (k := 2) dL_law_1141 (n_lit (by decide)) ?_
  refine a_iadd dL_law_1142 ?_
  refine a_script rfl hL0 dL_law_1143 ⟨h.2.1, ?_⟩
  refine iv_L_142 dL_law_1144 (Nat.le_of_ble_eq_true rfl) (MtX_mono h.2.2 (fun r m1 hq => ?_))
  obtain ⟨x3, rfl, h2⟩ := hq
  refine ⟨x3, rfl, ?_⟩
  refine a_aload_n dL_law_1147 rfl rfl ?_
  refine a_aload_n dL_law_1148 rfl rfl ?_
  refine a_iload_n dL_law_1149 rfl rfl ?_
  refine a_iconst (k := 1) dL_law_1150 (n_lit (by decide)) ?_
  refine a_iadd dL_law_1151 ?_
  refine a_script rfl hL0 dL_law_1152 ⟨h2.1, ?_⟩
  refine a_aload_n dL_law_1153 rfl rfl ?_
  refine a_iload_n dL_law_1154 rfl rfl ?_
  refine a_iconst (k := 2) dL_law_1155 (n_lit (by decide)) ?_
  refine a_iadd dL_law_1156 ?_
  refine a_script rfl hL0 dL_law_1157 ⟨h2.2.1, ?_⟩
  refine iv_L_145 dL_law_1158 (Nat.le_of_ble_eq_true rfl) (MtX_mono h2.2.2 (fun r m4 hq => ?_))
  obtain ⟨x6, rfl, h5⟩ := hq
  refine ⟨x6, rfl, ?_⟩
  refine a_icmp_eq (tgt := 1435) dL_law_1161 (by decide) ⟨fun c7 => ?_, fun c7 => ?_⟩
  · exact (h5.1 c7)
  · refine a_iconst (k := 0) dL_law_1164 (n_lit (by decide)) ?_
    exact a_iret dL_law_1165 (h5.2 c7)
set_option maxRecDepth 10000 in
theorem sg_L_law_1166 {d : Nat}  (a3 : Int) (L : List Int) (hL0 : ∀ v ∈ L, ri v) (hn : L.length < 2000000) (mem : AMem) (Q : Option AV → AMem → Prop) (h : (0 ≤ (w32 (a3 + 1)) ∧ (w32 (a3 + 1)) < (L.length : Int)) ∧ ((0 ≤ (w32 (a3 + 2)) ∧ (w32 (a3 + 2)) < (L.length : Int)) ∧ ((0 ≤ (w32 (a3 + 3)) ∧ (w32 (a3 + 3)) < (L.length : Int)) ∧ (MtX yX11_row cX11_row 4 (some .int) d [vr 11 0, vi (List.getD L (Int.toNat (w32 (a3 + 1))) 0), vi (List.getD L (Int.toNat (w32 (a3 + 2))) 0), vi (List.getD L (Int.toNat (w32 (a3 + 3))) 0)] mem (fun r m1 => ∃ x3 : Int, r = some (vi x3) ∧ ((0 ≤ (w32 (a3 + 1)) ∧ (w32 (a3 + 1)) < (L.length : Int)) ∧ ((0 ≤ (w32 (a3 + 2)) ∧ (w32 (a3 + 2)) < (L.length : Int)) ∧ ((0 ≤ (w32 (a3 + 3)) ∧ (w32 (a3 + 3)) < (L.length : Int)) ∧ (MtX yX12_row cX12_row 5 (some .int) d [vr 12 0, vi (List.getD L (Int.toNat (w32 (a3 + 1))) 0), vi (List.getD L (Int.toNat (w32 (a3 + 2))) 0), vi (List.getD L (Int.toNat (w32 (a3 + 3))) 0)] m1 (fun r m4 => ∃ x6 : Int, r = some (vi x6) ∧ ((x3 = x6 → (Y cL_law 4 RL (d + 1) (some L) 1435 [some (vr 2010 0), some (vr 11 0), some (vr 12 0), some (vi a3)] [] m4 Q)) ∧ (¬ x3 = x6 → (Q (some (vi 0)) m4))))))))))))) : Y cL_law 4 RL (d + 1) (some L) 1166 [some (vr 2010 0), some (vr 11 0), some (vr 12 0), some (vi a3)] [] mem Q := by
  refine a_aload_n dL_law_1166 rfl rfl ?_
  refine a_aload_n dL_law_1167 rfl rfl ?_
  refine a_iload_n dL_law_1168 rfl rfl ?_
  refine a_iconst (k := 1) dL_law_1169 (n_lit (by decide)) ?_
  refine a_iadd dL_law_1170 ?_
  refine a_script rfl hL0 dL_law_1171 ⟨h.1, ?_⟩
  refine a_aload_n dL_law_1172 rfl rfl ?_
  refine a_iload_n dL_law_1173 rfl rfl ?_
  refine a_iconst (k := 2) dL_law_1174 (n_lit (by decide)) ?_
  refine a_iadd dL_law_1175 ?_
  refine a_script rfl hL0 dL_law_1176 ⟨h.2.1, ?_⟩
  refine a_aload_n dL_law_1177 rfl rfl ?_
  refine a_iload_n dL_law_1178 rfl rfl ?_
  refine a_iconst (k := 3) dL_law_1179 (n_lit (by decide)) ?_
  refine a_iadd dL_law_1180 ?_
  refine a_script rfl hL0 dL_law_1181 ⟨h.2.2.1, ?_⟩
  refine iv_L_146 dL_law_1182 (Nat.le_of_ble_eq_true rfl) (MtX_mono h.2.2.2 (fun r m1 hq => ?_))
  obtain ⟨x3, rfl, h2⟩ := hq
  refine ⟨x3, rfl, ?_⟩
  refine a_aload_n dL_law_1185 rfl rfl ?_
  refine a_aload_n dL_law_1186 rfl rfl ?_
  refine a_iload_n dL_law_1187 rfl rfl ?_
  refine a_iconst (k := 1) dL_law_1188 (n_lit (by decide)) ?_
  refine a_iadd dL_law_1189 ?_
  refine a_script rfl hL0 dL_law_1190 ⟨h2.1, ?_⟩
  refine a_aload_n dL_law_1191 rfl rfl ?_
  refine a_iload_n dL_law_1192 rfl rfl ?_
  refine a_iconst (k := 2) dL_law_1193 (n_lit (by decide)) ?_
  refine a_iadd dL_law_1194 ?_
  refine a_script rfl hL0 dL_law_1195 ⟨h2.2.1, ?_⟩
  refine a_aload_n dL_law_1196 rfl rfl ?_
  refine a_iload_n dL_law_1197 rfl rfl ?_
  refine a_iconst (k := 3) dL_law_1198 (n_lit (by decide)) ?_
  refine a_iadd dL_law_1199 ?_
  refine a_script rfl hL0 dL_law_1200 ⟨h2.2.2.1, ?_⟩
  refine iv_L_149 dL_law_1201 (Nat.le_of_ble_eq_true rfl) (MtX_mono h2.2.2.2 (fun r m4 hq => ?_))
  obtain ⟨x6, rfl, h5⟩ := hq
  refine ⟨x6, rfl, ?_⟩
  refine a_icmp_eq (tgt := 1435) dL_law_1204 (by decide) ⟨fun c7 => ?_, fun c7 => ?_⟩
  · exact (h5.1 c7)
  · refine a_iconst (k := 0) dL_law_1207 (n_lit (by decide)) ?_
    exact a_iret dL_law_1208 (h5.2 c7)
set_option maxRecDepth 10000 in
theorem sg_L_law_1209 {d : Nat}  (a3 : Int) (L : List Int) (hL0 : ∀ v ∈ L, ri v) (hn : L.length < 2000000) (mem : AMem) (Q : Option AV → AMem → Prop) (h : (0 ≤ (w32 (a3 + 1)) ∧ (w32 (a3 + 1)) < (L.length : Int)) ∧ ((0 ≤ (w32 (a3 + 2)) ∧ (w32 (a3 + 2)) < (L.length : Int)) ∧ ((0 ≤ (w32 (a3 + 3)) ∧ (w32 (a3 + 3)) < (L.length : Int)) ∧ ((0 ≤ (w32 (a3 + 4)) ∧ (w32 (a3 + 4)) < (L.length : Int)) ∧ (MtX yX11_put cX11_put 6 (some .int) d [vr 11 0, vi (List.getD L (Int.toNat (w32 (a3 + 1))) 0), vi (List.getD L (Int.toNat (w32 (a3 + 2))) 0), vl (or64 (shl64 (List.getD L (Int.toNat (w32 (a3 + 3))) 0) 32) (and64 (List.getD L (Int.toNat (w32 (a3 + 4))) 0) 4294967295))] mem (fun r m1 => ∃ x3 : Int, r = some (vi x3) ∧ ((0 ≤ (w32 (a3 + 1)) ∧ (w32 (a3 + 1)) < (L.length : Int)) ∧ ((0 ≤ (w32 (a3 + 2)) ∧ (w32 (a3 + 2)) < (L.length : Int)) ∧ ((0 ≤ (w32 (a3 + 3)) ∧ (w32 (a3 + 3)) < (L.length : Int)) ∧ ((0 ≤ (w32 (a3 + 4)) ∧ (w32 (a3 + 4)) < (L.length : Int)) ∧ (MtX yX12_put cX12_put 7 (some .int) d [vr 12 0, vi (List.getD L (Int.toNat (w32 (a3 + 1))) 0), vi (List.getD L (Int.toNat (w32 (a3 + 2))) 0), vl (or64 (shl64 (List.getD L (Int.toNat (w32 (a3 + 3))) 0) 32) (and64 (List.getD L (Int.toNat (w32 (a3 + 4))) 0) 4294967295))] m1 (fun r m4 => ∃ x6 : Int, r = some (vi x6) ∧ ((x3 = x6 → (Y cL_law 4 RL (d + 1) (some L) 1435 [some (vr 2010 0), some (vr 11 0), some (vr 12 0), some (vi a3)] [] m4 Q)) ∧ (¬ x3 = x6 → (Q (some (vi 0)) m4))))))))))))))) : Y cL_law 4 RL (d + 1) (some L) 1209 [some (vr 2010 0), some (vr 11 0), some (vr 12 0), some (vi a3)] [] mem Q := by
  refine a_aload_n dL_law_1209 rfl rfl ?_
  refine a_aload_n dL_law_1210 rfl rfl ?_
  refine a_iload_n dL_law_1211 rfl rfl ?_
  refine a_iconst (k := 1) dL_law_1212 (n_lit (by decide)) ?_
  refine a_iadd dL_law_1213 ?_
  refine a_script rfl hL0 dL_law_1214 ⟨h.1, ?_⟩
  refine a_aload_n dL_law_1215 rfl rfl ?_
  refine a_iload_n dL_law_1216 rfl rfl ?_
  refine a_iconst (k := 2) dL_law_1217 (n_lit (by decide)) ?_
  refine a_iadd dL_law_1218 ?_
  refine a_script rfl hL0 dL_law_1219 ⟨h.2.1, ?_⟩
  refine a_aload_n dL_law_1220 rfl rfl ?_
  refine a_iload_n dL_law_1221 rfl rfl ?_
  refine a_iconst (k := 3) dL_law_1222 (n_lit (by decide)) ?_
  refine a_iadd dL_law_1223 ?_
  refine a_script rfl hL0 dL_law_1224 ⟨h.2.2.1, ?_⟩
  refine a_i2l dL_law_1225 ?_
  refine a_bipush (k := 32) dL_law_1226 (by decide) (n_lit (by decide)) ?_
  refine a_lshl dL_law_1228 ?_
  refine a_aload_n dL_law_1229 rfl rfl ?_
  refine a_iload_n dL_law_1230 rfl rfl ?_
  refine a_iconst (k := 4) dL_law_1231 (n_lit (by decide)) ?_
  refine a_iadd dL_law_1232 ?_
  refine a_script rfl hL0 dL_law_1233 ⟨h.2.2.2.1, ?_⟩
  refine a_i2l dL_law_1234 ?_
  refine a_ldc2 (k := 4294967295) cl_L_150 (n_litL (by decide)) dL_law_1235 ?_
  refine a_land dL_law_1238 ?_
  refine a_lor dL_law_1239 ?_
  refine iv_L_152 dL_law_1240 (Nat.le_of_ble_eq_true rfl) (MtX_mono h.2.2.2.2 (fun r m1 hq => ?_))
  obtain ⟨x3, rfl, h2⟩ := hq
  refine ⟨x3, rfl, ?_⟩
  refine a_aload_n dL_law_1243 rfl rfl ?_
  refine a_aload_n dL_law_1244 rfl rfl ?_
  refine a_iload_n dL_law_1245 rfl rfl ?_
  refine a_iconst (k := 1) dL_law_1246 (n_lit (by decide)) ?_
  refine a_iadd dL_law_1247 ?_
  refine a_script rfl hL0 dL_law_1248 ⟨h2.1, ?_⟩
  refine a_aload_n dL_law_1249 rfl rfl ?_
  refine a_iload_n dL_law_1250 rfl rfl ?_
  refine a_iconst (k := 2) dL_law_1251 (n_lit (by decide)) ?_
  refine a_iadd dL_law_1252 ?_
  refine a_script rfl hL0 dL_law_1253 ⟨h2.2.1, ?_⟩
  refine a_aload_n dL_law_1254 rfl rfl ?_
  refine a_iload_n dL_law_1255 rfl rfl ?_
  refine a_iconst (k := 3) dL_law_1256 (n_lit (by decide)) ?_
  refine a_iadd dL_law_1257 ?_
  refine a_script rfl hL0 dL_law_1258 ⟨h2.2.2.1, ?_⟩
  refine a_i2l dL_law_1259 ?_
  refine a_bipush (k := 32) dL_law_1260 (by decide) (n_lit (by decide)) ?_
  refine a_lshl dL_law_1262 ?_
  refine a_aload_n dL_law_1263 rfl rfl ?_
  refine a_iload_n dL_law_1264 rfl rfl ?_
  refine a_iconst (k := 4) dL_law_1265 (n_lit (by decide)) ?_
  refine a_iadd dL_law_1266 ?_
  refine a_script rfl hL0 dL_law_1267 ⟨h2.2.2.2.1, ?_⟩
  refine a_i2l dL_law_1268 ?_
  refine a_ldc2 (k := 4294967295) cl_L_150 (n_litL (by decide)) dL_law_1269 ?_
  refine a_land dL_law_1272 ?_
  refine a_lor dL_law_1273 ?_
  refine iv_L_156 dL_law_1274 (Nat.le_of_ble_eq_true rfl) (MtX_mono h2.2.2.2.2 (fun r m4 hq => ?_))
  obtain ⟨x6, rfl, h5⟩ := hq
  refine ⟨x6, rfl, ?_⟩
  refine a_icmp_eq (tgt := 1435) dL_law_1277 (by decide) ⟨fun c7 => ?_, fun c7 => ?_⟩
  · exact (h5.1 c7)
  · refine a_iconst (k := 0) dL_law_1280 (n_lit (by decide)) ?_
    exact a_iret dL_law_1281 (h5.2 c7)
set_option maxRecDepth 10000 in
theorem sg_L_law_1282 {d : Nat}  (a3 : Int) (L : List Int) (hL0 : ∀ v ∈ L, ri v) (hn : L.length < 2000000) (mem : AMem) (Q : Option AV → AMem → Prop) (h : (0 ≤ (w32 (a3 + 1)) ∧ (w32 (a3 + 1)) < (L.length : Int)) ∧ ((0 ≤ (w32 (a3 + 2)) ∧ (w32 (a3 + 2)) < (L.length : Int)) ∧ (MtX yX11_element cX11_element 3 (some .long) d [vr 11 0, vi (List.getD L (Int.toNat (w32 (a3 + 1))) 0), vi (List.getD L (Int.toNat (w32 (a3 + 2))) 0)] mem (fun r m1 => ∃ x3 : Int, r = some (vl x3) ∧ ((0 ≤ (w32 (a3 + 1)) ∧ (w32 (a3 + 1)) < (L.length : Int)) ∧ ((0 ≤ (w32 (a3 + 2)) ∧ (w32 (a3 + 2)) < (L.length : Int)) ∧ (MtX yX12_element cX12_element 3 (some .long) d [vr 12 0, vi (List.getD L (Int.toNat (w32 (a3 + 1))) 0), vi (List.getD L (Int.toNat (w32 (a3 + 2))) 0)] m1 (fun r m4 => ∃ x6 : Int, r = some (vl x6) ∧ (((lc x3 x6) = (0 : Int) → (Y cL_law 4 RL (d + 1) (some L) 1435 [some (vr 2010 0), some (vr 11 0), some (vr 12 0), some (vi a3)] [] m4 Q)) ∧ (¬ (lc x3 x6) = (0 : Int) → (Q (some (vi 0)) m4))))))))))) : Y cL_law 4 RL (d + 1) (some L) 1282 [some (vr 2010 0), some (vr 11 0), some (vr 12 0), some (vi a3)] [] mem Q := by
  refine a_aload_n dL_law_1282 rfl rfl ?_
  refine a_aload_n dL_law_1283 rfl rfl ?_
  refine a_iload_n dL_law_1284 rfl rfl ?_
  refine a_iconst (k := 1) dL_law_1285 (n_lit (by decide)) ?_
  refine a_iadd dL_law_1286 ?_
  refine a_script rfl hL0 dL_law_1287 ⟨h.1, ?_⟩
  refine a_aload_n dL_law_1288 rfl rfl ?_
  refine a_iload_n dL_law_1289 rfl rfl ?_
  refine a_iconst (k := 2) dL_law_1290 (n_lit (by decide)) ?_
  refine a_iadd dL_law_1291 ?_
  refine a_script rfl hL0 dL_law_1292 ⟨h.2.1, ?_⟩
  refine iv_L_157 dL_law_1293 (Nat.le_of_ble_eq_true rfl) (MtX_mono h.2.2 (fun r m1 hq => ?_))
  obtain ⟨x3, rfl, h2⟩ := hq
  refine ⟨x3, rfl, ?_⟩
  refine a_aload_n dL_law_1296 rfl rfl ?_
  refine a_aload_n dL_law_1297 rfl rfl ?_
  refine a_iload_n dL_law_1298 rfl rfl ?_
  refine a_iconst (k := 1) dL_law_1299 (n_lit (by decide)) ?_
  refine a_iadd dL_law_1300 ?_
  refine a_script rfl hL0 dL_law_1301 ⟨h2.1, ?_⟩
  refine a_aload_n dL_law_1302 rfl rfl ?_
  refine a_iload_n dL_law_1303 rfl rfl ?_
  refine a_iconst (k := 2) dL_law_1304 (n_lit (by decide)) ?_
  refine a_iadd dL_law_1305 ?_
  refine a_script rfl hL0 dL_law_1306 ⟨h2.2.1, ?_⟩
  refine iv_L_161 dL_law_1307 (Nat.le_of_ble_eq_true rfl) (MtX_mono h2.2.2 (fun r m4 hq => ?_))
  obtain ⟨x6, rfl, h5⟩ := hq
  refine ⟨x6, rfl, ?_⟩
  refine a_lcmp dL_law_1310 ?_
  refine a_if_eq (tgt := 1435) dL_law_1311 (by decide) ⟨fun c7 => ?_, fun c7 => ?_⟩
  · exact (h5.1 c7)
  · refine a_iconst (k := 0) dL_law_1314 (n_lit (by decide)) ?_
    exact a_iret dL_law_1315 (h5.2 c7)
set_option maxRecDepth 10000 in
theorem sg_L_law_1316 {d : Nat}  (a3 : Int) (L : List Int) (hL0 : ∀ v ∈ L, ri v) (hn : L.length < 2000000) (mem : AMem) (Q : Option AV → AMem → Prop) (h : (0 ≤ (w32 (a3 + 1)) ∧ (w32 (a3 + 1)) < (L.length : Int)) ∧ ((0 ≤ (w32 (a3 + 2)) ∧ (w32 (a3 + 2)) < (L.length : Int)) ∧ ((0 ≤ (w32 (a3 + 3)) ∧ (w32 (a3 + 3)) < (L.length : Int)) ∧ ((0 ≤ (w32 (a3 + 4)) ∧ (w32 (a3 + 4)) < (L.length : Int)) ∧ ((0 ≤ (w32 (a3 + 5)) ∧ (w32 (a3 + 5)) < (L.length : Int)) ∧ (MtX yX11_shift cX11_shift 8 (some .int) d [vr 11 0, vi (List.getD L (Int.toNat (w32 (a3 + 1))) 0), vi (List.getD L (Int.toNat (w32 (a3 + 2))) 0), vi (List.getD L (Int.toNat (w32 (a3 + 3))) 0), vi (List.getD L (Int.toNat (w32 (a3 + 4))) 0), vi (List.getD L (Int.toNat (w32 (a3 + 5))) 0)] mem (fun r m1 => ∃ x3 : Int, r = some (vi x3) ∧ ((0 ≤ (w32 (a3 + 1)) ∧ (w32 (a3 + 1)) < (L.length : Int)) ∧ ((0 ≤ (w32 (a3 + 2)) ∧ (w32 (a3 + 2)) < (L.length : Int)) ∧ ((0 ≤ (w32 (a3 + 3)) ∧ (w32 (a3 + 3)) < (L.length : Int)) ∧ ((0 ≤ (w32 (a3 + 4)) ∧ (w32 (a3 + 4)) < (L.length : Int)) ∧ ((0 ≤ (w32 (a3 + 5)) ∧ (w32 (a3 + 5)) < (L.length : Int)) ∧ (MtX yX12_shift cX12_shift 7 (some .int) d [vr 12 0, vi (List.getD L (Int.toNat (w32 (a3 + 1))) 0), vi (List.getD L (Int.toNat (w32 (a3 + 2))) 0), vi (List.getD L (Int.toNat (w32 (a3 + 3))) 0), vi (List.getD L (Int.toNat (w32 (a3 + 4))) 0), vi (List.getD L (Int.toNat (w32 (a3 + 5))) 0)] m1 (fun r m4 => ∃ x6 : Int, r = some (vi x6) ∧ ((x3 = x6 → (Y cL_law 4 RL (d + 1) (some L) 1435 [some (vr 2010 0), some (vr 11 0), some (vr 12 0), some (vi a3)] [] m4 Q)) ∧ (¬ x3 = x6 → (Q (some (vi 0)) m4))))))))))))))))) : Y cL_law 4 RL (d + 1) (some L) 1316 [some (vr 2010 0), some (vr 11 0), some (vr 12 0), some (vi a3)] [] mem Q := by
  refine a_aload_n dL_law_1316 rfl rfl ?_
  refine a_aload_n dL_law_1317 rfl rfl ?_
  refine a_iload_n dL_law_1318 rfl rfl ?_
  refine a_iconst (k := 1) dL_law_1319 (n_lit (by decide)) ?_
  refine a_iadd dL_law_1320 ?_
  refine a_script rfl hL0 dL_law_1321 ⟨h.1, ?_⟩
  refine a_aload_n dL_law_1322 rfl rfl ?_
  refine a_iload_n dL_law_1323 rfl rfl ?_
  refine a_iconst (k := 2) dL_law_1324 (n_lit (by decide)) ?_
  refine a_iadd dL_law_1325 ?_
  refine a_script rfl hL0 dL_law_1326 ⟨h.2.1, ?_⟩
  refine a_aload_n dL_law_1327 rfl rfl ?_
  refine a_iload_n dL_law_1328 rfl rfl ?_
  refine a_iconst (k := 3) dL_law_1329 (n_lit (by decide)) ?_
  refine a_iadd dL_law_1330 ?_
  refine a_script rfl hL0 dL_law_1331 ⟨h.2.2.1, ?_⟩
  refine a_aload_n dL_law_1332 rfl rfl ?_
  refine a_iload_n dL_law_1333 rfl rfl ?_
  refine a_iconst (k := 4) dL_law_1334 (n_lit (by decide)) ?_
  refine a_iadd dL_law_1335 ?_
  refine a_script rfl hL0 dL_law_1336 ⟨h.2.2.2.1, ?_⟩
  refine a_aload_n dL_law_1337 rfl rfl ?_
  refine a_iload_n dL_law_1338 rfl rfl ?_
  refine a_iconst (k := 5) dL_law_1339 (n_lit (by decide)) ?_
  refine a_iadd dL_law_1340 ?_
  refine a_script rfl hL0 dL_law_1341 ⟨h.2.2.2.2.1, ?_⟩
  refine iv_L_162 dL_law_1342 (Nat.le_of_ble_eq_true rfl) (MtX_mono h.2.2.2.2.2 (fun r m1 hq => ?_))
  obtain ⟨x3, rfl, h2⟩ := hq
  refine ⟨x3, rfl, ?_⟩
  refine a_aload_n dL_law_1345 rfl rfl ?_
  refine a_aload_n dL_law_1346 rfl rfl ?_
  refine a_iload_n dL_law_1347 rfl rfl ?_
  refine a_iconst (k := 1) dL_law_1348 (n_lit (by decide)) ?_
  refine a_iadd dL_law_1349 ?_
  refine a_script rfl hL0 dL_law_1350 ⟨h2.1, ?_⟩
  refine a_aload_n dL_law_1351 rfl rfl ?_
  refine a_iload_n dL_law_1352 rfl rfl ?_
  refine a_iconst (k := 2) dL_law_1353 (n_lit (by decide)) ?_
  refine a_iadd dL_law_1354 ?_
  refine a_script rfl hL0 dL_law_1355 ⟨h2.2.1, ?_⟩
  refine a_aload_n dL_law_1356 rfl rfl ?_
  refine a_iload_n dL_law_1357 rfl rfl ?_
  refine a_iconst (k := 3) dL_law_1358 (n_lit (by decide)) ?_
  refine a_iadd dL_law_1359 ?_
  refine a_script rfl hL0 dL_law_1360 ⟨h2.2.2.1, ?_⟩
  refine a_aload_n dL_law_1361 rfl rfl ?_
  refine a_iload_n dL_law_1362 rfl rfl ?_
  refine a_iconst (k := 4) dL_law_1363 (n_lit (by decide)) ?_
  refine a_iadd dL_law_1364 ?_
  refine a_script rfl hL0 dL_law_1365 ⟨h2.2.2.2.1, ?_⟩
  refine a_aload_n dL_law_1366 rfl rfl ?_
  refine a_iload_n dL_law_1367 rfl rfl ?_
  refine a_iconst (k := 5) dL_law_1368 (n_lit (by decide)) ?_
  refine a_iadd dL_law_1369 ?_
  refine a_script rfl hL0 dL_law_1370 ⟨h2.2.2.2.2.1, ?_⟩
  refine iv_L_166 dL_law_1371 (Nat.le_of_ble_eq_true rfl) (MtX_mono h2.2.2.2.2.2 (fun r m4 hq => ?_))
  obtain ⟨x6, rfl, h5⟩ := hq
  refine ⟨x6, rfl, ?_⟩
  refine a_icmp_eq (tgt := 1435) dL_law_1374 (by decide) ⟨fun c7 => ?_, fun c7 => ?_⟩
  · exact (h5.1 c7)
  · refine a_iconst (k := 0) dL_law_1377 (n_lit (by decide)) ?_
    exact a_iret dL_law_1378 (h5.2 c7)
set_option maxRecDepth 10000 in
theorem sg_L_law_1379 {d : Nat}  (a3 : Int) (L : List Int) (hL0 : ∀ v ∈ L, ri v) (hn : L.length < 2000000) (mem : AMem) (Q : Option AV → AMem → Prop) (h : (0 ≤ (w32 (a3 + 1)) ∧ (w32 (a3 + 1)) < (L.length : Int)) ∧ ((0 ≤ (w32 (a3 + 2)) ∧ (w32 (a3 + 2)) < (L.length : Int)) ∧ (MtX yX11_taken cX11_taken 5 (some .int) d [vr 11 0, vi (List.getD L (Int.toNat (w32 (a3 + 1))) 0), vi (List.getD L (Int.toNat (w32 (a3 + 2))) 0)] mem (fun r m1 => ∃ x3 : Int, r = some (vi x3) ∧ ((0 ≤ (w32 (a3 + 1)) ∧ (w32 (a3 + 1)) < (L.length : Int)) ∧ ((0 ≤ (w32 (a3 + 2)) ∧ (w32 (a3 + 2)) < (L.length : Int)) ∧ (MtX yX12_taken cX12_taken 3 (some .int) d [vr 12 0, vi (List.getD L (Int.toNat (w32 (a3 + 1))) 0), vi (List.getD L (Int.toNat (w32 (a3 + 2))) 0)] m1 (fun r m4 => ∃ x6 : Int, r = some (vi x6) ∧ ((x3 = x6 → (Y cL_law 4 RL (d + 1) (some L) 1435 [some (vr 2010 0), some (vr 11 0), some (vr 12 0), some (vi a3)] [] m4 Q)) ∧ (¬ x3 = x6 → (Q (some (vi 0)) m4))))))))))) : Y cL_law 4 RL (d + 1) (some L) 1379 [some (vr 2010 0), some (vr 11 0), some (vr 12 0), some (vi a3)] [] mem Q := by
  refine a_aload_n dL_law_1379 rfl rfl ?_
  refine a_aload_n dL_law_1380 rfl rfl ?_
  refine a_iload_n dL_law_1381 rfl rfl ?_
  refine a_iconst (k := 1) dL_law_1382 (n_lit (by decide)) ?_
  refine a_iadd dL_law_1383 ?_
  refine a_script rfl hL0 dL_law_1384 ⟨h.1, ?_⟩
  refine a_aload_n dL_law_1385 rfl rfl ?_
  refine a_iload_n dL_law_1386 rfl rfl ?_
  refine a_iconst (k := 2) dL_law_1387 (n_lit (by decide)) ?_
  refine a_iadd dL_law_1388 ?_
  refine a_script rfl hL0 dL_law_1389 ⟨h.2.1, ?_⟩
  refine iv_L_167 dL_law_1390 (Nat.le_of_ble_eq_true rfl) (MtX_mono h.2.2 (fun r m1 hq => ?_))
  obtain ⟨x3, rfl, h2⟩ := hq
  refine ⟨x3, rfl, ?_⟩
  refine a_aload_n dL_law_1393 rfl rfl ?_
  refine a_aload_n dL_law_1394 rfl rfl ?_
  refine a_iload_n dL_law_1395 rfl rfl ?_
  refine a_iconst (k := 1) dL_law_1396 (n_lit (by decide)) ?_
  refine a_iadd dL_law_1397 ?_
  refine a_script rfl hL0 dL_law_1398 ⟨h2.1, ?_⟩
  refine a_aload_n dL_law_1399 rfl rfl ?_
  refine a_iload_n dL_law_1400 rfl rfl ?_
  refine a_iconst (k := 2) dL_law_1401 (n_lit (by decide)) ?_
  refine a_iadd dL_law_1402 ?_
  refine a_script rfl hL0 dL_law_1403 ⟨h2.2.1, ?_⟩
  refine iv_L_170 dL_law_1404 (Nat.le_of_ble_eq_true rfl) (MtX_mono h2.2.2 (fun r m4 hq => ?_))
  obtain ⟨x6, rfl, h5⟩ := hq
  refine ⟨x6, rfl, ?_⟩
  refine a_icmp_eq (tgt := 1435) dL_law_1407 (by decide) ⟨fun c7 => ?_, fun c7 => ?_⟩
  · exact (h5.1 c7)
  · refine a_iconst (k := 0) dL_law_1410 (n_lit (by decide)) ?_
    exact a_iret dL_law_1411 (h5.2 c7)
set_option maxRecDepth 10000 in
theorem sg_L_law_1412 {d : Nat}  (a3 : Int) (L : List Int) (hL0 : ∀ v ∈ L, ri v) (hn : L.length < 2000000) (mem : AMem) (Q : Option AV → AMem → Prop) (h : (0 ≤ (w32 (a3 + 1)) ∧ (w32 (a3 + 1)) < (L.length : Int)) ∧ (MtX yX11_count cX11_count 2 (some .int) d [vr 11 0, vi (List.getD L (Int.toNat (w32 (a3 + 1))) 0)] mem (fun r m1 => ∃ x3 : Int, r = some (vi x3) ∧ ((0 ≤ (w32 (a3 + 1)) ∧ (w32 (a3 + 1)) < (L.length : Int)) ∧ (MtX yX12_count cX12_count 4 (some .int) d [vr 12 0, vi (List.getD L (Int.toNat (w32 (a3 + 1))) 0)] m1 (fun r m4 => ∃ x6 : Int, r = some (vi x6) ∧ ((x3 = x6 → (Y cL_law 4 RL (d + 1) (some L) 1435 [some (vr 2010 0), some (vr 11 0), some (vr 12 0), some (vi a3)] [] m4 Q)) ∧ (¬ x3 = x6 → (Q (some (vi 0)) m4))))))))) : Y cL_law 4 RL (d + 1) (some L) 1412 [some (vr 2010 0), some (vr 11 0), some (vr 12 0), some (vi a3)] [] mem Q := by
  refine a_aload_n dL_law_1412 rfl rfl ?_
  refine a_aload_n dL_law_1413 rfl rfl ?_
  refine a_iload_n dL_law_1414 rfl rfl ?_
  refine a_iconst (k := 1) dL_law_1415 (n_lit (by decide)) ?_
  refine a_iadd dL_law_1416 ?_
  refine a_script rfl hL0 dL_law_1417 ⟨h.1, ?_⟩
  refine iv_L_171 dL_law_1418 (Nat.le_of_ble_eq_true rfl) (MtX_mono h.2 (fun r m1 hq => ?_))
  obtain ⟨x3, rfl, h2⟩ := hq
  refine ⟨x3, rfl, ?_⟩
  refine a_aload_n dL_law_1421 rfl rfl ?_
  refine a_aload_n dL_law_1422 rfl rfl ?_
  refine a_iload_n dL_law_1423 rfl rfl ?_
  refine a_iconst (k := 1) dL_law_1424 (n_lit (by decide)) ?_
  refine a_iadd dL_law_1425 ?_
  refine a_script rfl hL0 dL_law_1426 ⟨h2.1, ?_⟩
  refine iv_L_174 dL_law_1427 (Nat.le_of_ble_eq_true rfl) (MtX_mono h2.2 (fun r m4 hq => ?_))
  obtain ⟨x6, rfl, h5⟩ := hq
  refine ⟨x6, rfl, ?_⟩
  refine a_icmp_eq (tgt := 1435) dL_law_1430 (by decide) ⟨fun c7 => ?_, fun c7 => ?_⟩
  · exact (h5.1 c7)
  · refine a_iconst (k := 0) dL_law_1433 (n_lit (by decide)) ?_
    exact a_iret dL_law_1434 (h5.2 c7)
set_option maxRecDepth 10000 in
theorem sg_L_law_1435 {d : Nat}  (a3 : Int) (L : List Int) (hL0 : ∀ v ∈ L, ri v) (hn : L.length < 2000000) (mem : AMem) (Q : Option AV → AMem → Prop) (h : Y cL_law 4 RL (d + 1) (some L) 18 [some (vr 2010 0), some (vr 11 0), some (vr 12 0), some (vi (w32 (a3 + 6)))] [] mem Q) : Y cL_law 4 RL (d + 1) (some L) 1435 [some (vr 2010 0), some (vr 11 0), some (vr 12 0), some (vi a3)] [] mem Q := by
  refine a_iinc dL_law_1435 rfl (by decide) rfl ?_
  refine a_goto (tgt := 18) dL_law_1438 (by decide) ?_
  exact h

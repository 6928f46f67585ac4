/-! numbers in fives -/
def dg (n i : Nat) (j : Int) : Int := ((i / 5 ^ (n - 1 - j.toNat) % 5 : Nat) : Int)
theorem dg_pre {n l r i P : Nat} {j : Int} (hn : n = l + r) (hi : i / 5 ^ r = P) (h0 : 0 ≤ j) (h1 : j < l) : dg n i j = dg l P j := by
  unfold dg
  rw [show n - 1 - j.toNat = r + (l - 1 - j.toNat) by omega, Nat.pow_add, ← Nat.div_div_eq_div_mul, hi]
theorem dg_last {l P v : Nat} (hv : v < 5) : dg (l + 1) (5 * P + v) l = v := by
  unfold dg
  rw [show l + 1 - 1 - (l : Int).toNat = 0 by omega, Nat.pow_zero, Nat.div_one]
  omega
theorem dg_zero {n l r G : Nat} {j : Int} (hn : n = l + r) (h0 : l ≤ j) (h1 : j < n) : dg n (G * 5 ^ r) j = 0 := by
  unfold dg
  have e : r = (n - 1 - j.toNat) + ((r - 1 - (n - 1 - j.toNat)) + 1) := by omega
  have e2 : G * 5 ^ r / 5 ^ (n - 1 - j.toNat) = G * 5 ^ (r - 1 - (n - 1 - j.toNat)) * 5 := by
    generalize n - 1 - j.toNat = x at *
    generalize r - 1 - x = y at *
    subst e
    rw [Nat.pow_add, Nat.pow_succ, show G * (5 ^ x * (5 ^ y * 5)) = (G * 5 ^ y * 5) * 5 ^ x by rw [Nat.mul_comm (5 ^ x), ← Nat.mul_assoc, ← Nat.mul_assoc]]
    exact Nat.mul_div_cancel _ (Nat.pow_pos (by decide))
  rw [e2, Nat.mul_mod_left]
  rfl
theorem dg_rg {n i : Nat} {j : Int} : 0 ≤ dg n i j ∧ dg n i j ≤ 4 := by
  unfold dg
  have := Nat.mod_lt (i / 5 ^ (n - 1 - j.toNat)) (show 0 < 5 by decide)
  omega
theorem dv_iv {G i x : Nat} (hx : 0 < x) (h0 : G * x ≤ i) (h1 : i < G * x + x) : i / x = G := Nat.div_eq_of_lt_le h0 (by rw [Nat.succ_mul]; exact h1)
theorem tb_01 {s k : Int} (h1 : 0 ≤ s) (h2 : s < 128) (h3 : 0 ≤ k) (h4 : k < 7) : tbt s k = 0 ∨ tbt s k = 1 := b_all (P := fun s k => tbt s k = 0 ∨ tbt s k = 1) (by decide +kernel) h1 h2 h3 h4
theorem pop_le {s t : Int} (h1 : 0 ≤ s) (h2 : s < 128) (h3 : 0 ≤ t) (h4 : t < 128) (h : ∀ k : Int, 0 ≤ k → k < 7 → tbt s k = 1 → tbt t k = 1) : popB s ≤ popB t := by
  have q : ∀ k : Int, 0 ≤ k → k < 7 → tbt s k ≤ tbt t k := fun k k0 k1 => by
    have a1 := tb_01 h1 h2 k0 k1
    have a2 := tb_01 h3 h4 k0 k1
    have a3 := h k k0 k1
    omega
  have q0 := q 0 (by decide) (by decide)
  have q1 := q 1 (by decide) (by decide)
  have q2 := q 2 (by decide) (by decide)
  have q3 := q 3 (by decide) (by decide)
  have q4 := q 4 (by decide) (by decide)
  have q5 := q 5 (by decide) (by decide)
  have q6 := q 6 (by decide) (by decide)
  unfold popB
  omega
/-! what a state is worth -/
section
variable {p s : StR} {L : Option LnL}
def wV (who : Int) (p s : StR) : Int := if who = -1 then ptS s - thS p s else if s 26 = 1 ∧ tbt (s 24) who = 1 then 1 else 0
def eW (who : Int) (p : StR) : Int := if who = -1 then popB (p 11) else 1
theorem wV_E {who : Int} {t : StR} (h : sEq s t) : wV who p s = wV who p t := by
  rcases h with rfl | ⟨h1, h2⟩
  · rfl
  · unfold wV ptS thS
    by_cases c : who = -1
    · rw [if_pos c, if_pos c, if_neg h1, if_neg h1, if_neg h2, if_neg h2]
    · rw [if_neg c, if_neg c, if_neg (fun q => h1 q.1), if_neg (fun q => h2 q.1)]
def tIn (p s : StR) : Prop := ∀ k : Int, 0 ≤ k → k < 7 → tbt (s 24) k = 1 → tbt (p 11) k = 1
theorem toS_24 {s : StR} (hp : OkPa p) : ∀ (n : Nat), n ≤ 7 → (0 ≤ s 24 ∧ s 24 < 128) → tIn p s → tIn p (toS p s n) ∧ (0 ≤ toS p s n 24 ∧ toS p s n 24 < 128) := by
  intro n
  induction n with
  | zero => intro _ h1 h2; exact ⟨h2, h1⟩
  | succ n ih =>
    intro hn h1 h2
    obtain ⟨g1, g2⟩ := ih (by omega) h1 h2
    rw [toS_s]
    split
    · rename_i c
      refine ⟨fun k k0 k1 => ?_, ?_⟩
      · rw [upS_s, tb_or g2.1 g2.2 (by omega) (by omega) k0 k1]
        split
        · rename_i e
          intro _
          rw [e]
          exact c.1
        · exact g1 k k0 k1
      · rw [upS_s]
        exact or_rg g2.1 g2.2 (by omega) (by omega)
    · exact ⟨g1, g2⟩
theorem s2S_24 {v : Int} (hp : OkPa p) (h1 : 0 ≤ s 24 ∧ s 24 < 128) (h : tIn p s) : tIn p (s2S p s v) := by
  have e : ∀ t : StR, t 24 = s 24 → tIn p t := fun t ht k k0 k1 => by rw [ht]; exact h k k0 k1
  have e1 : upS (upS (s1S s v) 23 (max (s 23) (s1S s v 21))) 28 0 24 = s 24 := by
    rw [upS_n (by decide), upS_n (by decide)]
    unfold s1S
    rw [upS_n (by decide), upS_n (by decide), mvR_k (by decide) (by decide)]
  unfold s2S
  dsimp only
  split
  · exact (toS_24 hp _ (N_le hp).1 (by rw [e1]; exact h1) (e _ e1)).1
  · exact e _ e1
theorem sec_tIn {v : Int} (hp : OkPa p) (hs : OkSt p s) (h : tIn p s) : tIn p (secS p L s v) := by
  have g := s2S_24 (v := v) hp hs.2.2.2.1 h
  have e3 : s3S p L s v 24 = s2S p s v 24 := s3S_k hp (by decide) (by decide) (by decide)
  have e1 : s1S s v 24 = s 24 := by
    unfold s1S
    rw [upS_n (by decide), upS_n (by decide), mvR_k (by decide) (by decide)]
  intro k k0 k1
  unfold secS
  split
  · rw [upS_n (by decide), e1]; exact h k k0 k1
  · split
    · rw [upS_n (by decide), e3]; exact g k k0 k1
    · rw [upS_n (by decide), upS_n (by decide), e3]; exact g k k0 k1
theorem run_tIn {mv : Int → Int} (hp : OkPa p) : ∀ (k : Nat) {s : StR}, OkSt p s → 0 ≤ s 22 → s 22 ≤ 1000 - k → tIn p s → tIn p (runF p L mv k s) := by
  intro k
  induction k with
  | zero => intro s _ _ _ h; exact h
  | succ k ih =>
    intro s hs h0 h1 h
    rw [runF_s]
    split
    · have h22 := secS_22 (s := s) (L := L) (v := mv (s 22)) hp
      exact ih (okS_sec hp hs) (by omega) (by omega) (sec_tIn hp hs h)
    · exact h
theorem ini_tIn : tIn p (iniS p) := fun k k0 k1 h => by
  rw [show iniS p 24 = 0 from ini_o (by decide)] at h
  have := b_a7 (P := fun k => tbt 0 k = 0) (by decide +kernel) k0 k1
  omega
theorem gm_top {who n : Int} {mv : Int → Int} (hp : OkPa p) (hi : OkIn p) : wV who p (gmS p L n mv) ≤ eW who p := by
  have h14 := hi.2.2.1
  have ok := runF_ok (L := L) (mv := mvQ n mv) hp (p 14).toNat (iniS p) (okS_ini hp hi) (by rw [ini_22]; decide) (by rw [ini_22]; omega)
  have ti := run_tIn (L := L) (mv := mvQ n mv) hp (p 14).toNat (okS_ini hp hi) (by rw [ini_22]; decide) (by rw [ini_22]; omega) ini_tIn
  have e24 : gmS p L n mv 24 = runF p L (mvQ n mv) (p 14).toNat (iniS p) 24 := losS_k (by decide)
  have hb := ok.1.2.2.2.1
  have hpop := pop_le hb.1 hb.2 hp.2.2.1 hp.2.2.2 ti
  have p0 := (pop_rg hp.2.2.1 hp.2.2.2).1
  unfold wV eW ptS thS pcS
  rw [e24]
  (repeat' split) <;> omega
theorem gm_low {n : Int} {mv : Int → Int} (hp : OkPa p) (hi : OkIn p) : -1000 < wV (-1) p (gmS p L n mv) := by
  have h14 := hi.2.2.1
  have ok := runF_ok (L := L) (mv := mvQ n mv) hp (p 14).toNat (iniS p) (okS_ini hp hi) (by rw [ini_22]; decide) (by rw [ini_22]; omega)
  have e24 : gmS p L n mv 24 = runF p L (mvQ n mv) (p 14).toNat (iniS p) 24 := losS_k (by decide)
  have hb := ok.1.2.2.2.1
  have p1 := (pop_rg hb.1 hb.2).1
  unfold wV ptS thS pcS
  rw [e24, if_pos rfl]
  (repeat' split) <;> omega
/-- he has gone the first l of the moves that P tells -/
def pfS (p : StR) (L : Option LnL) (l P : Nat) : StR := runF p L (dg l P) l (iniS p)
theorem pfS_0 : pfS p L 0 0 = iniS p := rfl
theorem pfS_s {l P v : Nat} (hp : OkPa p) (hv : v < 5) (h : pfS p L l P 26 = 0) : pfS p L (l + 1) (5 * P + v) = secS p L (pfS p L l P) v := by
  have e1 : runF p L (dg (l + 1) (5 * P + v)) l (iniS p) = pfS p L l P := runF_cg2 hp l fun j j0 j1 => by
    rw [ini_22] at j0 j1
    exact dg_pre (r := 1) rfl (by omega) j0 (by omega)
  have h22 : pfS p L l P 22 = l := by
    have := runF_22 hp l h
    rw [ini_22] at this
    unfold pfS
    omega
  show runF p L (dg (l + 1) (5 * P + v)) (l + 1) (iniS p) = _
  rw [runF_add, e1, runF_s, if_pos h, h22, dg_last hv]
  rfl
theorem pfS_ok {l P : Nat} (hp : OkPa p) (hi : OkIn p) (hl : l ≤ 5) : OkSt p (pfS p L l P) ∧ 0 ≤ pfS p L l P 22 ∧ pfS p L l P 22 ≤ l := by
  have ok := runF_ok (L := L) (mv := dg l P) hp l (iniS p) (okS_ini hp hi) (by rw [ini_22]; decide) (by rw [ini_22]; omega)
  rw [ini_22] at ok
  exact ⟨ok.1, ok.2.1, by unfold pfS; omega⟩
/-- all numbers that begin so come to the same -/
theorem leaf_W {who : Int} {n l r P i : Nat} (hp : OkPa p) (hi : OkIn p) (hn : n = l + r) (hl : (l : Int) ≤ p 14) (h : ¬ pfS p L l P 26 = 0 ∨ (l : Int) = p 14 ∨ l = n) (hI : i / 5 ^ r = P) : wV who p (gmS p L n (dg n i)) = wV who p (cbS p L (pfS p L l P)) := by
  have e : runF p L (dg n i) l (iniS p) = pfS p L l P := runF_cg2 hp l fun j j0 j1 => by
    rw [ini_22] at j0 j1
    exact dg_pre hn hI j0 (by omega)
  have := leaf_E (L := L) (mv := dg n i) (n := n) (k := l) hp hi (by omega) hl (by rw [e]; omega)
  rw [e] at this
  exact wV_E this
end

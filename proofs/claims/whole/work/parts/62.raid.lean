/-! a raid, told once: the state s (0.. columns, 10.. rows, 20 his column, 21 his row, 22 seconds, 23 deepest, 24 touched, 25 who holds, 26 end, 27 strongest hold, 28 hold), what stays p (0.. strong, 10 how many, 11 who is in, 12 reach, 13 might, 14 breath, 15 baulk) -/
abbrev StR : Type := Int → Int
def upS (s : StR) (i v : Int) : StR := fun k => if k = i then v else s k
theorem upS_s {s : StR} {i v : Int} : upS s i v i = v := by simp [upS]
theorem upS_n {s : StR} {i v k : Int} (h : k ≠ i) : upS s i v k = s k := by simp [upS, h]
def abv (x : Int) : Int := if 0 ≤ x then x else -x
def farS (s : StR) (i : Int) : Int := abv (s i - s 20) + abv (s (10 + i) - s 21)
def nrS (p s : StR) (i : Int) : Nat → Int
  | 0 => 0
  | k + 1 => nrS p s i k + if tbt (p 11) k = 1 ∧ abv (s k - s i) + abv (s (10 + k) - s (10 + i)) = 1 then 1 else 0
def faS (p s : StR) (i b : Int) : Int → Int := fun k => if k = 0 then farS s i else if k = 1 then s 21 else if k = 2 then b else if k = 3 then p i else if k = 4 then popB (p 11) else nrS p s i (p 10).toNat
def lwF (L : Option LnL) (fa : Int → Int) : Int := match L with
  | none => if fa 1 < 4 then (if fa 0 ≤ 2 then 2 else 0) else (if fa 0 ≤ 1 then 3 else 1)
  | some ls => abv (Int.tmod (valL fa ls) 4)
def n5L (ls : LnL) : Prop := ∀ q ∈ ls, (∀ o ∈ q.1, o.1 = 1 → o.2 ≠ 5) ∧ ∀ o ∈ q.2, o.1 = 1 → o.2 ≠ 5
theorem runO_cg {fa fb : Int → Int} : ∀ {os : OpL} {st : List Int}, (∀ o ∈ os, o.1 = 1 → fa o.2 = fb o.2) → runO fa os st = runO fb os st := by
  intro os
  induction os with
  | nil => intro st _; rfl
  | cons o os ih =>
    intro st h
    have e : stO fa o st = stO fb o st := by
      unfold stO
      by_cases h1 : o.1 = 1
      · rw [h o List.mem_cons_self h1]
      · simp [h1]
    show runO fa os (stO fa o st) = runO fb os (stO fb o st)
    rw [e]
    exact ih fun o2 h2 => h o2 (List.mem_cons_of_mem _ h2)
theorem valL_n5 {fa fb : Int → Int} (hf : ∀ k, k ≠ 5 → fa k = fb k) : ∀ {ls : LnL}, n5L ls → valL fa ls = valL fb ls := by
  intro ls
  induction ls with
  | nil => intro _; rfl
  | cons q r ih =>
    intro h
    obtain ⟨t, b⟩ := q
    obtain ⟨h1, h2⟩ := h (t, b) List.mem_cons_self
    have e1 : runO fa t [] = runO fb t [] := runO_cg fun o ho h1' => hf _ (h1 o ho h1')
    have e2 : runO fa b [] = runO fb b [] := runO_cg fun o ho h1' => hf _ (h2 o ho h1')
    unfold valL
    rw [e1, e2, ih fun q hq => h q (List.mem_cons_of_mem _ hq)]
def LawC (m : AMem) (L : Option LnL) : Prop := (m 2 0 7 = 0 ∨ m 2 0 7 = 1) ∧ match L with
  | none => m 3 (m 2 0 7).toNat 3 = 0
  | some ls => m 3 (m 2 0 7).toNat 3 ≠ 0 ∧ m 3 (m 2 0 7).toNat 3 ≤ 128 ∧ enL (m 400 (m 2 0 7).toNat) (m 401 (m 2 0 7).toNat) 0 ls (m 3 (m 2 0 7).toNat 3) ∧ okL ls ∧ (m 3 (m 2 0 7).toNat 4 = 0 → n5L ls)
def LawM (m : AMem) (L : Option LnL) : Prop := match L with
  | none => m 12 0 26 = 0
  | some ls => m 12 0 26 ≠ 0 ∧ lenL ls ≤ 128 ∧ m 1321 0 0 ≤ 61 ∧ enN m 0 0 ls ∧ okL ls
def ncC (s : StR) (i : Int) : Int := if s i ≠ s 20 then (if s i < s 20 then s i + 1 else s i - 1) else s i
def ncR (s : StR) (i : Int) : Int := if s i ≠ s 20 then s (10 + i) else if s (10 + i) ≠ s 21 then (if s (10 + i) < s 21 then s (10 + i) + 1 else s (10 + i) - 1) else s (10 + i)
def cnS (s : StR) (i : Int) : StR := if 1 ≤ ncR s i ∧ ¬ (ncC s i = s 20 ∧ ncR s i = s 21) then upS (upS s i (ncC s i)) (10 + i) (ncR s i) else s
def acS (p : StR) (L : Option LnL) (b : Int) (s : StR) (i : Int) : StR :=
  if tbt (p 11) i = 1 then
    (if lwF L (faS p s i b) = 1 then cnS s i
     else if lwF L (faS p s i b) = 2 then upS s (10 + i) (min 8 (s (10 + i) + 1))
     else if lwF L (faS p s i b) = 3 ∧ 1 ≤ s 21 ∧ farS s i ≤ 1 then upS (upS s 25 (or_32 (s 25) (shl32 1 i))) 28 (s 28 + p i)
     else s)
  else s
def alS (p : StR) (L : Option LnL) (b : Int) (s : StR) : Nat → StR
  | 0 => s
  | k + 1 => acS p L b (alS p L b s k) k
def toS (p s : StR) : Nat → StR
  | 0 => s
  | k + 1 => if tbt (p 11) k = 1 ∧ farS (toS p s k) k ≤ p 12 then upS (toS p s k) 24 (or_32 (toS p s k 24) (shl32 1 k)) else toS p s k
theorem toS_s {p s : StR} {k : Nat} : toS p s (k + 1) = if tbt (p 11) k = 1 ∧ farS (toS p s k) k ≤ p 12 then upS (toS p s k) 24 (or_32 (toS p s k 24) (shl32 1 k)) else toS p s k := rfl
theorem nrS_s {p s : StR} {i : Int} {k : Nat} : nrS p s i (k + 1) = nrS p s i k + if tbt (p 11) k = 1 ∧ abv (s k - s i) + abv (s (10 + k) - s (10 + i)) = 1 then 1 else 0 := rfl
def mvR (s : StR) (v : Int) : StR :=
  if v = 1 then (if s 21 < 8 then upS s 21 (s 21 + 1) else s)
  else if v = 2 then (if 0 < s 21 then upS s 21 (s 21 - 1) else s)
  else if v = 3 then (if 0 < s 20 then upS s 20 (s 20 - 1) else s)
  else if v = 4 then (if s 20 < 8 then upS s 20 (s 20 + 1) else s)
  else s
/-- he has moved -/
def s1S (s : StR) (v : Int) : StR := upS (upS (mvR s v) 22 (s 22 + 1)) 25 0
/-- behind the touches -/
def s2S (p s : StR) (v : Int) : StR :=
  let t := upS (upS (s1S s v) 23 (max (s 23) (s1S s v 21))) 28 0
  if 1 ≤ s1S s v 21 then toS p t (p 10).toNat else t
/-- behind the acts -/
def s3S (p : StR) (L : Option LnL) (s : StR) (v : Int) : StR := alS p L (s 22) (s2S p s v) (p 10).toNat
def secS (p : StR) (L : Option LnL) (s : StR) (v : Int) : StR :=
  if s1S s v 21 = 0 ∧ 0 < s 21 then upS (s1S s v) 26 1
  else if s3S p L s v 28 ≤ p 13 then upS (s3S p L s v) 27 (max (s3S p L s v 27) (s3S p L s v 28))
  else upS (upS (s3S p L s v) 27 (max (s3S p L s v 27) (s3S p L s v 28))) 26 2
def OkSt (p s : StR) : Prop := (∀ i : Int, 0 ≤ i → i < p 10 → (0 ≤ s i ∧ s i ≤ 8) ∧ 1 ≤ s (10 + i) ∧ s (10 + i) ≤ 8) ∧ (0 ≤ s 20 ∧ s 20 ≤ 8) ∧ (0 ≤ s 21 ∧ s 21 ≤ 8) ∧ (0 ≤ s 24 ∧ s 24 < 128) ∧ (0 ≤ s 25 ∧ s 25 < 128)
def OkPa (p : StR) : Prop := (0 ≤ p 10 ∧ p 10 ≤ 7) ∧ (∀ i : Int, 0 ≤ i → i < p 10 → 0 ≤ p i ∧ p i ≤ 9) ∧ (0 ≤ p 11 ∧ p 11 < 128)
/-! what stays -/
theorem cnS_k {s : StR} {i k : Int} (h1 : k ≠ i) (h2 : k ≠ 10 + i) : cnS s i k = s k := by
  unfold cnS
  (try dsimp only)
  split
  · rw [upS_n h2, upS_n h1]
  · rfl
theorem acS_k {p s : StR} {L : Option LnL} {b i k : Int} (h0 : 0 ≤ i) (h1 : i < 7) (h : 20 ≤ k) (h2 : k ≠ 25) (h3 : k ≠ 28) : acS p L b s i k = s k := by
  unfold acS
  split
  · split
    · exact cnS_k (by omega) (by omega)
    · split
      · exact upS_n (by omega)
      · split
        · rw [upS_n h3, upS_n h2]
        · rfl
  · rfl
theorem alS_k {p s : StR} {L : Option LnL} {b k : Int} (h : 20 ≤ k) (h2 : k ≠ 25) (h3 : k ≠ 28) : ∀ {n : Nat}, n ≤ 7 → alS p L b s n k = s k := by
  intro n
  induction n with
  | zero => intro _; rfl
  | succ n ih =>
    intro hn
    show acS p L b (alS p L b s n) n k = s k
    rw [acS_k (by omega) (by omega) h h2 h3]
    exact ih (by omega)
theorem toS_k {p s : StR} {k : Int} (h : k ≠ 24) : ∀ {n : Nat}, toS p s n k = s k := by
  intro n
  induction n with
  | zero => rfl
  | succ n ih =>
    rw [toS_s]
    split
    · rw [upS_n h]; exact ih
    · exact ih
theorem mvR_k {s : StR} {v k : Int} (h : k ≠ 20) (h2 : k ≠ 21) : mvR s v k = s k := by
  unfold mvR
  (repeat' split) <;> first | rfl | exact upS_n (by omega)
theorem mvR_rg {s : StR} {v : Int} (h1 : 0 ≤ s 20 ∧ s 20 ≤ 8) (h2 : 0 ≤ s 21 ∧ s 21 ≤ 8) : (0 ≤ mvR s v 20 ∧ mvR s v 20 ≤ 8) ∧ (0 ≤ mvR s v 21 ∧ mvR s v 21 ≤ 8) := by
  unfold mvR
  (repeat' split) <;> first | omega | (simp only [upS, Int.reduceEq, if_true, if_false, ↓reduceIte]; omega)
theorem s1S_k {s : StR} {v k : Int} (h : k ≠ 22) (h2 : k ≠ 25) : s1S s v k = mvR s v k := by
  unfold s1S
  rw [upS_n h2, upS_n h]
theorem s1S_22 {s : StR} {v : Int} : s1S s v 22 = s 22 + 1 := by
  unfold s1S
  rw [upS_n (by decide), upS_s]
theorem s2S_k {p s : StR} {v k : Int} (h : k ≠ 23) (h2 : k ≠ 28) (h3 : k ≠ 24) : s2S p s v k = s1S s v k := by
  unfold s2S
  (try dsimp only)
  split
  · rw [toS_k h3, upS_n h2, upS_n h]
  · rw [upS_n h2, upS_n h]
theorem s2S_28 {p s : StR} {v : Int} : s2S p s v 28 = 0 := by
  unfold s2S
  (try dsimp only)
  split
  · rw [toS_k (by decide), upS_s]
  · rw [upS_s]
theorem s2S_25 {p s : StR} {v : Int} : s2S p s v 25 = 0 := by
  rw [s2S_k (by decide) (by decide) (by decide)]
  unfold s1S
  rw [upS_s]
theorem N_le {p : StR} (h : OkPa p) : (p 10).toNat ≤ 7 ∧ (((p 10).toNat : Nat) : Int) = p 10 := by
  have := h.1
  omega
theorem s3S_k {p s : StR} {L : Option LnL} {v k : Int} (hp : OkPa p) (h : 20 ≤ k) (h2 : k ≠ 25) (h3 : k ≠ 28) : s3S p L s v k = s2S p s v k := alS_k h h2 h3 (N_le hp).1
theorem secS_22 {p s : StR} {L : Option LnL} {v : Int} (hp : OkPa p) : secS p L s v 22 = s 22 + 1 := by
  have e : s3S p L s v 22 = s 22 + 1 := by
    rw [s3S_k hp (by decide) (by decide) (by decide), s2S_k (by decide) (by decide) (by decide), s1S_22]
  unfold secS
  split
  · rw [upS_n (by decide), s1S_22]
  · split
    · rw [upS_n (by decide), e]
    · rw [upS_n (by decide), upS_n (by decide), e]
theorem s3S_26 {p s : StR} {L : Option LnL} {v : Int} (hp : OkPa p) : s3S p L s v 26 = s 26 := by
  rw [s3S_k hp (by decide) (by decide) (by decide), s2S_k (by decide) (by decide) (by decide), s1S_k (by decide) (by decide), mvR_k (by decide) (by decide)]
/-! in range -/
theorem okS_cn {p s : StR} (hs : OkSt p s) {i : Int} (h0 : 0 ≤ i) (hn : p 10 ≤ 7) (h1 : i < p 10) : OkSt p (cnS s i) := by
  obtain ⟨a1, a2, a3, a4, a5⟩ := hs
  have hi := a1 i h0 h1
  refine ⟨fun k g0 g1 => ?_, ?_, ?_, ?_, ?_⟩
  · have hk := a1 k g0 g1
    unfold cnS
    (try dsimp only)
    split
    · rename_i hr
      by_cases e : k = i
      · subst e
        rw [upS_n (by omega), upS_s, upS_s]
        obtain ⟨hr1, -⟩ := hr
        have g1 : 0 ≤ ncC s k ∧ ncC s k ≤ 8 := by
          unfold ncC
          (repeat' split) <;> omega
        have g2 : ncR s k ≤ 8 := by
          unfold ncR
          (repeat' split) <;> omega
        exact ⟨g1, hr1, g2⟩
      · rw [upS_n (by omega), upS_n e, upS_n (by omega), upS_n (by omega)]
        exact hk
    · exact hk
  · rw [cnS_k (by omega) (by omega)]; exact a2
  · rw [cnS_k (by omega) (by omega)]; exact a3
  · rw [cnS_k (by omega) (by omega)]; exact a4
  · rw [cnS_k (by omega) (by omega)]; exact a5
theorem okS_ac {p s : StR} {L : Option LnL} {b : Int} (hp : OkPa p) (hs : OkSt p s) {i : Int} (h0 : 0 ≤ i) (h1 : i < p 10) : OkSt p (acS p L b s i) := by
  have hn := hp.1.2
  unfold acS
  split
  · split
    · exact okS_cn hs h0 hn h1
    · split
      · obtain ⟨a1, a2, a3, a4, a5⟩ := hs
        have hi := a1 i h0 h1
        refine ⟨fun k g0 g1 => ?_, ?_, ?_, ?_, ?_⟩
        · have hk := a1 k g0 g1
          rw [upS_n (by omega)]
          by_cases e : k = i
          · subst e
            rw [upS_s]
            omega
          · rw [upS_n (by omega)]; exact hk
        · rw [upS_n (by omega)]; exact a2
        · rw [upS_n (by omega)]; exact a3
        · rw [upS_n (by omega)]; exact a4
        · rw [upS_n (by omega)]; exact a5
      · split
        · obtain ⟨a1, a2, a3, a4, a5⟩ := hs
          refine ⟨fun k g0 g1 => ?_, ?_, ?_, ?_, ?_⟩
          · rw [upS_n (by omega), upS_n (by omega), upS_n (by omega), upS_n (by omega)]; exact a1 k g0 g1
          · rw [upS_n (by omega), upS_n (by omega)]; exact a2
          · rw [upS_n (by omega), upS_n (by omega)]; exact a3
          · rw [upS_n (by omega), upS_n (by omega)]; exact a4
          · rw [upS_n (by omega), upS_s]; exact or_rg a5.1 a5.2 h0 (by omega)
        · exact hs
  · exact hs
theorem okS_al {p s : StR} {L : Option LnL} {b : Int} (hp : OkPa p) (hs : OkSt p s) : ∀ {n : Nat}, (n : Int) ≤ p 10 → OkSt p (alS p L b s n) := by
  intro n
  induction n with
  | zero => intro _; exact hs
  | succ n ih => intro hn; exact okS_ac hp (ih (by omega)) (by omega) (by omega)
theorem okS_to {p s : StR} (hp : OkPa p) (hs : OkSt p s) : ∀ {n : Nat}, (n : Int) ≤ p 10 → OkSt p (toS p s n) := by
  have hp1 := hp.1
  intro n
  induction n with
  | zero => intro _; exact hs
  | succ n ih =>
    intro hn
    have := ih (by omega)
    rw [toS_s]
    split
    · obtain ⟨a1, a2, a3, a4, a5⟩ := this
      refine ⟨fun k g0 g1 => ?_, ?_, ?_, ?_, ?_⟩
      · rw [upS_n (by omega), upS_n (by omega)]; exact a1 k g0 g1
      · rw [upS_n (by omega)]; exact a2
      · rw [upS_n (by omega)]; exact a3
      · rw [upS_s]; exact or_rg a4.1 a4.2 (by omega) (by omega)
      · rw [upS_n (by omega)]; exact a5
    · exact this
theorem okS_of {p s t : StR} (hn : p 10 ≤ 7) (hs : OkSt p s) (h : ∀ k : Int, k < 20 → t k = s k) (h20 : 0 ≤ t 20 ∧ t 20 ≤ 8) (h21 : 0 ≤ t 21 ∧ t 21 ≤ 8) (h24 : 0 ≤ t 24 ∧ t 24 < 128) (h25 : 0 ≤ t 25 ∧ t 25 < 128) : OkSt p t := by
  refine ⟨fun k g0 g1 => ?_, h20, h21, h24, h25⟩
  rw [h k (by omega), h (10 + k) (by omega)]
  exact hs.1 k g0 g1
theorem okS_1 {p s : StR} (hp : OkPa p) (hs : OkSt p s) {v : Int} : OkSt p (s1S s v) := by
  have := mvR_rg (v := v) hs.2.1 hs.2.2.1
  refine okS_of hp.1.2 hs (fun k hk => ?_) ?_ ?_ ?_ ?_
  · rw [s1S_k (by omega) (by omega), mvR_k (by omega) (by omega)]
  · rw [s1S_k (by decide) (by decide)]; exact this.1
  · rw [s1S_k (by decide) (by decide)]; exact this.2
  · rw [s1S_k (by decide) (by decide), mvR_k (by decide) (by decide)]; exact hs.2.2.2.1
  · unfold s1S; rw [upS_s]; decide
theorem okS_t {p s : StR} (hp : OkPa p) (hs : OkSt p s) {v w : Int} : OkSt p (upS (upS (s1S s v) 23 w) 28 0) := by
  have h := okS_1 hp hs (v := v)
  refine okS_of hp.1.2 h (fun k hk => ?_) ?_ ?_ ?_ ?_
  · rw [upS_n (by omega), upS_n (by omega)]
  · rw [upS_n (by decide), upS_n (by decide)]; exact h.2.1
  · rw [upS_n (by decide), upS_n (by decide)]; exact h.2.2.1
  · rw [upS_n (by decide), upS_n (by decide)]; exact h.2.2.2.1
  · rw [upS_n (by decide), upS_n (by decide)]; exact h.2.2.2.2
theorem okS_2 {p s : StR} (hp : OkPa p) (hs : OkSt p s) {v : Int} : OkSt p (s2S p s v) := by
  have := N_le hp
  unfold s2S
  (try dsimp only)
  split
  · exact okS_to hp (okS_t hp hs) (by omega)
  · exact okS_t hp hs
theorem okS_3 {p s : StR} {L : Option LnL} (hp : OkPa p) (hs : OkSt p s) {v : Int} : OkSt p (s3S p L s v) := okS_al hp (okS_2 hp hs) (by have := N_le hp; omega)
theorem okS_sec {p s : StR} {L : Option LnL} (hp : OkPa p) (hs : OkSt p s) {v : Int} : OkSt p (secS p L s v) := by
  have h3 := okS_3 (L := L) hp hs (v := v)
  unfold secS
  split
  · have h := okS_1 hp hs (v := v)
    refine okS_of hp.1.2 h (fun k hk => upS_n (by omega)) ?_ ?_ ?_ ?_
    · rw [upS_n (by decide)]; exact h.2.1
    · rw [upS_n (by decide)]; exact h.2.2.1
    · rw [upS_n (by decide)]; exact h.2.2.2.1
    · rw [upS_n (by decide)]; exact h.2.2.2.2
  · split
    · refine okS_of hp.1.2 h3 (fun k hk => upS_n (by omega)) ?_ ?_ ?_ ?_
      · rw [upS_n (by decide)]; exact h3.2.1
      · rw [upS_n (by decide)]; exact h3.2.2.1
      · rw [upS_n (by decide)]; exact h3.2.2.2.1
      · rw [upS_n (by decide)]; exact h3.2.2.2.2
    · refine okS_of hp.1.2 h3 (fun k hk => by rw [upS_n (by omega), upS_n (by omega)]) ?_ ?_ ?_ ?_
      · rw [upS_n (by decide), upS_n (by decide)]; exact h3.2.1
      · rw [upS_n (by decide), upS_n (by decide)]; exact h3.2.2.1
      · rw [upS_n (by decide), upS_n (by decide)]; exact h3.2.2.2.1
      · rw [upS_n (by decide), upS_n (by decide)]; exact h3.2.2.2.2
theorem acS_28 {p s : StR} {L : Option LnL} {b : Int} (hp : OkPa p) {i : Int} (h0 : 0 ≤ i) (h1 : i < p 10) : s 28 ≤ acS p L b s i 28 ∧ acS p L b s i 28 ≤ s 28 + 9 := by
  have hi := hp.2.1 i h0 h1
  have hn := hp.1.2
  unfold acS
  split
  · split
    · rw [cnS_k (by omega) (by omega)]; omega
    · split
      · rw [upS_n (by omega)]; omega
      · split
        · rw [upS_s]; omega
        · omega
  · omega
theorem alS_28 {p s : StR} {L : Option LnL} {b : Int} (hp : OkPa p) (h : s 28 = 0) : ∀ {n : Nat}, (n : Int) ≤ p 10 → 0 ≤ alS p L b s n 28 ∧ alS p L b s n 28 ≤ 9 * n := by
  intro n
  induction n with
  | zero => intro _; show 0 ≤ s 28 ∧ s 28 ≤ 9 * ((0 : Nat) : Int); omega
  | succ n ih =>
    intro hn
    have h1 := ih (by omega)
    have h2 := acS_28 (s := alS p L b s n) (L := L) (b := b) hp (i := n) (by omega) (by omega)
    show 0 ≤ acS p L b (alS p L b s n) n 28 ∧ acS p L b (alS p L b s n) n 28 ≤ 9 * ((n + 1 : Nat) : Int)
    omega
/-- the strong of those told by bits -/
def hsF (p : StR) (hb : Int) : Nat → Int
  | 0 => 0
  | k + 1 => hsF p hb k + if tbt hb k = 1 then p k else 0
theorem hsF_s {p : StR} {hb : Int} {k : Nat} : hsF p hb (k + 1) = hsF p hb k + if tbt hb k = 1 then p k else 0 := rfl
theorem hsF_cg {p : StR} {a b : Int} : ∀ {n : Nat}, (∀ k : Int, 0 ≤ k → k < n → tbt a k = tbt b k) → hsF p a n = hsF p b n := by
  intro n
  induction n with
  | zero => intro _; rfl
  | succ n ih =>
    intro h
    rw [hsF_s, hsF_s, ih fun k h0 h1 => h k h0 (by omega), h n (by omega) (by omega)]
theorem alS_hs {p s : StR} {L : Option LnL} {b : Int} (hp : OkPa p) (hs : OkSt p s) (h : s 28 = 0) (h25 : s 25 = 0) : ∀ {n : Nat}, (n : Int) ≤ p 10 →
    alS p L b s n 28 = hsF p (alS p L b s n 25) n ∧ ∀ k : Int, n ≤ k → k < 7 → tbt (alS p L b s n 25) k = 0 := by
  have hn7 := hp.1.2
  intro n
  induction n with
  | zero =>
    intro _
    refine ⟨h, fun k h0 h1 => ?_⟩
    show tbt (s 25) k = 0
    rw [h25]
    exact b_a7 (P := fun k => tbt 0 k = 0) (by decide +kernel) (by omega) h1
  | succ n ih =>
    intro hn
    obtain ⟨i1, i2⟩ := ih (by omega)
    have hok := okS_al (L := L) (b := b) hp hs (n := n) (by omega)
    have h25 := hok.2.2.2.2
    have same : alS p L b s (n + 1) 25 = alS p L b s n 25 → alS p L b s (n + 1) 28 = alS p L b s n 28 → alS p L b s (n + 1) 28 = hsF p (alS p L b s (n + 1) 25) (n + 1) ∧ ∀ k : Int, ((n + 1 : Nat) : Int) ≤ k → k < 7 → tbt (alS p L b s (n + 1) 25) k = 0 := by
      intro e1 e2
      rw [e1, e2]
      refine ⟨?_, fun k h0 h1 => i2 k (by omega) h1⟩
      rw [hsF_s]
      rw [i2 n (by omega) (by omega), i1]
      simp
    by_cases hc : tbt (p 11) n = 1 ∧ ¬ lwF L (faS p (alS p L b s n) n b) = 1 ∧ ¬ lwF L (faS p (alS p L b s n) n b) = 2 ∧ (lwF L (faS p (alS p L b s n) n b) = 3 ∧ 1 ≤ alS p L b s n 21 ∧ farS (alS p L b s n) n ≤ 1)
    · have e : alS p L b s (n + 1) = upS (upS (alS p L b s n) 25 (or_32 (alS p L b s n 25) (shl32 1 n))) 28 (alS p L b s n 28 + p n) := by
        show acS p L b (alS p L b s n) n = _
        unfold acS
        rw [if_pos hc.1, if_neg hc.2.1, if_neg hc.2.2.1, if_pos hc.2.2.2]
      rw [e, upS_s, upS_n (by decide), upS_s]
      refine ⟨?_, fun k h0 h1 => ?_⟩
      · rw [hsF_s]
        rw [tb_or h25.1 h25.2 (by omega) (by omega) (by omega) (by omega), if_pos rfl, if_pos rfl, i1]
        congr 1
        refine hsF_cg fun k g0 g1 => ?_
        rw [tb_or h25.1 h25.2 (by omega) (by omega) g0 (by omega), if_neg (by omega)]
      · rw [tb_or h25.1 h25.2 (by omega) (by omega) (by omega) h1, if_neg (by omega)]
        exact i2 k (by omega) h1
    · refine same ?_ ?_
      · show acS p L b (alS p L b s n) n 25 = _
        unfold acS
        split
        · split
          · exact cnS_k (by omega) (by omega)
          · split
            · exact upS_n (by omega)
            · split
              · rename_i q1 q2 q3 q4; exact absurd ⟨q1, q2, q3, q4⟩ hc
              · rfl
        · rfl
      · show acS p L b (alS p L b s n) n 28 = _
        unfold acS
        split
        · split
          · exact cnS_k (by omega) (by omega)
          · split
            · exact upS_n (by omega)
            · split
              · rename_i q1 q2 q3 q4; exact absurd ⟨q1, q2, q3, q4⟩ hc
              · rfl
        · rfl
theorem lwF_rg {L : Option LnL} {fa : Int → Int} : 0 ≤ lwF L fa ∧ lwF L fa ≤ 3 := by
  unfold lwF
  split
  · split <;> split <;> omega
  · rename_i ls
    have h1 := Int.tmod_lt_of_pos (valL fa ls) (b := 4) (by decide)
    have h2 : -4 < Int.tmod (valL fa ls) 4 := by
      have h3 := Int.tmod_lt_of_pos (-(valL fa ls)) (b := 4) (by decide)
      rw [Int.neg_tmod] at h3
      omega
    unfold abv
    split <;> omega
theorem nrS_rg {p s : StR} {i : Int} : ∀ {n : Nat}, 0 ≤ nrS p s i n ∧ nrS p s i n ≤ n := by
  intro n
  induction n with
  | zero => exact ⟨Int.le_refl 0, Int.le_refl 0⟩
  | succ n ih =>
    rw [nrS_s]
    split <;> omega

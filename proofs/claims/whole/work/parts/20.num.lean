/-! numbers of the abstract machine: whole numbers in range -/
def w32 (z : Int) : Int := Int.bmod z 4294967296
def w64 (z : Int) : Int := Int.bmod z 18446744073709551616
def ri (z : Int) : Prop := -2147483648 ≤ z ∧ z < 2147483648
def rl (z : Int) : Prop := -9223372036854775808 ≤ z ∧ z < 9223372036854775808
abbrev j32 (z : Int) : Int32 := Int32.ofInt z
abbrev j64 (z : Int) : Int64 := Int64.ofInt z
theorem ri_wr (z : Int) : ri (w32 z) := by
  have h1 := Int.le_bmod (x := z) (m := 4294967296) (by decide)
  have h2 := Int.bmod_lt (x := z) (m := 4294967296) (by decide)
  exact ⟨by unfold w32; omega, by unfold w32; omega⟩
theorem rl_wl (z : Int) : rl (w64 z) := by
  have h1 := Int.le_bmod (x := z) (m := 18446744073709551616) (by decide)
  have h2 := Int.bmod_lt (x := z) (m := 18446744073709551616) (by decide)
  exact ⟨by unfold w64; omega, by unfold w64; omega⟩
theorem wr_id {z : Int} (h : ri z) : w32 z = z := Int.bmod_eq_of_le (by have := h.1; omega) (by have := h.2; omega)
theorem wl_id {z : Int} (h : rl z) : w64 z = z := Int.bmod_eq_of_le (by have := h.1; omega) (by have := h.2; omega)
theorem ri_rl {z : Int} (h : ri z) : rl z := ⟨by have := h.1; omega, by have := h.2; omega⟩
theorem t32 (z : Int) : (j32 z).toInt = w32 z := Int32.toInt_ofInt
theorem t64 (z : Int) : (j64 z).toInt = w64 z := Int64.toInt_ofInt
theorem t32r {z : Int} (h : ri z) : (j32 z).toInt = z := by rw [t32, wr_id h]
theorem t64r {z : Int} (h : rl z) : (j64 z).toInt = z := by rw [t64, wl_id h]
theorem ri_t (x : Int32) : ri x.toInt := ⟨by have := x.le_toInt; omega, by have := x.toInt_lt; omega⟩
theorem rl_t (x : Int64) : rl x.toInt := ⟨by have := x.le_toInt; omega, by have := x.toInt_lt; omega⟩
theorem i32_t (x : Int32) : j32 x.toInt = x := Int32.ofInt_toInt x
theorem i64_t (x : Int64) : j64 x.toInt = x := Int64.ofInt_toInt x
theorem i32_wr (z : Int) : j32 (w32 z) = j32 z := Int32.toInt_inj.1 (by rw [t32, t32, wr_id (ri_wr z)])
theorem i64_wl (z : Int) : j64 (w64 z) = j64 z := Int64.toInt_inj.1 (by rw [t64, t64, wl_id (rl_wl z)])
theorem i32_lt {x y : Int} (hx : ri x) (hy : ri y) : j32 x < j32 y ↔ x < y := by rw [Int32.lt_iff_toInt_lt, t32r hx, t32r hy]
theorem i32_le {x y : Int} (hx : ri x) (hy : ri y) : j32 x ≤ j32 y ↔ x ≤ y := by rw [Int32.le_iff_toInt_le, t32r hx, t32r hy]
theorem i32_eq {x y : Int} (hx : ri x) (hy : ri y) : j32 x = j32 y ↔ x = y := by rw [← Int32.toInt_inj, t32r hx, t32r hy]
theorem i64_lt {x y : Int} (hx : rl x) (hy : rl y) : j64 x < j64 y ↔ x < y := by rw [Int64.lt_iff_toInt_lt, t64r hx, t64r hy]
theorem i64_eq {x y : Int} (hx : rl x) (hy : rl y) : j64 x = j64 y ↔ x = y := by rw [← Int64.toInt_inj, t64r hx, t64r hy]
theorem ri_0 : ri 0 := ⟨by decide, by decide⟩
/-! what each operation gives -/
def an32 (x y : Int) : Int := (j32 x &&& j32 y).toInt
def or_32 (x y : Int) : Int := (j32 x ||| j32 y).toInt
def xo32 (x y : Int) : Int := (j32 x ^^^ j32 y).toInt
def shl32 (x y : Int) : Int := (j32 x <<< (j32 y &&& 31)).toInt
def shr32 (x y : Int) : Int := (j32 x >>> (j32 y &&& 31)).toInt
def ushr32 (x y : Int) : Int := ((j32 x).toUInt32 >>> ((j32 y).toUInt32 &&& Int32.toUInt32 31)).toInt32.toInt
def and64 (x y : Int) : Int := (j64 x &&& j64 y).toInt
def or64 (x y : Int) : Int := (j64 x ||| j64 y).toInt
def shl64 (x y : Int) : Int := (j64 x <<< ((j32 y).toInt64 &&& 63)).toInt
def b8 (x : Int) : Int := Int.bmod x 256
def s16 (x : Int) : Int := Int.bmod x 65536
def c16 (x : Int) : Int := ((j32 x).toUInt32 % 65536).toInt32.toInt
def lc (x y : Int) : Int := if y < x then 1 else if x = y then 0 else -1
theorem n_add {x y : Int} : j32 (w32 (x + y)) = j32 x + j32 y := by rw [i32_wr]; exact Int32.ofInt_add x y
theorem n_sub {x y : Int} : j32 (w32 (x - y)) = j32 x - j32 y := by rw [i32_wr]; exact Int32.ofInt_sub x y
theorem n_mul {x y : Int} : j32 (w32 (x * y)) = j32 x * j32 y := by rw [i32_wr]; exact Int32.ofInt_mul x y
theorem n_neg {x : Int} : j32 (w32 (-x)) = -j32 x := by rw [i32_wr]; exact Int32.ofInt_neg x
theorem n_div {x y : Int} (hx : ri x) (hy : ri y) : j32 (w32 (x.tdiv y)) = j32 x / j32 y := Int32.toInt_inj.1 (by
  rw [t32, wr_id (ri_wr _), Int32.toInt_div, t32r hx, t32r hy]; rfl)
theorem n_rem {x y : Int} (hx : ri x) (hy : ri y) : j32 (x.tmod y) = j32 x - j32 x / j32 y * j32 y := by
  rw [← n_div hx hy, i32_wr, ← Int32.ofInt_mul, ← Int32.ofInt_sub]
  congr 1
  have := Int.mul_tdiv_add_tmod x y
  have h2 := Int.mul_comm y (x.tdiv y)
  omega
theorem ri_tmod {x y : Int} (hx : ri x) : ri (x.tmod y) := by
  have h := Int.natAbs_tmod x y
  have h1 : x.natAbs % y.natAbs ≤ x.natAbs := Nat.mod_le _ _
  have h2 := hx.1
  have h3 := hx.2
  constructor
  · rcases Int.le_total 0 x with g | g
    · have := Int.tmod_nonneg y g; omega
    · omega
  · rcases Int.le_total 0 x with g | g
    · omega
    · have : x.tmod y ≤ 0 := by
        have e := Int.tmod_nonneg y (show 0 ≤ -x by omega)
        rw [Int.neg_tmod] at e
        omega
      omega
theorem n_and {x y : Int} : j32 (an32 x y) = j32 x &&& j32 y := i32_t _
theorem n_or {x y : Int} : j32 (or_32 x y) = j32 x ||| j32 y := i32_t _
theorem n_xor {x y : Int} : j32 (xo32 x y) = j32 x ^^^ j32 y := i32_t _
theorem n_shl {x y : Int} : j32 (shl32 x y) = j32 x <<< (j32 y &&& 31) := i32_t _
theorem n_shr {x y : Int} : j32 (shr32 x y) = j32 x >>> (j32 y &&& 31) := i32_t _
theorem n_ushr {x y : Int} : ((j32 x).toUInt32 >>> ((j32 y).toUInt32 &&& Int32.toUInt32 31)).toInt32 = j32 (ushr32 x y) := (i32_t _).symm
theorem n_c {x : Int} : ((j32 x).toUInt32 % 65536).toInt32 = j32 (c16 x) := (i32_t _).symm
theorem n_b {x : Int} (hx : ri x) : (j32 x).toInt8.toInt32 = j32 (b8 x) := Int32.toInt_inj.1 (by
  have h1 := Int.le_bmod (x := x) (m := 256) (by decide)
  have h2 := Int.bmod_lt (x := x) (m := 256) (by decide)
  have h3 : ri (b8 x) := ⟨by unfold b8; omega, by unfold b8; omega⟩
  rw [t32r h3, Int8.toInt_toInt32, Int32.toInt_toInt8, t32r hx]; rfl)
theorem n_s {x : Int} (hx : ri x) : (j32 x).toInt16.toInt32 = j32 (s16 x) := Int32.toInt_inj.1 (by
  have h1 := Int.le_bmod (x := x) (m := 65536) (by decide)
  have h2 := Int.bmod_lt (x := x) (m := 65536) (by decide)
  have h3 : ri (s16 x) := ⟨by unfold s16; omega, by unfold s16; omega⟩
  rw [t32r h3, Int16.toInt_toInt32, Int32.toInt_toInt16, t32r hx]; rfl)
theorem ri_b8 (x : Int) : ri (b8 x) := by
  have h1 := Int.le_bmod (x := x) (m := 256) (by decide)
  have h2 := Int.bmod_lt (x := x) (m := 256) (by decide)
  exact ⟨by unfold b8; omega, by unfold b8; omega⟩
theorem ri_s16 (x : Int) : ri (s16 x) := by
  have h1 := Int.le_bmod (x := x) (m := 65536) (by decide)
  have h2 := Int.bmod_lt (x := x) (m := 65536) (by decide)
  exact ⟨by unfold s16; omega, by unfold s16; omega⟩
theorem n_i2l {x : Int} (hx : ri x) : (j32 x).toInt64 = j64 x := Int64.toInt_inj.1 (by rw [t64r (ri_rl hx), Int32.toInt_toInt64, t32r hx])
theorem n_l2i {x : Int} (hx : rl x) : (j64 x).toInt32 = j32 (w32 x) := Int32.toInt_inj.1 (by rw [t32r (ri_wr x), Int64.toInt_toInt32, t64r hx]; rfl)
theorem m_add {x y : Int} : j64 (w64 (x + y)) = j64 x + j64 y := by rw [i64_wl]; exact Int64.ofInt_add x y
theorem m_sub {x y : Int} : j64 (w64 (x - y)) = j64 x - j64 y := by rw [i64_wl]; exact Int64.ofInt_sub x y
theorem m_mul {x y : Int} : j64 (w64 (x * y)) = j64 x * j64 y := by rw [i64_wl]; exact Int64.ofInt_mul x y
theorem m_div {x y : Int} (hx : rl x) (hy : rl y) : j64 (w64 (x.tdiv y)) = j64 x / j64 y := Int64.toInt_inj.1 (by
  rw [t64, wl_id (rl_wl _), Int64.toInt_div, t64r hx, t64r hy]; rfl)
theorem m_and {x y : Int} : j64 (and64 x y) = j64 x &&& j64 y := i64_t _
theorem m_or {x y : Int} : j64 (or64 x y) = j64 x ||| j64 y := i64_t _
theorem m_shl {x y : Int} : j64 x <<< ((j32 y).toInt64 &&& 63) = j64 (shl64 x y) := (i64_t _).symm
theorem m_cmp {x y : Int} (hx : rl x) (hy : rl y) : lg_cmp (j64 x) (j64 y) = j32 (lc x y) := by
  unfold lg_cmp lc
  simp only [gt_iff_lt, i64_lt hy hx, i64_eq hx hy]
  split
  · rfl
  · split <;> rfl
theorem ri_lc (x y : Int) : ri (lc x y) := by unfold lc ri; split; omega; split <;> omega
theorem n_in {i : Int} {n : Nat} (hi : ri i) (h0 : 0 ≤ i) (h : i < n) : vp_in (j32 i) n ∧ (((j32 i).toNatClampNeg : Nat) : Int) = i := by
  have e : (j32 i).toNatClampNeg = i.toNat := by rw [Int32.toNatClampNeg, t32r hi]
  constructor
  · intro q
    rcases q with q | q
    · rw [show (0 : Int32) = j32 0 from rfl, i32_lt hi ri_0] at q; omega
    · rw [e] at q; omega
  · rw [e]; omega
theorem n_lit {k : Int} (h : decide (-2147483648 ≤ k ∧ k < 2147483648) = true) : ri k := by
  have g := of_decide_eq_true h
  exact g
theorem n_litL {k : Int} (h : decide (-9223372036854775808 ≤ k ∧ k < 9223372036854775808) = true) : rl k := by
  have g := of_decide_eq_true h
  exact g

section
variable {cc : ByteArray} {mL d pc : Nat} {own : String} {sx : Option (List Int)} {ls : ZLs} {st : List AV} {mem : AMem} {Q : Option AV → AMem → Prop}
theorem a_iadd {x y : Int} (hd : decode cc pc = .ok (.iadd, 1)) (h : Y cc mL own d sx (pc + 1) ls (vi (w32 (x + y)) :: st) mem Q) : Y cc mL own d sx pc ls (vi y :: vi x :: st) mem Q := by
  intro p l e R s m args below meth c D cA ad A Qs cells slots C H locs la hP hS hL hl hs hm
  have hx : ri x := wfs_h (wfs_t hs)
  have hy : ri y := wfs_h hs
  have g := h p l e R s m args below meth c D cA ad A Qs cells slots C H locs la hP hS hL hl (wfs_c (ri_wr _) (wfs_t (wfs_t hs))) hm
  show W p l e R s m args below meth c H locs cells slots Qs (F0 m pc la (.int (j32 y) :: .int (j32 x) :: st.map (cv ad)))
  refine lv_iadd C.1.1 C.1.2.1 hd ?_
  rw [← n_add]
  exact g
theorem a_isub {x y : Int} (hd : decode cc pc = .ok (.isub, 1)) (h : Y cc mL own d sx (pc + 1) ls (vi (w32 (x - y)) :: st) mem Q) : Y cc mL own d sx pc ls (vi y :: vi x :: st) mem Q := by
  intro p l e R s m args below meth c D cA ad A Qs cells slots C H locs la hP hS hL hl hs hm
  have hx : ri x := wfs_h (wfs_t hs)
  have hy : ri y := wfs_h hs
  have g := h p l e R s m args below meth c D cA ad A Qs cells slots C H locs la hP hS hL hl (wfs_c (ri_wr _) (wfs_t (wfs_t hs))) hm
  show W p l e R s m args below meth c H locs cells slots Qs (F0 m pc la (.int (j32 y) :: .int (j32 x) :: st.map (cv ad)))
  refine lv_isub C.1.1 C.1.2.1 hd ?_
  rw [← n_sub]
  exact g
theorem a_imul {x y : Int} (hd : decode cc pc = .ok (.imul, 1)) (h : Y cc mL own d sx (pc + 1) ls (vi (w32 (x * y)) :: st) mem Q) : Y cc mL own d sx pc ls (vi y :: vi x :: st) mem Q := by
  intro p l e R s m args below meth c D cA ad A Qs cells slots C H locs la hP hS hL hl hs hm
  have hx : ri x := wfs_h (wfs_t hs)
  have hy : ri y := wfs_h hs
  have g := h p l e R s m args below meth c D cA ad A Qs cells slots C H locs la hP hS hL hl (wfs_c (ri_wr _) (wfs_t (wfs_t hs))) hm
  show W p l e R s m args below meth c H locs cells slots Qs (F0 m pc la (.int (j32 y) :: .int (j32 x) :: st.map (cv ad)))
  refine lv_imul C.1.1 C.1.2.1 hd ?_
  rw [← n_mul]
  exact g
theorem a_iand {x y : Int} (hd : decode cc pc = .ok (.iand, 1)) (h : Y cc mL own d sx (pc + 1) ls (vi (an32 x y) :: st) mem Q) : Y cc mL own d sx pc ls (vi y :: vi x :: st) mem Q := by
  intro p l e R s m args below meth c D cA ad A Qs cells slots C H locs la hP hS hL hl hs hm
  have hx : ri x := wfs_h (wfs_t hs)
  have hy : ri y := wfs_h hs
  have g := h p l e R s m args below meth c D cA ad A Qs cells slots C H locs la hP hS hL hl (wfs_c (ri_t _) (wfs_t (wfs_t hs))) hm
  show W p l e R s m args below meth c H locs cells slots Qs (F0 m pc la (.int (j32 y) :: .int (j32 x) :: st.map (cv ad)))
  refine lv_iand C.1.1 C.1.2.1 hd ?_
  rw [← n_and]
  exact g
theorem a_ior {x y : Int} (hd : decode cc pc = .ok (.ior, 1)) (h : Y cc mL own d sx (pc + 1) ls (vi (or_32 x y) :: st) mem Q) : Y cc mL own d sx pc ls (vi y :: vi x :: st) mem Q := by
  intro p l e R s m args below meth c D cA ad A Qs cells slots C H locs la hP hS hL hl hs hm
  have hx : ri x := wfs_h (wfs_t hs)
  have hy : ri y := wfs_h hs
  have g := h p l e R s m args below meth c D cA ad A Qs cells slots C H locs la hP hS hL hl (wfs_c (ri_t _) (wfs_t (wfs_t hs))) hm
  show W p l e R s m args below meth c H locs cells slots Qs (F0 m pc la (.int (j32 y) :: .int (j32 x) :: st.map (cv ad)))
  refine lv_ior C.1.1 C.1.2.1 hd ?_
  rw [← n_or]
  exact g
theorem a_ixor {x y : Int} (hd : decode cc pc = .ok (.ixor, 1)) (h : Y cc mL own d sx (pc + 1) ls (vi (xo32 x y) :: st) mem Q) : Y cc mL own d sx pc ls (vi y :: vi x :: st) mem Q := by
  intro p l e R s m args below meth c D cA ad A Qs cells slots C H locs la hP hS hL hl hs hm
  have hx : ri x := wfs_h (wfs_t hs)
  have hy : ri y := wfs_h hs
  have g := h p l e R s m args below meth c D cA ad A Qs cells slots C H locs la hP hS hL hl (wfs_c (ri_t _) (wfs_t (wfs_t hs))) hm
  show W p l e R s m args below meth c H locs cells slots Qs (F0 m pc la (.int (j32 y) :: .int (j32 x) :: st.map (cv ad)))
  refine lv_ixor C.1.1 C.1.2.1 hd ?_
  rw [← n_xor]
  exact g
theorem a_ishl {x y : Int} (hd : decode cc pc = .ok (.ishl, 1)) (h : Y cc mL own d sx (pc + 1) ls (vi (shl32 x y) :: st) mem Q) : Y cc mL own d sx pc ls (vi y :: vi x :: st) mem Q := by
  intro p l e R s m args below meth c D cA ad A Qs cells slots C H locs la hP hS hL hl hs hm
  have hx : ri x := wfs_h (wfs_t hs)
  have hy : ri y := wfs_h hs
  have g := h p l e R s m args below meth c D cA ad A Qs cells slots C H locs la hP hS hL hl (wfs_c (ri_t _) (wfs_t (wfs_t hs))) hm
  show W p l e R s m args below meth c H locs cells slots Qs (F0 m pc la (.int (j32 y) :: .int (j32 x) :: st.map (cv ad)))
  refine lv_ishl C.1.1 C.1.2.1 hd ?_
  rw [← n_shl]
  exact g
theorem a_ishr {x y : Int} (hd : decode cc pc = .ok (.ishr, 1)) (h : Y cc mL own d sx (pc + 1) ls (vi (shr32 x y) :: st) mem Q) : Y cc mL own d sx pc ls (vi y :: vi x :: st) mem Q := by
  intro p l e R s m args below meth c D cA ad A Qs cells slots C H locs la hP hS hL hl hs hm
  have hx : ri x := wfs_h (wfs_t hs)
  have hy : ri y := wfs_h hs
  have g := h p l e R s m args below meth c D cA ad A Qs cells slots C H locs la hP hS hL hl (wfs_c (ri_t _) (wfs_t (wfs_t hs))) hm
  show W p l e R s m args below meth c H locs cells slots Qs (F0 m pc la (.int (j32 y) :: .int (j32 x) :: st.map (cv ad)))
  refine lv_ishr C.1.1 C.1.2.1 hd ?_
  rw [← n_shr]
  exact g
theorem a_iushr {x y : Int} (hd : decode cc pc = .ok (.iushr, 1)) (h : Y cc mL own d sx (pc + 1) ls (vi (ushr32 x y) :: st) mem Q) : Y cc mL own d sx pc ls (vi y :: vi x :: st) mem Q := by
  intro p l e R s m args below meth c D cA ad A Qs cells slots C H locs la hP hS hL hl hs hm
  have hx : ri x := wfs_h (wfs_t hs)
  have hy : ri y := wfs_h hs
  have g := h p l e R s m args below meth c D cA ad A Qs cells slots C H locs la hP hS hL hl (wfs_c (ri_t _) (wfs_t (wfs_t hs))) hm
  show W p l e R s m args below meth c H locs cells slots Qs (F0 m pc la (.int (j32 y) :: .int (j32 x) :: st.map (cv ad)))
  refine lv_iushr C.1.1 C.1.2.1 hd n_ushr ?_
  exact g
theorem a_idiv {x y : Int} (hd : decode cc pc = .ok (.idiv, 1)) (hne : y ≠ 0) (h : Y cc mL own d sx (pc + 1) ls (vi (w32 (x.tdiv y)) :: st) mem Q) : Y cc mL own d sx pc ls (vi y :: vi x :: st) mem Q := by
  intro p l e R s m args below meth c D cA ad A Qs cells slots C H locs la hP hS hL hl hs hm
  have hx : ri x := wfs_h (wfs_t hs)
  have hy : ri y := wfs_h hs
  have g := h p l e R s m args below meth c D cA ad A Qs cells slots C H locs la hP hS hL hl (wfs_c (ri_wr _) (wfs_t (wfs_t hs))) hm
  show W p l e R s m args below meth c H locs cells slots Qs (F0 m pc la (.int (j32 y) :: .int (j32 x) :: st.map (cv ad)))
  refine lv_idiv C.1.1 C.1.2.1 hd (fun q => hne ((i32_eq hy ri_0).mp q)) ?_
  rw [← n_div hx hy]
  exact g
theorem a_irem {x y : Int} (hd : decode cc pc = .ok (.irem, 1)) (hne : y ≠ 0) (h : Y cc mL own d sx (pc + 1) ls (vi (x.tmod y) :: st) mem Q) : Y cc mL own d sx pc ls (vi y :: vi x :: st) mem Q := by
  intro p l e R s m args below meth c D cA ad A Qs cells slots C H locs la hP hS hL hl hs hm
  have hx : ri x := wfs_h (wfs_t hs)
  have hy : ri y := wfs_h hs
  have g := h p l e R s m args below meth c D cA ad A Qs cells slots C H locs la hP hS hL hl (wfs_c (ri_tmod hx) (wfs_t (wfs_t hs))) hm
  show W p l e R s m args below meth c H locs cells slots Qs (F0 m pc la (.int (j32 y) :: .int (j32 x) :: st.map (cv ad)))
  refine lv_irem C.1.1 C.1.2.1 hd (fun q => hne ((i32_eq hy ri_0).mp q)) ?_
  rw [← n_rem hx hy]
  exact g
theorem a_ladd {x y : Int} (hd : decode cc pc = .ok (.ladd, 1)) (h : Y cc mL own d sx (pc + 1) ls (vl (w64 (x + y)) :: st) mem Q) : Y cc mL own d sx pc ls (vl y :: vl x :: st) mem Q := by
  intro p l e R s m args below meth c D cA ad A Qs cells slots C H locs la hP hS hL hl hs hm
  have hx : rl x := wfs_h (wfs_t hs)
  have hy : rl y := wfs_h hs
  have g := h p l e R s m args below meth c D cA ad A Qs cells slots C H locs la hP hS hL hl (wfs_c (rl_wl _) (wfs_t (wfs_t hs))) hm
  show W p l e R s m args below meth c H locs cells slots Qs (F0 m pc la (.long (j64 y) :: .long (j64 x) :: st.map (cv ad)))
  refine lv_ladd C.1.1 C.1.2.1 hd ?_
  rw [← m_add]
  exact g
theorem a_lsub {x y : Int} (hd : decode cc pc = .ok (.lsub, 1)) (h : Y cc mL own d sx (pc + 1) ls (vl (w64 (x - y)) :: st) mem Q) : Y cc mL own d sx pc ls (vl y :: vl x :: st) mem Q := by
  intro p l e R s m args below meth c D cA ad A Qs cells slots C H locs la hP hS hL hl hs hm
  have hx : rl x := wfs_h (wfs_t hs)
  have hy : rl y := wfs_h hs
  have g := h p l e R s m args below meth c D cA ad A Qs cells slots C H locs la hP hS hL hl (wfs_c (rl_wl _) (wfs_t (wfs_t hs))) hm
  show W p l e R s m args below meth c H locs cells slots Qs (F0 m pc la (.long (j64 y) :: .long (j64 x) :: st.map (cv ad)))
  refine lv_lsub C.1.1 C.1.2.1 hd ?_
  rw [← m_sub]
  exact g
theorem a_lmul {x y : Int} (hd : decode cc pc = .ok (.lmul, 1)) (h : Y cc mL own d sx (pc + 1) ls (vl (w64 (x * y)) :: st) mem Q) : Y cc mL own d sx pc ls (vl y :: vl x :: st) mem Q := by
  intro p l e R s m args below meth c D cA ad A Qs cells slots C H locs la hP hS hL hl hs hm
  have hx : rl x := wfs_h (wfs_t hs)
  have hy : rl y := wfs_h hs
  have g := h p l e R s m args below meth c D cA ad A Qs cells slots C H locs la hP hS hL hl (wfs_c (rl_wl _) (wfs_t (wfs_t hs))) hm
  show W p l e R s m args below meth c H locs cells slots Qs (F0 m pc la (.long (j64 y) :: .long (j64 x) :: st.map (cv ad)))
  refine lv_lmul C.1.1 C.1.2.1 hd ?_
  rw [← m_mul]
  exact g
theorem a_land {x y : Int} (hd : decode cc pc = .ok (.land, 1)) (h : Y cc mL own d sx (pc + 1) ls (vl (and64 x y) :: st) mem Q) : Y cc mL own d sx pc ls (vl y :: vl x :: st) mem Q := by
  intro p l e R s m args below meth c D cA ad A Qs cells slots C H locs la hP hS hL hl hs hm
  have hx : rl x := wfs_h (wfs_t hs)
  have hy : rl y := wfs_h hs
  have g := h p l e R s m args below meth c D cA ad A Qs cells slots C H locs la hP hS hL hl (wfs_c (rl_t _) (wfs_t (wfs_t hs))) hm
  show W p l e R s m args below meth c H locs cells slots Qs (F0 m pc la (.long (j64 y) :: .long (j64 x) :: st.map (cv ad)))
  refine lv_land C.1.1 C.1.2.1 hd ?_
  rw [← m_and]
  exact g
theorem a_lor {x y : Int} (hd : decode cc pc = .ok (.lor, 1)) (h : Y cc mL own d sx (pc + 1) ls (vl (or64 x y) :: st) mem Q) : Y cc mL own d sx pc ls (vl y :: vl x :: st) mem Q := by
  intro p l e R s m args below meth c D cA ad A Qs cells slots C H locs la hP hS hL hl hs hm
  have hx : rl x := wfs_h (wfs_t hs)
  have hy : rl y := wfs_h hs
  have g := h p l e R s m args below meth c D cA ad A Qs cells slots C H locs la hP hS hL hl (wfs_c (rl_t _) (wfs_t (wfs_t hs))) hm
  show W p l e R s m args below meth c H locs cells slots Qs (F0 m pc la (.long (j64 y) :: .long (j64 x) :: st.map (cv ad)))
  refine lv_lor C.1.1 C.1.2.1 hd ?_
  rw [← m_or]
  exact g
theorem a_ldiv {x y : Int} (hd : decode cc pc = .ok (.ldiv, 1)) (hne : y ≠ 0) (h : Y cc mL own d sx (pc + 1) ls (vl (w64 (x.tdiv y)) :: st) mem Q) : Y cc mL own d sx pc ls (vl y :: vl x :: st) mem Q := by
  intro p l e R s m args below meth c D cA ad A Qs cells slots C H locs la hP hS hL hl hs hm
  have hx : rl x := wfs_h (wfs_t hs)
  have hy : rl y := wfs_h hs
  have g := h p l e R s m args below meth c D cA ad A Qs cells slots C H locs la hP hS hL hl (wfs_c (rl_wl _) (wfs_t (wfs_t hs))) hm
  show W p l e R s m args below meth c H locs cells slots Qs (F0 m pc la (.long (j64 y) :: .long (j64 x) :: st.map (cv ad)))
  refine lv_ldiv C.1.1 C.1.2.1 hd (fun q => hne ((i64_eq hy (ri_rl ri_0)).mp q)) ?_
  rw [← m_div hx hy]
  exact g
theorem a_lcmp {x y : Int} (hd : decode cc pc = .ok (.lcmp, 1)) (h : Y cc mL own d sx (pc + 1) ls (vi (lc x y) :: st) mem Q) : Y cc mL own d sx pc ls (vl y :: vl x :: st) mem Q := by
  intro p l e R s m args below meth c D cA ad A Qs cells slots C H locs la hP hS hL hl hs hm
  have hx : rl x := wfs_h (wfs_t hs)
  have hy : rl y := wfs_h hs
  have g := h p l e R s m args below meth c D cA ad A Qs cells slots C H locs la hP hS hL hl (wfs_c (ri_lc _ _) (wfs_t (wfs_t hs))) hm
  show W p l e R s m args below meth c H locs cells slots Qs (F0 m pc la (.long (j64 y) :: .long (j64 x) :: st.map (cv ad)))
  refine W.lcmp C.1.1 C.1.2.1 hd ?_
  rw [m_cmp hx hy]
  exact g
theorem a_lshl {x y : Int} (hd : decode cc pc = .ok (.lshl, 1)) (h : Y cc mL own d sx (pc + 1) ls (vl (shl64 x y) :: st) mem Q) : Y cc mL own d sx pc ls (vi y :: vl x :: st) mem Q := by
  intro p l e R s m args below meth c D cA ad A Qs cells slots C H locs la hP hS hL hl hs hm
  have g := h p l e R s m args below meth c D cA ad A Qs cells slots C H locs la hP hS hL hl (wfs_c (rl_t _) (wfs_t (wfs_t hs))) hm
  show W p l e R s m args below meth c H locs cells slots Qs (F0 m pc la (.int (j32 y) :: .long (j64 x) :: st.map (cv ad)))
  exact lv_lshl C.1.1 C.1.2.1 hd m_shl g
theorem a_ineg {x : Int} (hd : decode cc pc = .ok (.ineg, 1)) (h : Y cc mL own d sx (pc + 1) ls (vi (w32 (-x)) :: st) mem Q) : Y cc mL own d sx pc ls (vi x :: st) mem Q := by
  intro p l e R s m args below meth c D cA ad A Qs cells slots C H locs la hP hS hL hl hs hm
  have hx : ri x := wfs_h hs
  have g := h p l e R s m args below meth c D cA ad A Qs cells slots C H locs la hP hS hL hl (wfs_c (ri_wr _) (wfs_t hs)) hm
  show W p l e R s m args below meth c H locs cells slots Qs (F0 m pc la (.int (j32 x) :: st.map (cv ad)))
  refine lv_ineg C.1.1 C.1.2.1 hd ?_
  rw [← n_neg]
  exact g
theorem a_i2l {x : Int} (hd : decode cc pc = .ok (.i2l, 1)) (h : Y cc mL own d sx (pc + 1) ls (vl (x) :: st) mem Q) : Y cc mL own d sx pc ls (vi x :: st) mem Q := by
  intro p l e R s m args below meth c D cA ad A Qs cells slots C H locs la hP hS hL hl hs hm
  have hx : ri x := wfs_h hs
  have g := h p l e R s m args below meth c D cA ad A Qs cells slots C H locs la hP hS hL hl (wfs_c (ri_rl hx) (wfs_t hs)) hm
  show W p l e R s m args below meth c H locs cells slots Qs (F0 m pc la (.int (j32 x) :: st.map (cv ad)))
  exact lv_i2l C.1.1 C.1.2.1 hd (n_i2l hx) g
theorem a_l2i {x : Int} (hd : decode cc pc = .ok (.l2i, 1)) (h : Y cc mL own d sx (pc + 1) ls (vi (w32 x) :: st) mem Q) : Y cc mL own d sx pc ls (vl x :: st) mem Q := by
  intro p l e R s m args below meth c D cA ad A Qs cells slots C H locs la hP hS hL hl hs hm
  have hx : rl x := wfs_h hs
  have g := h p l e R s m args below meth c D cA ad A Qs cells slots C H locs la hP hS hL hl (wfs_c (ri_wr _) (wfs_t hs)) hm
  show W p l e R s m args below meth c H locs cells slots Qs (F0 m pc la (.long (j64 x) :: st.map (cv ad)))
  exact lv_l2i C.1.1 C.1.2.1 hd (n_l2i hx) g
theorem a_i2b {x : Int} (hd : decode cc pc = .ok (.i2b, 1)) (h : Y cc mL own d sx (pc + 1) ls (vi (b8 x) :: st) mem Q) : Y cc mL own d sx pc ls (vi x :: st) mem Q := by
  intro p l e R s m args below meth c D cA ad A Qs cells slots C H locs la hP hS hL hl hs hm
  have hx : ri x := wfs_h hs
  have g := h p l e R s m args below meth c D cA ad A Qs cells slots C H locs la hP hS hL hl (wfs_c (ri_b8 _) (wfs_t hs)) hm
  show W p l e R s m args below meth c H locs cells slots Qs (F0 m pc la (.int (j32 x) :: st.map (cv ad)))
  exact lv_i2b C.1.1 C.1.2.1 hd (n_b hx) g
theorem a_i2s {x : Int} (hd : decode cc pc = .ok (.i2s, 1)) (h : Y cc mL own d sx (pc + 1) ls (vi (s16 x) :: st) mem Q) : Y cc mL own d sx pc ls (vi x :: st) mem Q := by
  intro p l e R s m args below meth c D cA ad A Qs cells slots C H locs la hP hS hL hl hs hm
  have hx : ri x := wfs_h hs
  have g := h p l e R s m args below meth c D cA ad A Qs cells slots C H locs la hP hS hL hl (wfs_c (ri_s16 _) (wfs_t hs)) hm
  show W p l e R s m args below meth c H locs cells slots Qs (F0 m pc la (.int (j32 x) :: st.map (cv ad)))
  exact lv_i2s C.1.1 C.1.2.1 hd (n_s hx) g
theorem a_i2c {x : Int} (hd : decode cc pc = .ok (.i2c, 1)) (h : Y cc mL own d sx (pc + 1) ls (vi (c16 x) :: st) mem Q) : Y cc mL own d sx pc ls (vi x :: st) mem Q := by
  intro p l e R s m args below meth c D cA ad A Qs cells slots C H locs la hP hS hL hl hs hm
  have hx : ri x := wfs_h hs
  have g := h p l e R s m args below meth c D cA ad A Qs cells slots C H locs la hP hS hL hl (wfs_c (ri_t _) (wfs_t hs)) hm
  show W p l e R s m args below meth c H locs cells slots Qs (F0 m pc la (.int (j32 x) :: st.map (cv ad)))
  exact lv_i2c C.1.1 C.1.2.1 hd n_c g
theorem a_iconst {k : Int} (hd : decode cc pc = .ok (.iconst k, 1)) (hr : ri k) (h : Y cc mL own d sx (pc + 1) ls (vi k :: st) mem Q) : Y cc mL own d sx pc ls st mem Q := by
  intro p l e R s m args below meth c D cA ad A Qs cells slots C H locs la hP hS hL hl hs hm
  exact lv_iconst C.1.1 C.1.2.1 hd rfl (h p l e R s m args below meth c D cA ad A Qs cells slots C H locs la hP hS hL hl (wfs_c hr hs) hm)
theorem a_bipush {k : Int} (hd : decode cc pc = .ok (.bipush k, 2)) (hk : (Int8.ofInt k).toInt32 = j32 k) (hr : ri k) (h : Y cc mL own d sx (pc + 2) ls (vi k :: st) mem Q) : Y cc mL own d sx pc ls st mem Q := by
  intro p l e R s m args below meth c D cA ad A Qs cells slots C H locs la hP hS hL hl hs hm
  exact lv_bipush C.1.1 C.1.2.1 hd hk (h p l e R s m args below meth c D cA ad A Qs cells slots C H locs la hP hS hL hl (wfs_c hr hs) hm)
theorem a_sipush {k : Int} (hd : decode cc pc = .ok (.sipush k, 3)) (hk : (Int16.ofInt k).toInt32 = j32 k) (hr : ri k) (h : Y cc mL own d sx (pc + 3) ls (vi k :: st) mem Q) : Y cc mL own d sx pc ls st mem Q := by
  intro p l e R s m args below meth c D cA ad A Qs cells slots C H locs la hP hS hL hl hs hm
  exact lv_sipush C.1.1 C.1.2.1 hd hk (h p l e R s m args below meth c D cA ad A Qs cells slots C H locs la hP hS hL hl (wfs_c hr hs) hm)
theorem a_lconst {n : Fin 2} {k : Int} (hd : decode cc pc = .ok (.lconst n, 1)) (hk : Int64.ofNat (n : Nat) = j64 k) (hr : rl k) (h : Y cc mL own d sx (pc + 1) ls (vl k :: st) mem Q) : Y cc mL own d sx pc ls st mem Q := by
  intro p l e R s m args below meth c D cA ad A Qs cells slots C H locs la hP hS hL hl hs hm
  exact lv_lconst C.1.1 C.1.2.1 hd hk (h p l e R s m args below meth c D cA ad A Qs cells slots C H locs la hP hS hL hl (wfs_c hr hs) hm)
theorem a_ldc {ix : Nat} {k : Int} (hw : Cond.constant own ix (j32 k) ∈ TB) (hr : ri k) (hd : decode cc pc = .ok (.ldc ix, 2)) (h : Y cc mL own d sx (pc + 2) ls (vi k :: st) mem Q) : Y cc mL own d sx pc ls st mem Q := by
  intro p l e R s m args below meth c D cA ad A Qs cells slots C H locs la hP hS hL hl hs hm
  exact lv_ldc C.1.1 C.1.2.1 C.1.2.2.2.1 (C.1.2.2.2.2 _ hw) hd (h p l e R s m args below meth c D cA ad A Qs cells slots C H locs la hP hS hL hl (wfs_c hr hs) hm)
theorem a_ldcw {ix : Nat} {k : Int} (hw : Cond.constant own ix (j32 k) ∈ TB) (hr : ri k) (hd : decode cc pc = .ok (.ldc_w ix, 3)) (h : Y cc mL own d sx (pc + 3) ls (vi k :: st) mem Q) : Y cc mL own d sx pc ls st mem Q := by
  intro p l e R s m args below meth c D cA ad A Qs cells slots C H locs la hP hS hL hl hs hm
  exact lv_ldcw C.1.1 C.1.2.1 C.1.2.2.2.1 (C.1.2.2.2.2 _ hw) hd (h p l e R s m args below meth c D cA ad A Qs cells slots C H locs la hP hS hL hl (wfs_c hr hs) hm)
theorem a_ldc2 {ix : Nat} {k : Int} (hw : Cond.constantLong own ix (j64 k) ∈ TB) (hr : rl k) (hd : decode cc pc = .ok (.ldc2_w ix, 3)) (h : Y cc mL own d sx (pc + 3) ls (vl k :: st) mem Q) : Y cc mL own d sx pc ls st mem Q := by
  intro p l e R s m args below meth c D cA ad A Qs cells slots C H locs la hP hS hL hl hs hm
  exact lv_ldc2 C.1.1 C.1.2.1 C.1.2.2.2.1 (C.1.2.2.2.2 _ hw) hd (h p l e R s m args below meth c D cA ad A Qs cells slots C H locs la hP hS hL hl (wfs_c hr hs) hm)
theorem a_iload_n {n : Fin 4} {i : Nat} {x : Int} (hd : decode cc pc = .ok (.iload_n n, 1)) (hi : (n : Nat) = i) (hv : ls[i]? = some (some (vi x))) (h : Y cc mL own d sx (pc + 1) ls (vi x :: st) mem Q) : Y cc mL own d sx pc ls st mem Q := by
  intro p l e R s m args below meth c D cA ad A Qs cells slots C H locs la hP hS hL hl hs hm
  exact lv_iload_n C.1.1 C.1.2.1 hd hi (Lh_at hL hv) (h p l e R s m args below meth c D cA ad A Qs cells slots C H locs la hP hS hL hl (wfs_c (wfl_at hl hv) hs) hm)
theorem a_iload {i : Nat} {x : Int} (hd : decode cc pc = .ok (.iload i, 2)) (hv : ls[i]? = some (some (vi x))) (h : Y cc mL own d sx (pc + 2) ls (vi x :: st) mem Q) : Y cc mL own d sx pc ls st mem Q := by
  intro p l e R s m args below meth c D cA ad A Qs cells slots C H locs la hP hS hL hl hs hm
  exact lv_iload C.1.1 C.1.2.1 hd (Lh_at hL hv) (h p l e R s m args below meth c D cA ad A Qs cells slots C H locs la hP hS hL hl (wfs_c (wfl_at hl hv) hs) hm)
theorem a_lload_n {n : Fin 4} {i : Nat} {x : Int} (hd : decode cc pc = .ok (.lload_n n, 1)) (hi : (n : Nat) = i) (hv : ls[i]? = some (some (vl x))) (h : Y cc mL own d sx (pc + 1) ls (vl x :: st) mem Q) : Y cc mL own d sx pc ls st mem Q := by
  intro p l e R s m args below meth c D cA ad A Qs cells slots C H locs la hP hS hL hl hs hm
  exact lv_lload_n C.1.1 C.1.2.1 hd hi (Lh_at hL hv) (h p l e R s m args below meth c D cA ad A Qs cells slots C H locs la hP hS hL hl (wfs_c (wfl_at hl hv) hs) hm)
theorem a_lload {i : Nat} {x : Int} (hd : decode cc pc = .ok (.lload i, 2)) (hv : ls[i]? = some (some (vl x))) (h : Y cc mL own d sx (pc + 2) ls (vl x :: st) mem Q) : Y cc mL own d sx pc ls st mem Q := by
  intro p l e R s m args below meth c D cA ad A Qs cells slots C H locs la hP hS hL hl hs hm
  exact lv_lload C.1.1 C.1.2.1 hd (Lh_at hL hv) (h p l e R s m args below meth c D cA ad A Qs cells slots C H locs la hP hS hL hl (wfs_c (wfl_at hl hv) hs) hm)
theorem a_aload_n {n : Fin 4} {i : Nat} {k j : Nat} (hd : decode cc pc = .ok (.aload_n n, 1)) (hi : (n : Nat) = i) (hv : ls[i]? = some (some (vr k j))) (h : Y cc mL own d sx (pc + 1) ls (vr k j :: st) mem Q) : Y cc mL own d sx pc ls st mem Q := by
  intro p l e R s m args below meth c D cA ad A Qs cells slots C H locs la hP hS hL hl hs hm
  exact lv_aload_n C.1.1 C.1.2.1 hd hi (Lh_at hL hv) (h p l e R s m args below meth c D cA ad A Qs cells slots C H locs la hP hS hL hl (wfs_c (wfl_at hl hv) hs) hm)
theorem a_aload {i : Nat} {k j : Nat} (hd : decode cc pc = .ok (.aload i, 2)) (hv : ls[i]? = some (some (vr k j))) (h : Y cc mL own d sx (pc + 2) ls (vr k j :: st) mem Q) : Y cc mL own d sx pc ls st mem Q := by
  intro p l e R s m args below meth c D cA ad A Qs cells slots C H locs la hP hS hL hl hs hm
  exact lv_aload C.1.1 C.1.2.1 hd (Lh_at hL hv) (h p l e R s m args below meth c D cA ad A Qs cells slots C H locs la hP hS hL hl (wfs_c (wfl_at hl hv) hs) hm)
theorem a_istore_n {n : Fin 4} {i : Nat} {x : Int} (hd : decode cc pc = .ok (.istore_n n, 1)) (hi : (n : Nat) = i) (hn : i < mL) (ho : okst ls i = true) (h : Y cc mL own d sx (pc + 1) (ls.set i (some (vi x))) st mem Q) : Y cc mL own d sx pc ls (vi x :: st) mem Q := by
  intro p l e R s m args below meth c D cA ad A Qs cells slots C H locs la hP hS hL hl hs hm
  show W p l e R s m args below meth c H locs cells slots Qs (F0 m pc la (.int (j32 x) :: st.map (cv ad)))
  refine lv_istore_n C.1.1 C.1.2.1 hd hi hL hn rfl (fun la2 hL2 => ?_)
  exact h p l e R s m args below meth c D cA ad A Qs cells slots C H locs la2 hP hS (Lh_put1 (v := vi x) ho hL2) (wfl_set hl (wfs_h hs)) (wfs_t hs) hm
theorem a_istore {i : Nat} {x : Int} (hd : decode cc pc = .ok (.istore i, 2)) (hn : i < mL) (ho : okst ls i = true) (h : Y cc mL own d sx (pc + 2) (ls.set i (some (vi x))) st mem Q) : Y cc mL own d sx pc ls (vi x :: st) mem Q := by
  intro p l e R s m args below meth c D cA ad A Qs cells slots C H locs la hP hS hL hl hs hm
  show W p l e R s m args below meth c H locs cells slots Qs (F0 m pc la (.int (j32 x) :: st.map (cv ad)))
  refine lv_istore C.1.1 C.1.2.1 hd hL hn rfl (fun la2 hL2 => ?_)
  exact h p l e R s m args below meth c D cA ad A Qs cells slots C H locs la2 hP hS (Lh_put1 (v := vi x) ho hL2) (wfl_set hl (wfs_h hs)) (wfs_t hs) hm
theorem a_astore_n {n : Fin 4} {i : Nat} {k j : Nat} (hd : decode cc pc = .ok (.astore_n n, 1)) (hi : (n : Nat) = i) (hn : i < mL) (ho : okst ls i = true) (h : Y cc mL own d sx (pc + 1) (ls.set i (some (vr k j))) st mem Q) : Y cc mL own d sx pc ls (vr k j :: st) mem Q := by
  intro p l e R s m args below meth c D cA ad A Qs cells slots C H locs la hP hS hL hl hs hm
  show W p l e R s m args below meth c H locs cells slots Qs (F0 m pc la (.ref (ad k j) :: st.map (cv ad)))
  refine lv_astore_n C.1.1 C.1.2.1 hd hi hL hn rfl (fun la2 hL2 => ?_)
  exact h p l e R s m args below meth c D cA ad A Qs cells slots C H locs la2 hP hS (Lh_put1 (v := vr k j) ho hL2) (wfl_set hl (wfs_h hs)) (wfs_t hs) hm
theorem a_astore {i : Nat} {k j : Nat} (hd : decode cc pc = .ok (.astore i, 2)) (hn : i < mL) (ho : okst ls i = true) (h : Y cc mL own d sx (pc + 2) (ls.set i (some (vr k j))) st mem Q) : Y cc mL own d sx pc ls (vr k j :: st) mem Q := by
  intro p l e R s m args below meth c D cA ad A Qs cells slots C H locs la hP hS hL hl hs hm
  show W p l e R s m args below meth c H locs cells slots Qs (F0 m pc la (.ref (ad k j) :: st.map (cv ad)))
  refine lv_astore C.1.1 C.1.2.1 hd hL hn rfl (fun la2 hL2 => ?_)
  exact h p l e R s m args below meth c D cA ad A Qs cells slots C H locs la2 hP hS (Lh_put1 (v := vr k j) ho hL2) (wfl_set hl (wfs_h hs)) (wfs_t hs) hm
theorem a_lstore_n {n : Fin 4} {i : Nat} {x : Int} (hd : decode cc pc = .ok (.lstore_n n, 1)) (hi : (n : Nat) = i) (hn : i + 1 < mL) (ho : okst ls i = true) (h : Y cc mL own d sx (pc + 1) ((ls.set i (some (vl x))).set (i + 1) none) st mem Q) : Y cc mL own d sx pc ls (vl x :: st) mem Q := by
  intro p l e R s m args below meth c D cA ad A Qs cells slots C H locs la hP hS hL hl hs hm
  show W p l e R s m args below meth c H locs cells slots Qs (F0 m pc la (.long (j64 x) :: st.map (cv ad)))
  refine lv_lstore_n C.1.1 C.1.2.1 hd hi hL hn rfl (fun la2 hL2 => ?_)
  exact h p l e R s m args below meth c D cA ad A Qs cells slots C H locs la2 hP hS (Lh_put2 (v := vl x) ho hL2) (wfl_setn (wfl_set hl (wfs_h hs))) (wfs_t hs) hm
theorem a_lstore {i : Nat} {x : Int} (hd : decode cc pc = .ok (.lstore i, 2)) (hn : i + 1 < mL) (ho : okst ls i = true) (h : Y cc mL own d sx (pc + 2) ((ls.set i (some (vl x))).set (i + 1) none) st mem Q) : Y cc mL own d sx pc ls (vl x :: st) mem Q := by
  intro p l e R s m args below meth c D cA ad A Qs cells slots C H locs la hP hS hL hl hs hm
  show W p l e R s m args below meth c H locs cells slots Qs (F0 m pc la (.long (j64 x) :: st.map (cv ad)))
  refine lv_lstore C.1.1 C.1.2.1 hd hL hn rfl (fun la2 hL2 => ?_)
  exact h p l e R s m args below meth c D cA ad A Qs cells slots C H locs la2 hP hS (Lh_put2 (v := vl x) ho hL2) (wfl_setn (wfl_set hl (wfs_h hs))) (wfs_t hs) hm
theorem a_iinc {i : Nat} {n x : Int} (hd : decode cc pc = .ok (.iinc i n, 3)) (hv : ls[i]? = some (some (vi x))) (hn : i < mL) (ho : okst ls i = true) (h : Y cc mL own d sx (pc + 3) (ls.set i (some (vi (w32 (x + n))))) st mem Q) : Y cc mL own d sx pc ls st mem Q := by
  intro p l e R s m args below meth c D cA ad A Qs cells slots C H locs la hP hS hL hl hs hm
  obtain ⟨k, hk⟩ := List.getElem?_of_mem (toA_mem (ad := ad) (ls := ls) (q := (i, .int (j32 x))) |>.mpr ⟨_, hv, rfl⟩)
  refine lv_iinc (v := j32 (w32 (x + n))) C.1.1 C.1.2.1 hd hL hk (by rw [i32_wr]; exact (Int32.ofInt_add x n).symm) hn rfl (fun la2 hL2 => ?_)
  exact h p l e R s m args below meth c D cA ad A Qs cells slots C H locs la2 hP hS (Lh_put1 (v := vi (w32 (x + n))) ho hL2) (wfl_set hl (ri_wr _)) (hs) hm
theorem a_dup {v : AV} (hd : decode cc pc = .ok (.dup, 1)) (hc : isL v = false) (h : Y cc mL own d sx (pc + 1) ls (v :: v :: st) mem Q) : Y cc mL own d sx pc ls (v :: st) mem Q := by
  intro p l e R s m args below meth c D cA ad A Qs cells slots C H locs la hP hS hL hl hs hm
  exact lv_dup C.1.1 C.1.2.1 hd (by rw [cv_cat, hc]; rfl) (h p l e R s m args below meth c D cA ad A Qs cells slots C H locs la hP hS hL hl (wfs_c (wfs_h hs) hs) hm)
theorem a_pop {v : AV} (hd : decode cc pc = .ok (.pop, 1)) (hc : isL v = false) (h : Y cc mL own d sx (pc + 1) ls st mem Q) : Y cc mL own d sx pc ls (v :: st) mem Q := by
  intro p l e R s m args below meth c D cA ad A Qs cells slots C H locs la hP hS hL hl hs hm
  exact lv_pop C.1.1 C.1.2.1 hd (by rw [cv_cat, hc]; rfl) (h p l e R s m args below meth c D cA ad A Qs cells slots C H locs la hP hS hL hl (wfs_t hs) hm)
theorem a_dup2 {v w : AV} (hd : decode cc pc = .ok (.dup2, 1)) (hc : isL v = false) (hc2 : isL w = false) (h : Y cc mL own d sx (pc + 1) ls (v :: w :: v :: w :: st) mem Q) : Y cc mL own d sx pc ls (v :: w :: st) mem Q := by
  intro p l e R s m args below meth c D cA ad A Qs cells slots C H locs la hP hS hL hl hs hm
  exact lv_dup2_11 C.1.1 C.1.2.1 hd (by rw [cv_cat, hc]; rfl) (by rw [cv_cat, hc2]; rfl) (h p l e R s m args below meth c D cA ad A Qs cells slots C H locs la hP hS hL hl (wfs_c (wfs_h hs) (wfs_c (wfs_h (wfs_t hs)) hs)) hm)
theorem a_goto {off : Int} {tgt : Nat} (hd : decode cc pc = .ok (.goto off, 3)) (ht : (pc : Int) + off = (tgt : Int)) (h : Y cc mL own d sx tgt ls st mem Q) : Y cc mL own d sx pc ls st mem Q := by
  intro p l e R s m args below meth c D cA ad A Qs cells slots C H locs la hP hS hL hl hs hm
  exact lv_goto C.1.1 C.1.2.1 hd ht (h p l e R s m args below meth c D cA ad A Qs cells slots C H locs la hP hS hL hl (hs) hm)
theorem a_icmp_eq {x y off : Int} {tgt : Nat} (hd : decode cc pc = .ok (.if_icmp .eq off, 3)) (ht : (pc : Int) + off = (tgt : Int)) (h : (x = y → Y cc mL own d sx tgt ls st mem Q) ∧ (¬ x = y → Y cc mL own d sx (pc + 3) ls st mem Q)) : Y cc mL own d sx pc ls (vi y :: vi x :: st) mem Q := by
  intro p l e R s m args below meth c D cA ad A Qs cells slots C H locs la hP hS hL hl hs hm
  have hx : ri x := wfs_h (wfs_t hs)
  have hy : ri y := wfs_h hs
  show W p l e R s m args below meth c H locs cells slots Qs (F0 m pc la (.int (j32 y) :: .int (j32 x) :: st.map (cv ad)))
  exact lv_icmp_eq C.1.1 C.1.2.1 hd ht (fun z => h.1 ((i32_eq hx hy).mp z) p l e R s m args below meth c D cA ad A Qs cells slots C H locs la hP hS hL hl (wfs_t (wfs_t hs)) hm) (fun z => h.2 (fun q => z ((i32_eq hx hy).mpr q)) p l e R s m args below meth c D cA ad A Qs cells slots C H locs la hP hS hL hl (wfs_t (wfs_t hs)) hm)
theorem a_if_eq {x off : Int} {tgt : Nat} (hd : decode cc pc = .ok (.ifCond .eq off, 3)) (ht : (pc : Int) + off = (tgt : Int)) (h : (x = 0 → Y cc mL own d sx tgt ls st mem Q) ∧ (¬ x = 0 → Y cc mL own d sx (pc + 3) ls st mem Q)) : Y cc mL own d sx pc ls (vi x :: st) mem Q := by
  intro p l e R s m args below meth c D cA ad A Qs cells slots C H locs la hP hS hL hl hs hm
  have hx : ri x := wfs_h hs
  show W p l e R s m args below meth c H locs cells slots Qs (F0 m pc la (.int (j32 x) :: st.map (cv ad)))
  exact lv_if_eq C.1.1 C.1.2.1 hd ht (fun z => h.1 ((i32_eq hx ri_0).mp z) p l e R s m args below meth c D cA ad A Qs cells slots C H locs la hP hS hL hl (wfs_t hs) hm) (fun z => h.2 (fun q => z ((i32_eq hx ri_0).mpr q)) p l e R s m args below meth c D cA ad A Qs cells slots C H locs la hP hS hL hl (wfs_t hs) hm)
theorem a_icmp_ne {x y off : Int} {tgt : Nat} (hd : decode cc pc = .ok (.if_icmp .ne off, 3)) (ht : (pc : Int) + off = (tgt : Int)) (h : (x ≠ y → Y cc mL own d sx tgt ls st mem Q) ∧ (x = y → Y cc mL own d sx (pc + 3) ls st mem Q)) : Y cc mL own d sx pc ls (vi y :: vi x :: st) mem Q := by
  intro p l e R s m args below meth c D cA ad A Qs cells slots C H locs la hP hS hL hl hs hm
  have hx : ri x := wfs_h (wfs_t hs)
  have hy : ri y := wfs_h hs
  show W p l e R s m args below meth c H locs cells slots Qs (F0 m pc la (.int (j32 y) :: .int (j32 x) :: st.map (cv ad)))
  exact lv_icmp_ne C.1.1 C.1.2.1 hd ht (fun z => h.1 (fun q => z ((i32_eq hx hy).mpr q)) p l e R s m args below meth c D cA ad A Qs cells slots C H locs la hP hS hL hl (wfs_t (wfs_t hs)) hm) (fun z => h.2 ((i32_eq hx hy).mp z) p l e R s m args below meth c D cA ad A Qs cells slots C H locs la hP hS hL hl (wfs_t (wfs_t hs)) hm)
theorem a_if_ne {x off : Int} {tgt : Nat} (hd : decode cc pc = .ok (.ifCond .ne off, 3)) (ht : (pc : Int) + off = (tgt : Int)) (h : (x ≠ 0 → Y cc mL own d sx tgt ls st mem Q) ∧ (x = 0 → Y cc mL own d sx (pc + 3) ls st mem Q)) : Y cc mL own d sx pc ls (vi x :: st) mem Q := by
  intro p l e R s m args below meth c D cA ad A Qs cells slots C H locs la hP hS hL hl hs hm
  have hx : ri x := wfs_h hs
  show W p l e R s m args below meth c H locs cells slots Qs (F0 m pc la (.int (j32 x) :: st.map (cv ad)))
  exact lv_if_ne C.1.1 C.1.2.1 hd ht (fun z => h.1 (fun q => z ((i32_eq hx ri_0).mpr q)) p l e R s m args below meth c D cA ad A Qs cells slots C H locs la hP hS hL hl (wfs_t hs) hm) (fun z => h.2 ((i32_eq hx ri_0).mp z) p l e R s m args below meth c D cA ad A Qs cells slots C H locs la hP hS hL hl (wfs_t hs) hm)
theorem a_icmp_lt {x y off : Int} {tgt : Nat} (hd : decode cc pc = .ok (.if_icmp .lt off, 3)) (ht : (pc : Int) + off = (tgt : Int)) (h : (x < y → Y cc mL own d sx tgt ls st mem Q) ∧ (¬ x < y → Y cc mL own d sx (pc + 3) ls st mem Q)) : Y cc mL own d sx pc ls (vi y :: vi x :: st) mem Q := by
  intro p l e R s m args below meth c D cA ad A Qs cells slots C H locs la hP hS hL hl hs hm
  have hx : ri x := wfs_h (wfs_t hs)
  have hy : ri y := wfs_h hs
  show W p l e R s m args below meth c H locs cells slots Qs (F0 m pc la (.int (j32 y) :: .int (j32 x) :: st.map (cv ad)))
  exact lv_icmp_lt C.1.1 C.1.2.1 hd ht (fun z => h.1 ((i32_lt hx hy).mp z) p l e R s m args below meth c D cA ad A Qs cells slots C H locs la hP hS hL hl (wfs_t (wfs_t hs)) hm) (fun z => h.2 (fun q => z ((i32_lt hx hy).mpr q)) p l e R s m args below meth c D cA ad A Qs cells slots C H locs la hP hS hL hl (wfs_t (wfs_t hs)) hm)
theorem a_if_lt {x off : Int} {tgt : Nat} (hd : decode cc pc = .ok (.ifCond .lt off, 3)) (ht : (pc : Int) + off = (tgt : Int)) (h : (x < 0 → Y cc mL own d sx tgt ls st mem Q) ∧ (¬ x < 0 → Y cc mL own d sx (pc + 3) ls st mem Q)) : Y cc mL own d sx pc ls (vi x :: st) mem Q := by
  intro p l e R s m args below meth c D cA ad A Qs cells slots C H locs la hP hS hL hl hs hm
  have hx : ri x := wfs_h hs
  show W p l e R s m args below meth c H locs cells slots Qs (F0 m pc la (.int (j32 x) :: st.map (cv ad)))
  exact lv_if_lt C.1.1 C.1.2.1 hd ht (fun z => h.1 ((i32_lt hx ri_0).mp z) p l e R s m args below meth c D cA ad A Qs cells slots C H locs la hP hS hL hl (wfs_t hs) hm) (fun z => h.2 (fun q => z ((i32_lt hx ri_0).mpr q)) p l e R s m args below meth c D cA ad A Qs cells slots C H locs la hP hS hL hl (wfs_t hs) hm)
theorem a_icmp_ge {x y off : Int} {tgt : Nat} (hd : decode cc pc = .ok (.if_icmp .ge off, 3)) (ht : (pc : Int) + off = (tgt : Int)) (h : (y ≤ x → Y cc mL own d sx tgt ls st mem Q) ∧ (¬ y ≤ x → Y cc mL own d sx (pc + 3) ls st mem Q)) : Y cc mL own d sx pc ls (vi y :: vi x :: st) mem Q := by
  intro p l e R s m args below meth c D cA ad A Qs cells slots C H locs la hP hS hL hl hs hm
  have hx : ri x := wfs_h (wfs_t hs)
  have hy : ri y := wfs_h hs
  show W p l e R s m args below meth c H locs cells slots Qs (F0 m pc la (.int (j32 y) :: .int (j32 x) :: st.map (cv ad)))
  exact lv_icmp_ge C.1.1 C.1.2.1 hd ht (fun z => h.1 ((i32_le hy hx).mp z) p l e R s m args below meth c D cA ad A Qs cells slots C H locs la hP hS hL hl (wfs_t (wfs_t hs)) hm) (fun z => h.2 (fun q => z ((i32_le hy hx).mpr q)) p l e R s m args below meth c D cA ad A Qs cells slots C H locs la hP hS hL hl (wfs_t (wfs_t hs)) hm)
theorem a_if_ge {x off : Int} {tgt : Nat} (hd : decode cc pc = .ok (.ifCond .ge off, 3)) (ht : (pc : Int) + off = (tgt : Int)) (h : (0 ≤ x → Y cc mL own d sx tgt ls st mem Q) ∧ (¬ 0 ≤ x → Y cc mL own d sx (pc + 3) ls st mem Q)) : Y cc mL own d sx pc ls (vi x :: st) mem Q := by
  intro p l e R s m args below meth c D cA ad A Qs cells slots C H locs la hP hS hL hl hs hm
  have hx : ri x := wfs_h hs
  show W p l e R s m args below meth c H locs cells slots Qs (F0 m pc la (.int (j32 x) :: st.map (cv ad)))
  exact lv_if_ge C.1.1 C.1.2.1 hd ht (fun z => h.1 ((i32_le ri_0 hx).mp z) p l e R s m args below meth c D cA ad A Qs cells slots C H locs la hP hS hL hl (wfs_t hs) hm) (fun z => h.2 (fun q => z ((i32_le ri_0 hx).mpr q)) p l e R s m args below meth c D cA ad A Qs cells slots C H locs la hP hS hL hl (wfs_t hs) hm)
theorem a_icmp_gt {x y off : Int} {tgt : Nat} (hd : decode cc pc = .ok (.if_icmp .gt off, 3)) (ht : (pc : Int) + off = (tgt : Int)) (h : (y < x → Y cc mL own d sx tgt ls st mem Q) ∧ (¬ y < x → Y cc mL own d sx (pc + 3) ls st mem Q)) : Y cc mL own d sx pc ls (vi y :: vi x :: st) mem Q := by
  intro p l e R s m args below meth c D cA ad A Qs cells slots C H locs la hP hS hL hl hs hm
  have hx : ri x := wfs_h (wfs_t hs)
  have hy : ri y := wfs_h hs
  show W p l e R s m args below meth c H locs cells slots Qs (F0 m pc la (.int (j32 y) :: .int (j32 x) :: st.map (cv ad)))
  exact lv_icmp_gt C.1.1 C.1.2.1 hd ht (fun z => h.1 ((i32_lt hy hx).mp z) p l e R s m args below meth c D cA ad A Qs cells slots C H locs la hP hS hL hl (wfs_t (wfs_t hs)) hm) (fun z => h.2 (fun q => z ((i32_lt hy hx).mpr q)) p l e R s m args below meth c D cA ad A Qs cells slots C H locs la hP hS hL hl (wfs_t (wfs_t hs)) hm)
theorem a_if_gt {x off : Int} {tgt : Nat} (hd : decode cc pc = .ok (.ifCond .gt off, 3)) (ht : (pc : Int) + off = (tgt : Int)) (h : (0 < x → Y cc mL own d sx tgt ls st mem Q) ∧ (¬ 0 < x → Y cc mL own d sx (pc + 3) ls st mem Q)) : Y cc mL own d sx pc ls (vi x :: st) mem Q := by
  intro p l e R s m args below meth c D cA ad A Qs cells slots C H locs la hP hS hL hl hs hm
  have hx : ri x := wfs_h hs
  show W p l e R s m args below meth c H locs cells slots Qs (F0 m pc la (.int (j32 x) :: st.map (cv ad)))
  exact lv_if_gt C.1.1 C.1.2.1 hd ht (fun z => h.1 ((i32_lt ri_0 hx).mp z) p l e R s m args below meth c D cA ad A Qs cells slots C H locs la hP hS hL hl (wfs_t hs) hm) (fun z => h.2 (fun q => z ((i32_lt ri_0 hx).mpr q)) p l e R s m args below meth c D cA ad A Qs cells slots C H locs la hP hS hL hl (wfs_t hs) hm)
theorem a_icmp_le {x y off : Int} {tgt : Nat} (hd : decode cc pc = .ok (.if_icmp .le off, 3)) (ht : (pc : Int) + off = (tgt : Int)) (h : (x ≤ y → Y cc mL own d sx tgt ls st mem Q) ∧ (¬ x ≤ y → Y cc mL own d sx (pc + 3) ls st mem Q)) : Y cc mL own d sx pc ls (vi y :: vi x :: st) mem Q := by
  intro p l e R s m args below meth c D cA ad A Qs cells slots C H locs la hP hS hL hl hs hm
  have hx : ri x := wfs_h (wfs_t hs)
  have hy : ri y := wfs_h hs
  show W p l e R s m args below meth c H locs cells slots Qs (F0 m pc la (.int (j32 y) :: .int (j32 x) :: st.map (cv ad)))
  exact lv_icmp_le C.1.1 C.1.2.1 hd ht (fun z => h.1 ((i32_le hx hy).mp z) p l e R s m args below meth c D cA ad A Qs cells slots C H locs la hP hS hL hl (wfs_t (wfs_t hs)) hm) (fun z => h.2 (fun q => z ((i32_le hx hy).mpr q)) p l e R s m args below meth c D cA ad A Qs cells slots C H locs la hP hS hL hl (wfs_t (wfs_t hs)) hm)
theorem a_if_le {x off : Int} {tgt : Nat} (hd : decode cc pc = .ok (.ifCond .le off, 3)) (ht : (pc : Int) + off = (tgt : Int)) (h : (x ≤ 0 → Y cc mL own d sx tgt ls st mem Q) ∧ (¬ x ≤ 0 → Y cc mL own d sx (pc + 3) ls st mem Q)) : Y cc mL own d sx pc ls (vi x :: st) mem Q := by
  intro p l e R s m args below meth c D cA ad A Qs cells slots C H locs la hP hS hL hl hs hm
  have hx : ri x := wfs_h hs
  show W p l e R s m args below meth c H locs cells slots Qs (F0 m pc la (.int (j32 x) :: st.map (cv ad)))
  exact lv_if_le C.1.1 C.1.2.1 hd ht (fun z => h.1 ((i32_le hx ri_0).mp z) p l e R s m args below meth c D cA ad A Qs cells slots C H locs la hP hS hL hl (wfs_t hs) hm) (fun z => h.2 (fun q => z ((i32_le hx ri_0).mpr q)) p l e R s m args below meth c D cA ad A Qs cells slots C H locs la hP hS hL hl (wfs_t hs) hm)
theorem a_table {x dflt lo hi : Int} {offs : Array Int} {len : Nat} (hd : decode cc pc = .ok (.tableswitch dflt lo hi offs, len)) (tg : Int → Nat) (td : Nat) (h0 : (pc : Int) + dflt = (td : Int)) (h1 : (List.range offs.size).all (fun i => decide ((pc : Int) + offs.getD i 0 = (tg (lo + i) : Int))) = true) (h2 : hi - lo + 1 = offs.size)
    (h : (lo ≤ x → x ≤ hi → Y cc mL own d sx (tg x) ls st mem Q) ∧ (¬ (lo ≤ x ∧ x ≤ hi) → Y cc mL own d sx td ls st mem Q)) : Y cc mL own d sx pc ls (vi x :: st) mem Q := by
  intro p l e R s m args below meth c D cA ad A Qs cells slots C H locs la hP hS hL hl hs hm
  have hx : ri x := wfs_h hs
  show W p l e R s m args below meth c H locs cells slots Qs (F0 m pc la (.int (j32 x) :: st.map (cv ad)))
  by_cases hc : lo ≤ x ∧ x ≤ hi
  · have hb : (x - lo).toNat < offs.size := by omega
    have e1 := List.all_eq_true.mp h1 (x - lo).toNat (List.mem_range.mpr hb)
    have e2 := of_decide_eq_true e1
    rw [show lo + ((x - lo).toNat : Int) = x by omega] at e2
    refine lv_tableIn (off := offs.getD (x - lo).toNat 0) (tgt := tg x) C.1.1 C.1.2.1 hd (by rw [t32r hx]; omega) (by rw [t32r hx]; omega) ?_ e2 (h.1 hc.1 hc.2 p l e R s m args below meth c D cA ad A Qs cells slots C H locs la hP hS hL hl (wfs_t hs) hm)
    rw [t32r hx, Array.getElem?_eq_getElem hb]
    simp [Array.getD, hb]
  · exact lv_tableOut C.1.1 C.1.2.1 hd (by rw [t32r hx]; omega) h0 (h.2 hc p l e R s m args below meth c D cA ad A Qs cells slots C H locs la hP hS hL hl (wfs_t hs) hm)
theorem a_lookup {x dflt : Int} {ps : Array (Int × Int)} {len tgt : Nat} (off : Int) (hd : decode cc pc = .ok (.lookupswitch dflt ps, len)) (hp : (ps.toList.zip (ps.toList.drop 1)).all (fun (a, next) => a.1 < next.1) = true) (ho : Op.lookupswitch.offset ps.toList dflt x = off) (ht : (pc : Int) + off = (tgt : Int)) (h : Y cc mL own d sx tgt ls st mem Q) : Y cc mL own d sx pc ls (vi x :: st) mem Q := by
  intro p l e R s m args below meth c D cA ad A Qs cells slots C H locs la hP hS hL hl hs hm
  have hx : ri x := wfs_h hs
  exact lv_lookup C.1.1 C.1.2.1 hd hp (by rw [t32r hx]; exact ho) ht (h p l e R s m args below meth c D cA ad A Qs cells slots C H locs la hP hS hL hl (wfs_t hs) hm)
theorem a_ret {r : Option AV} (hd : decode cc pc = .ok (retI r, 1)) (h : Q r mem) : Y cc mL own d sx pc ls r.toList mem Q := by
  intro p l e R s m args below meth c D cA ad A Qs cells slots C H locs la hP hS hL hl hs hm
  exact C.2.2.2.2.2.2 pc la r mem H locs hd h (fun v e => hs v (by rw [e]; exact List.mem_cons_self)) hm hP hS
theorem a_iret {x : Int} (hd : decode cc pc = .ok (.ireturn, 1)) (h : Q (some (vi x)) mem) : Y cc mL own d sx pc ls [vi x] mem Q := a_ret (r := some (vi x)) hd h
theorem a_lret {x : Int} (hd : decode cc pc = .ok (.lreturn, 1)) (h : Q (some (vl x)) mem) : Y cc mL own d sx pc ls [vl x] mem Q := a_ret (r := some (vl x)) hd h
theorem a_aret {k j : Nat} (hd : decode cc pc = .ok (.areturn, 1)) (h : Q (some (vr k j)) mem) : Y cc mL own d sx pc ls [vr k j] mem Q := a_ret (r := some (vr k j)) hd h
theorem a_vret (hd : decode cc pc = .ok (.return_, 1)) (h : Q none mem) : Y cc mL own d sx pc ls [] mem Q := a_ret (r := none) hd h
end

/-! the constructors -/
theorem ac_int : Cond.arrayClass (newarray.typeOf .int) ∈ TB := TB_of (List.mem_append_right _ (List.mem_of_getElem? (i := 61) (by decide +kernel))) rfl
theorem ac_long : Cond.arrayClass (newarray.typeOf .long) ∈ TB := TB_of (List.mem_append_right _ (List.mem_of_getElem? (i := 377) (by decide +kernel))) rfl
theorem ac_byte : Cond.arrayClass (newarray.typeOf .byte) ∈ TB := TB_of (List.mem_append_right _ (List.mem_of_getElem? (i := 656) (by decide +kernel))) rfl
theorem ac_short : Cond.arrayClass (newarray.typeOf .short) ∈ TB := TB_of (List.mem_append_right _ (List.mem_of_getElem? (i := 1326) (by decide +kernel))) rfl
theorem ao_Scene : AOK "OnOneBreath$Scene" := Or.inl rfl
theorem ao_Shelf : AOK "OnOneBreath$Shelf" := Or.inr rfl
theorem ob_i : Cond.instanceMethod Lib.objectInit ∈ TB := TB_of (List.mem_append_right _ (List.mem_of_getElem? (i := 29) (by decide +kernel))) rfl
theorem ob_c : Cond.code Lib.objectInit ⟨#[0xb1]⟩ 1 none ∈ TB := TB_of (List.mem_append_right _ (List.mem_of_getElem? (i := 30) (by decide +kernel))) rfl
theorem il_X0_1 : Cond.methodLink RX0 1 Lib.objectInit ∈ TB := TB_of (List.mem_append_right _ (List.mem_of_getElem? (i := 305) (by decide +kernel))) rfl
theorem in_X0 : Cond.instantiable RX0 4 ∈ TB := TB_of (List.mem_append_right _ (List.mem_of_getElem? (i := 301) (by decide +kernel))) rfl
theorem id_X0 : Cond.initialized RX0 ∈ TB := TB_of (List.mem_append_right _ (List.mem_of_getElem? (i := 10) (by decide +kernel))) rfl
theorem ii_X0 : Cond.instanceMethod yX0_init ∈ TB := TB_of (List.mem_append_right _ (List.mem_of_getElem? (i := 303) (by decide +kernel))) rfl
theorem ic_X0 : Cond.code yX0_init cX0_init 1 none ∈ TB := TB_of (List.mem_append_right _ (List.mem_of_getElem? (i := 304) (by decide +kernel))) rfl
theorem io_X0 : okName yX0_init 0 := ⟨by decide +kernel, by decide +kernel, by decide +kernel⟩
abbrev fsX0 : List Value := [.null, .null, .int 0, .int 0]
theorem df_X0 : ∀ j, j < 4 → defaultValue (tyX0 j) = vp_V fsX0 j := fun j hj => match j, hj with
  | 0, _ => rfl
  | 1, _ => rfl
  | 2, _ => rfl
  | 3, _ => rfl
  | n + 4, hj => absurd hj (by omega)
theorem il_X1_1 : Cond.methodLink RX1 1 Lib.objectInit ∈ TB := TB_of (List.mem_append_right _ (List.mem_of_getElem? (i := 278) (by decide +kernel))) rfl
theorem in_X1 : Cond.instantiable RX1 6 ∈ TB := TB_of (List.mem_append_right _ (List.mem_of_getElem? (i := 274) (by decide +kernel))) rfl
theorem id_X1 : Cond.initialized RX1 ∈ TB := TB_of (List.mem_append_right _ (List.mem_of_getElem? (i := 9) (by decide +kernel))) rfl
theorem ii_X1 : Cond.instanceMethod yX1_init ∈ TB := TB_of (List.mem_append_right _ (List.mem_of_getElem? (i := 276) (by decide +kernel))) rfl
theorem ic_X1 : Cond.code yX1_init cX1_init 1 none ∈ TB := TB_of (List.mem_append_right _ (List.mem_of_getElem? (i := 277) (by decide +kernel))) rfl
theorem io_X1 : okName yX1_init 0 := ⟨by decide +kernel, by decide +kernel, by decide +kernel⟩
abbrev fsX1 : List Value := [.null, .null, .null, .null, .int 0, .int 0]
theorem df_X1 : ∀ j, j < 6 → defaultValue (tyX1 j) = vp_V fsX1 j := fun j hj => match j, hj with
  | 0, _ => rfl
  | 1, _ => rfl
  | 2, _ => rfl
  | 3, _ => rfl
  | 4, _ => rfl
  | 5, _ => rfl
  | n + 6, hj => absurd hj (by omega)
theorem il_X2_3 : Cond.methodLink RX2 3 Lib.objectInit ∈ TB := TB_of (List.mem_append_right _ (List.mem_of_getElem? (i := 36) (by decide +kernel))) rfl
theorem cl_X2_24 : Cond.classLink RX2 24 RX3 ∈ TB := TB_of (List.mem_append_right _ (List.mem_of_getElem? (i := 37) (by decide +kernel))) rfl
theorem in_X2 : Cond.instantiable RX2 8 ∈ TB := TB_of (List.mem_append_right _ (List.mem_of_getElem? (i := 32) (by decide +kernel))) rfl
theorem id_X2 : Cond.initialized RX2 ∈ TB := TB_of (List.mem_append_right _ (List.mem_of_getElem? (i := 2) (by decide +kernel))) rfl
theorem ii_X2 : Cond.instanceMethod yX2_init ∈ TB := TB_of (List.mem_append_right _ (List.mem_of_getElem? (i := 34) (by decide +kernel))) rfl
theorem ic_X2 : Cond.code yX2_init cX2_init 1 none ∈ TB := TB_of (List.mem_append_right _ (List.mem_of_getElem? (i := 35) (by decide +kernel))) rfl
theorem io_X2 : okName yX2_init 0 := ⟨by decide +kernel, by decide +kernel, by decide +kernel⟩
abbrev fsX2 : List Value := [.null, .null, .null, .null, .int 0, .int 0, .int 0, .null]
theorem df_X2 : ∀ j, j < 8 → defaultValue (tyX2 j) = vp_V fsX2 j := fun j hj => match j, hj with
  | 0, _ => rfl
  | 1, _ => rfl
  | 2, _ => rfl
  | 3, _ => rfl
  | 4, _ => rfl
  | 5, _ => rfl
  | 6, _ => rfl
  | 7, _ => rfl
  | n + 8, hj => absurd hj (by omega)
theorem il_X3_1 : Cond.methodLink RX3 1 Lib.objectInit ∈ TB := TB_of (List.mem_append_right _ (List.mem_of_getElem? (i := 42) (by decide +kernel))) rfl
theorem in_X3 : Cond.instantiable RX3 5 ∈ TB := TB_of (List.mem_append_right _ (List.mem_of_getElem? (i := 38) (by decide +kernel))) rfl
theorem id_X3 : Cond.initialized RX3 ∈ TB := TB_of (List.mem_append_right _ (List.mem_of_getElem? (i := 3) (by decide +kernel))) rfl
theorem ii_X3 : Cond.instanceMethod yX3_init ∈ TB := TB_of (List.mem_append_right _ (List.mem_of_getElem? (i := 40) (by decide +kernel))) rfl
theorem ic_X3 : Cond.code yX3_init cX3_init 1 none ∈ TB := TB_of (List.mem_append_right _ (List.mem_of_getElem? (i := 41) (by decide +kernel))) rfl
theorem io_X3 : okName yX3_init 0 := ⟨by decide +kernel, by decide +kernel, by decide +kernel⟩
abbrev fsX3 : List Value := [.null, .null, .null, .int 0, .int 0]
theorem df_X3 : ∀ j, j < 5 → defaultValue (tyX3 j) = vp_V fsX3 j := fun j hj => match j, hj with
  | 0, _ => rfl
  | 1, _ => rfl
  | 2, _ => rfl
  | 3, _ => rfl
  | 4, _ => rfl
  | n + 5, hj => absurd hj (by omega)
theorem il_X4_1 : Cond.methodLink RX4 1 Lib.objectInit ∈ TB := TB_of (List.mem_append_right _ (List.mem_of_getElem? (i := 330) (by decide +kernel))) rfl
theorem cl_X4_13 : Cond.classLink RX4 13 RX3 ∈ TB := TB_of (List.mem_append_right _ (List.mem_of_getElem? (i := 331) (by decide +kernel))) rfl
theorem in_X4 : Cond.instantiable RX4 5 ∈ TB := TB_of (List.mem_append_right _ (List.mem_of_getElem? (i := 326) (by decide +kernel))) rfl
theorem id_X4 : Cond.initialized RX4 ∈ TB := TB_of (List.mem_append_right _ (List.mem_of_getElem? (i := 11) (by decide +kernel))) rfl
theorem ii_X4 : Cond.instanceMethod yX4_init ∈ TB := TB_of (List.mem_append_right _ (List.mem_of_getElem? (i := 328) (by decide +kernel))) rfl
theorem ic_X4 : Cond.code yX4_init cX4_init 1 none ∈ TB := TB_of (List.mem_append_right _ (List.mem_of_getElem? (i := 329) (by decide +kernel))) rfl
theorem io_X4 : okName yX4_init 0 := ⟨by decide +kernel, by decide +kernel, by decide +kernel⟩
abbrev fsX4 : List Value := [.null, .int 0, .int 0, .int 0, .null]
theorem df_X4 : ∀ j, j < 5 → defaultValue (tyX4 j) = vp_V fsX4 j := fun j hj => match j, hj with
  | 0, _ => rfl
  | 1, _ => rfl
  | 2, _ => rfl
  | 3, _ => rfl
  | 4, _ => rfl
  | n + 5, hj => absurd hj (by omega)
theorem il_X5_3 : Cond.methodLink RX5 3 Lib.objectInit ∈ TB := TB_of (List.mem_append_right _ (List.mem_of_getElem? (i := 255) (by decide +kernel))) rfl
theorem in_X5 : Cond.instantiable RX5 5 ∈ TB := TB_of (List.mem_append_right _ (List.mem_of_getElem? (i := 251) (by decide +kernel))) rfl
theorem id_X5 : Cond.initialized RX5 ∈ TB := TB_of (List.mem_append_right _ (List.mem_of_getElem? (i := 8) (by decide +kernel))) rfl
theorem ii_X5 : Cond.instanceMethod yX5_init ∈ TB := TB_of (List.mem_append_right _ (List.mem_of_getElem? (i := 253) (by decide +kernel))) rfl
theorem ic_X5 : Cond.code yX5_init cX5_init 1 none ∈ TB := TB_of (List.mem_append_right _ (List.mem_of_getElem? (i := 254) (by decide +kernel))) rfl
theorem io_X5 : okName yX5_init 0 := ⟨by decide +kernel, by decide +kernel, by decide +kernel⟩
abbrev fsX5 : List Value := [.null, .null, .int 0, .int 0, .int 0]
theorem df_X5 : ∀ j, j < 5 → defaultValue (tyX5 j) = vp_V fsX5 j := fun j hj => match j, hj with
  | 0, _ => rfl
  | 1, _ => rfl
  | 2, _ => rfl
  | 3, _ => rfl
  | 4, _ => rfl
  | n + 5, hj => absurd hj (by omega)
theorem il_X6_5 : Cond.methodLink RX6 5 Lib.objectInit ∈ TB := TB_of (List.mem_append_right _ (List.mem_of_getElem? (i := 213) (by decide +kernel))) rfl
theorem in_X6 : Cond.instantiable RX6 4 ∈ TB := TB_of (List.mem_append_right _ (List.mem_of_getElem? (i := 209) (by decide +kernel))) rfl
theorem id_X6 : Cond.initialized RX6 ∈ TB := TB_of (List.mem_append_right _ (List.mem_of_getElem? (i := 6) (by decide +kernel))) rfl
theorem ii_X6 : Cond.instanceMethod yX6_init ∈ TB := TB_of (List.mem_append_right _ (List.mem_of_getElem? (i := 211) (by decide +kernel))) rfl
theorem ic_X6 : Cond.code yX6_init cX6_init 1 none ∈ TB := TB_of (List.mem_append_right _ (List.mem_of_getElem? (i := 212) (by decide +kernel))) rfl
theorem io_X6 : okName yX6_init 0 := ⟨by decide +kernel, by decide +kernel, by decide +kernel⟩
abbrev fsX6 : List Value := [.null, .null, .int 0, .int 0]
theorem df_X6 : ∀ j, j < 4 → defaultValue (tyX6 j) = vp_V fsX6 j := fun j hj => match j, hj with
  | 0, _ => rfl
  | 1, _ => rfl
  | 2, _ => rfl
  | 3, _ => rfl
  | n + 4, hj => absurd hj (by omega)
theorem il_X7_3 : Cond.methodLink RX7 3 Lib.objectInit ∈ TB := TB_of (List.mem_append_right _ (List.mem_of_getElem? (i := 105) (by decide +kernel))) rfl
theorem in_X7 : Cond.instantiable RX7 14 ∈ TB := TB_of (List.mem_append_right _ (List.mem_of_getElem? (i := 101) (by decide +kernel))) rfl
theorem id_X7 : Cond.initialized RX7 ∈ TB := TB_of (List.mem_append_right _ (List.mem_of_getElem? (i := 4) (by decide +kernel))) rfl
theorem ii_X7 : Cond.instanceMethod yX7_init ∈ TB := TB_of (List.mem_append_right _ (List.mem_of_getElem? (i := 103) (by decide +kernel))) rfl
theorem ic_X7 : Cond.code yX7_init cX7_init 1 none ∈ TB := TB_of (List.mem_append_right _ (List.mem_of_getElem? (i := 104) (by decide +kernel))) rfl
theorem io_X7 : okName yX7_init 0 := ⟨by decide +kernel, by decide +kernel, by decide +kernel⟩
abbrev fsX7 : List Value := [.null, .null, .null, .int 0, .int 0, .int 0, .int 0, .int 0, .int 0, .int 0, .int 0, .int 0, .int 0, .int 0]
theorem df_X7 : ∀ j, j < 14 → defaultValue (tyX7 j) = vp_V fsX7 j := fun j hj => match j, hj with
  | 0, _ => rfl
  | 1, _ => rfl
  | 2, _ => rfl
  | 3, _ => rfl
  | 4, _ => rfl
  | 5, _ => rfl
  | 6, _ => rfl
  | 7, _ => rfl
  | 8, _ => rfl
  | 9, _ => rfl
  | 10, _ => rfl
  | 11, _ => rfl
  | 12, _ => rfl
  | 13, _ => rfl
  | n + 14, hj => absurd hj (by omega)
theorem il_X8_3 : Cond.methodLink RX8 3 Lib.objectInit ∈ TB := TB_of (List.mem_append_right _ (List.mem_of_getElem? (i := 174) (by decide +kernel))) rfl
theorem cl_X8_9 : Cond.classLink RX8 9 RX7 ∈ TB := TB_of (List.mem_append_right _ (List.mem_of_getElem? (i := 175) (by decide +kernel))) rfl
theorem in_X8 : Cond.instantiable RX8 9 ∈ TB := TB_of (List.mem_append_right _ (List.mem_of_getElem? (i := 170) (by decide +kernel))) rfl
theorem id_X8 : Cond.initialized RX8 ∈ TB := TB_of (List.mem_append_right _ (List.mem_of_getElem? (i := 5) (by decide +kernel))) rfl
theorem ii_X8 : Cond.instanceMethod yX8_init ∈ TB := TB_of (List.mem_append_right _ (List.mem_of_getElem? (i := 172) (by decide +kernel))) rfl
theorem ic_X8 : Cond.code yX8_init cX8_init 2 none ∈ TB := TB_of (List.mem_append_right _ (List.mem_of_getElem? (i := 173) (by decide +kernel))) rfl
theorem io_X8 : okName yX8_init 0 := ⟨by decide +kernel, by decide +kernel, by decide +kernel⟩
abbrev fsX8 : List Value := [.null, .null, .null, .int 0, .int 0, .int 0, .int 0, .int 0, .int 0]
theorem df_X8 : ∀ j, j < 9 → defaultValue (tyX8 j) = vp_V fsX8 j := fun j hj => match j, hj with
  | 0, _ => rfl
  | 1, _ => rfl
  | 2, _ => rfl
  | 3, _ => rfl
  | 4, _ => rfl
  | 5, _ => rfl
  | 6, _ => rfl
  | 7, _ => rfl
  | 8, _ => rfl
  | n + 9, hj => absurd hj (by omega)
theorem il_X9_3 : Cond.methodLink RX9 3 Lib.objectInit ∈ TB := TB_of (List.mem_append_right _ (List.mem_of_getElem? (i := 234) (by decide +kernel))) rfl
theorem in_X9 : Cond.instantiable RX9 4 ∈ TB := TB_of (List.mem_append_right _ (List.mem_of_getElem? (i := 230) (by decide +kernel))) rfl
theorem id_X9 : Cond.initialized RX9 ∈ TB := TB_of (List.mem_append_right _ (List.mem_of_getElem? (i := 7) (by decide +kernel))) rfl
theorem ii_X9 : Cond.instanceMethod yX9_init ∈ TB := TB_of (List.mem_append_right _ (List.mem_of_getElem? (i := 232) (by decide +kernel))) rfl
theorem ic_X9 : Cond.code yX9_init cX9_init 1 none ∈ TB := TB_of (List.mem_append_right _ (List.mem_of_getElem? (i := 233) (by decide +kernel))) rfl
theorem io_X9 : okName yX9_init 0 := ⟨by decide +kernel, by decide +kernel, by decide +kernel⟩
abbrev fsX9 : List Value := [.null, .null, .null, .null]
theorem df_X9 : ∀ j, j < 4 → defaultValue (tyX9 j) = vp_V fsX9 j := fun j hj => match j, hj with
  | 0, _ => rfl
  | 1, _ => rfl
  | 2, _ => rfl
  | 3, _ => rfl
  | n + 4, hj => absurd hj (by omega)
theorem il_X10_3 : Cond.methodLink RX10 3 Lib.objectInit ∈ TB := TB_of (List.mem_append_right _ (List.mem_of_getElem? (i := 355) (by decide +kernel))) rfl
theorem in_X10 : Cond.instantiable RX10 5 ∈ TB := TB_of (List.mem_append_right _ (List.mem_of_getElem? (i := 351) (by decide +kernel))) rfl
theorem id_X10 : Cond.initialized RX10 ∈ TB := TB_of (List.mem_append_right _ (List.mem_of_getElem? (i := 12) (by decide +kernel))) rfl
theorem ii_X10 : Cond.instanceMethod yX10_init ∈ TB := TB_of (List.mem_append_right _ (List.mem_of_getElem? (i := 353) (by decide +kernel))) rfl
theorem ic_X10 : Cond.code yX10_init cX10_init 1 none ∈ TB := TB_of (List.mem_append_right _ (List.mem_of_getElem? (i := 354) (by decide +kernel))) rfl
theorem io_X10 : okName yX10_init 0 := ⟨by decide +kernel, by decide +kernel, by decide +kernel⟩
abbrev fsX10 : List Value := [.null, .int 0, .int 0, .int 0, .int 0]
theorem df_X10 : ∀ j, j < 5 → defaultValue (tyX10 j) = vp_V fsX10 j := fun j hj => match j, hj with
  | 0, _ => rfl
  | 1, _ => rfl
  | 2, _ => rfl
  | 3, _ => rfl
  | 4, _ => rfl
  | n + 5, hj => absurd hj (by omega)
theorem il_X11_1 : Cond.methodLink RX11 1 Lib.objectInit ∈ TB := TB_of (List.mem_append_right _ (List.mem_of_getElem? (i := 28) (by decide +kernel))) rfl
theorem cl_X11_7 : Cond.classLink RX11 7 RX2 ∈ TB := TB_of (List.mem_append_right _ (List.mem_of_getElem? (i := 31) (by decide +kernel))) rfl
theorem cl_X11_16 : Cond.classLink RX11 16 RX7 ∈ TB := TB_of (List.mem_append_right _ (List.mem_of_getElem? (i := 100) (by decide +kernel))) rfl
theorem cl_X11_23 : Cond.classLink RX11 23 RX8 ∈ TB := TB_of (List.mem_append_right _ (List.mem_of_getElem? (i := 169) (by decide +kernel))) rfl
theorem il_X11_25 : Cond.methodLink RX11 25 yX8_init ∈ TB := TB_of (List.mem_append_right _ (List.mem_of_getElem? (i := 171) (by decide +kernel))) rfl
theorem cl_X11_30 : Cond.classLink RX11 30 RX6 ∈ TB := TB_of (List.mem_append_right _ (List.mem_of_getElem? (i := 208) (by decide +kernel))) rfl
theorem cl_X11_37 : Cond.classLink RX11 37 RX9 ∈ TB := TB_of (List.mem_append_right _ (List.mem_of_getElem? (i := 229) (by decide +kernel))) rfl
theorem cl_X11_44 : Cond.classLink RX11 44 RX5 ∈ TB := TB_of (List.mem_append_right _ (List.mem_of_getElem? (i := 250) (by decide +kernel))) rfl
theorem cl_X11_51 : Cond.classLink RX11 51 RX1 ∈ TB := TB_of (List.mem_append_right _ (List.mem_of_getElem? (i := 273) (by decide +kernel))) rfl
theorem cl_X11_58 : Cond.classLink RX11 58 RX0 ∈ TB := TB_of (List.mem_append_right _ (List.mem_of_getElem? (i := 300) (by decide +kernel))) rfl
theorem cl_X11_65 : Cond.classLink RX11 65 RX10 ∈ TB := TB_of (List.mem_append_right _ (List.mem_of_getElem? (i := 323) (by decide +kernel))) rfl
theorem cl_X11_71 : Cond.classLink RX11 71 RX4 ∈ TB := TB_of (List.mem_append_right _ (List.mem_of_getElem? (i := 325) (by decide +kernel))) rfl
theorem in_X11 : Cond.instantiable RX11 10 ∈ TB := TB_of (List.mem_append_right _ (List.mem_of_getElem? (i := 24) (by decide +kernel))) rfl
theorem id_X11 : Cond.initialized RX11 ∈ TB := TB_of (List.mem_append_right _ (List.mem_of_getElem? (i := 1) (by decide +kernel))) rfl
theorem ii_X11 : Cond.instanceMethod yX11_init ∈ TB := TB_of (List.mem_append_right _ (List.mem_of_getElem? (i := 26) (by decide +kernel))) rfl
theorem ic_X11 : Cond.code yX11_init cX11_init 2 none ∈ TB := TB_of (List.mem_append_right _ (List.mem_of_getElem? (i := 27) (by decide +kernel))) rfl
theorem io_X11 : okName yX11_init 0 := ⟨by decide +kernel, by decide +kernel, by decide +kernel⟩
abbrev fsX11 : List Value := [.null, .null, .null, .null, .null, .null, .null, .null, .null, .null]
theorem df_X11 : ∀ j, j < 10 → defaultValue (tyX11 j) = vp_V fsX11 j := fun j hj => match j, hj with
  | 0, _ => rfl
  | 1, _ => rfl
  | 2, _ => rfl
  | 3, _ => rfl
  | 4, _ => rfl
  | 5, _ => rfl
  | 6, _ => rfl
  | 7, _ => rfl
  | 8, _ => rfl
  | 9, _ => rfl
  | n + 10, hj => absurd hj (by omega)
theorem il_X12_1 : Cond.methodLink RX12 1 Lib.objectInit ∈ TB := TB_of (List.mem_append_right _ (List.mem_of_getElem? (i := 1136) (by decide +kernel))) rfl
theorem in_X12 : Cond.instantiable RX12 63 ∈ TB := TB_of (List.mem_append_right _ (List.mem_of_getElem? (i := 1132) (by decide +kernel))) rfl
theorem id_X12 : Cond.initialized RX12 ∈ TB := TB_of (List.mem_append_right _ (List.mem_of_getElem? (i := 13) (by decide +kernel))) rfl
theorem ii_X12 : Cond.instanceMethod yX12_init ∈ TB := TB_of (List.mem_append_right _ (List.mem_of_getElem? (i := 1134) (by decide +kernel))) rfl
theorem ic_X12 : Cond.code yX12_init cX12_init 1 none ∈ TB := TB_of (List.mem_append_right _ (List.mem_of_getElem? (i := 1135) (by decide +kernel))) rfl
theorem io_X12 : okName yX12_init 0 := ⟨by decide +kernel, by decide +kernel, by decide +kernel⟩
abbrev fsX12 : List Value := [.int 0, .int 0, .null, .null, .null, .null, .null, .int 0, .int 0, .null, .null, .null, .null, .null, .int 0, .int 0, .int 0, .int 0, .int 0, .null, .null, .null, .null, .null, .null, .null, .int 0, .null, .null, .int 0, .int 0, .int 0, .int 0, .int 0, .int 0, .int 0, .int 0, .null, .null, .int 0, .int 0, .int 0, .null, .null, .int 0, .null, .null, .null, .null, .int 0, .null, .int 0, .int 0, .null, .null, .int 0, .null, .int 0, .null, .null, .null, .null, .null]
theorem df_X12 : ∀ j, j < 63 → defaultValue (tyX12 j) = vp_V fsX12 j := fun j hj => match j, hj with
  | 0, _ => rfl
  | 1, _ => rfl
  | 2, _ => rfl
  | 3, _ => rfl
  | 4, _ => rfl
  | 5, _ => rfl
  | 6, _ => rfl
  | 7, _ => rfl
  | 8, _ => rfl
  | 9, _ => rfl
  | 10, _ => rfl
  | 11, _ => rfl
  | 12, _ => rfl
  | 13, _ => rfl
  | 14, _ => rfl
  | 15, _ => rfl
  | 16, _ => rfl
  | 17, _ => rfl
  | 18, _ => rfl
  | 19, _ => rfl
  | 20, _ => rfl
  | 21, _ => rfl
  | 22, _ => rfl
  | 23, _ => rfl
  | 24, _ => rfl
  | 25, _ => rfl
  | 26, _ => rfl
  | 27, _ => rfl
  | 28, _ => rfl
  | 29, _ => rfl
  | 30, _ => rfl
  | 31, _ => rfl
  | 32, _ => rfl
  | 33, _ => rfl
  | 34, _ => rfl
  | 35, _ => rfl
  | 36, _ => rfl
  | 37, _ => rfl
  | 38, _ => rfl
  | 39, _ => rfl
  | 40, _ => rfl
  | 41, _ => rfl
  | 42, _ => rfl
  | 43, _ => rfl
  | 44, _ => rfl
  | 45, _ => rfl
  | 46, _ => rfl
  | 47, _ => rfl
  | 48, _ => rfl
  | 49, _ => rfl
  | 50, _ => rfl
  | 51, _ => rfl
  | 52, _ => rfl
  | 53, _ => rfl
  | 54, _ => rfl
  | 55, _ => rfl
  | 56, _ => rfl
  | 57, _ => rfl
  | 58, _ => rfl
  | 59, _ => rfl
  | 60, _ => rfl
  | 61, _ => rfl
  | 62, _ => rfl
  | n + 63, hj => absurd hj (by omega)
def bX0 (cA : ZCA) (h0 : Nat) (ws : va_W) (ts : List FieldType) : Prop := ∃ q0 q1 : Nat, ws = [(h0, .inr (0, [.ref q0, .ref q1, .int 0, .int 0])), (q0, .inl (cA .int, 50, .inl fun _ => 0)), (q1, .inl (cA .int, 24, .inl fun _ => 0))] ∧ ts = [.int, .int]
set_option maxRecDepth 100000 in
set_option maxHeartbeats 4000000 in
theorem mk_X0 {cA : ZCA} : MtI yX0_init cX0_init 1 1 2 74 0 fsX0 cA (bX0 cA) := by
  refine Zb_met (by decide) rfl (by decide) fun h0 => ?_
  refine zb_aload 0 dX0_init_0 rfl rfl ?_
  refine zb_obj il_X0_1 ob_i ob_c (Nat.le_of_ble_eq_true rfl) dX0_init_1 ?_
  refine zb_aload 0 dX0_init_4 rfl rfl ?_
  refine zb_bipush (v := (50 : Int32)) dX0_init_5 (by decide +kernel) ?_
  refine zb_newa (atype := .int) (ty := .int) (N' := 50) (a0 := (50, .inl fun _ => 0)) ac_int rfl (fun _ => rfl) (by decide) (by decide +kernel) (Nat.le_of_ble_eq_true rfl) (Nat.le_of_ble_eq_true rfl) (Nat.le_of_ble_eq_true rfl) dX0_init_7 fun q0 => ?_
  refine Zb_ws (ws2 := [(h0, .inr (0, [.null, .null, .int 0, .int 0])), (q0, .inl (cA .int, 50, .inl fun _ => 0))]) (ts2 := [.int]) rfl rfl ?_
  refine zb_putF (ci := 0) (T := TX0) (N := 4) (ty := .array .int) rfl tbX0 tyX0_ok nmX0 0 rfl 0 (by decide) fl_X0_9 rfl rfl (by decide +kernel) rfl rfl (Nat.le_of_ble_eq_true rfl) dX0_init_9 ?_
  refine Zb_ws (ws2 := [(h0, .inr (0, [.ref q0, .null, .int 0, .int 0])), (q0, .inl (cA .int, 50, .inl fun _ => 0))]) (ts2 := [.int]) rfl rfl ?_
  refine zb_aload 0 dX0_init_12 rfl rfl ?_
  refine zb_bipush (v := (24 : Int32)) dX0_init_13 (by decide +kernel) ?_
  refine zb_newa (atype := .int) (ty := .int) (N' := 24) (a0 := (24, .inl fun _ => 0)) ac_int rfl (fun _ => rfl) (by decide) (by decide +kernel) (Nat.le_of_ble_eq_true rfl) (Nat.le_of_ble_eq_true rfl) (Nat.le_of_ble_eq_true rfl) dX0_init_15 fun q1 => ?_
  refine Zb_ws (ws2 := [(h0, .inr (0, [.ref q0, .null, .int 0, .int 0])), (q0, .inl (cA .int, 50, .inl fun _ => 0)), (q1, .inl (cA .int, 24, .inl fun _ => 0))]) (ts2 := [.int, .int]) rfl rfl ?_
  refine zb_putF (ci := 0) (T := TX0) (N := 4) (ty := .array .int) rfl tbX0 tyX0_ok nmX0 0 rfl 1 (by decide) fl_X0_13 rfl rfl (by decide +kernel) rfl rfl (Nat.le_of_ble_eq_true rfl) dX0_init_17 ?_
  refine Zb_ws (ws2 := [(h0, .inr (0, [.ref q0, .ref q1, .int 0, .int 0])), (q0, .inl (cA .int, 50, .inl fun _ => 0)), (q1, .inl (cA .int, 24, .inl fun _ => 0))]) (ts2 := [.int, .int]) rfl rfl ?_
  exact zb_ret dX0_init_20 (Nat.le_of_ble_eq_true rfl) (Nat.le_of_ble_eq_true rfl) ⟨q0, q1, rfl, rfl⟩
def bX1 (cA : ZCA) (h0 : Nat) (ws : va_W) (ts : List FieldType) : Prop := ∃ q0 q1 q2 q3 : Nat, ws = [(h0, .inr (1, [.ref q0, .ref q1, .ref q2, .ref q3, .int 0, .int 0])), (q0, .inl (cA .int, 40, .inl fun _ => 0)), (q1, .inl (cA .int, 40, .inl fun _ => 0)), (q2, .inl (cA .int, 40, .inl fun _ => 0)), (q3, .inl (cA .int, 40, .inl fun _ => 0))] ∧ ts = [.int, .int, .int, .int]
set_option maxRecDepth 100000 in
set_option maxHeartbeats 4000000 in
theorem mk_X1 {cA : ZCA} : MtI yX1_init cX1_init 1 1 4 160 1 fsX1 cA (bX1 cA) := by
  refine Zb_met (by decide) rfl (by decide) fun h0 => ?_
  refine zb_aload 0 dX1_init_0 rfl rfl ?_
  refine zb_obj il_X1_1 ob_i ob_c (Nat.le_of_ble_eq_true rfl) dX1_init_1 ?_
  refine zb_aload 0 dX1_init_4 rfl rfl ?_
  refine zb_bipush (v := (40 : Int32)) dX1_init_5 (by decide +kernel) ?_
  refine zb_newa (atype := .int) (ty := .int) (N' := 40) (a0 := (40, .inl fun _ => 0)) ac_int rfl (fun _ => rfl) (by decide) (by decide +kernel) (Nat.le_of_ble_eq_true rfl) (Nat.le_of_ble_eq_true rfl) (Nat.le_of_ble_eq_true rfl) dX1_init_7 fun q0 => ?_
  refine Zb_ws (ws2 := [(h0, .inr (1, [.null, .null, .null, .null, .int 0, .int 0])), (q0, .inl (cA .int, 40, .inl fun _ => 0))]) (ts2 := [.int]) rfl rfl ?_
  refine zb_putF (ci := 1) (T := TX1) (N := 6) (ty := .array .int) rfl tbX1 tyX1_ok nmX1 0 rfl 0 (by decide) fl_X1_9 rfl rfl (by decide +kernel) rfl rfl (Nat.le_of_ble_eq_true rfl) dX1_init_9 ?_
  refine Zb_ws (ws2 := [(h0, .inr (1, [.ref q0, .null, .null, .null, .int 0, .int 0])), (q0, .inl (cA .int, 40, .inl fun _ => 0))]) (ts2 := [.int]) rfl rfl ?_
  refine zb_aload 0 dX1_init_12 rfl rfl ?_
  refine zb_bipush (v := (40 : Int32)) dX1_init_13 (by decide +kernel) ?_
  refine zb_newa (atype := .int) (ty := .int) (N' := 40) (a0 := (40, .inl fun _ => 0)) ac_int rfl (fun _ => rfl) (by decide) (by decide +kernel) (Nat.le_of_ble_eq_true rfl) (Nat.le_of_ble_eq_true rfl) (Nat.le_of_ble_eq_true rfl) dX1_init_15 fun q1 => ?_
  refine Zb_ws (ws2 := [(h0, .inr (1, [.ref q0, .null, .null, .null, .int 0, .int 0])), (q0, .inl (cA .int, 40, .inl fun _ => 0)), (q1, .inl (cA .int, 40, .inl fun _ => 0))]) (ts2 := [.int, .int]) rfl rfl ?_
  refine zb_putF (ci := 1) (T := TX1) (N := 6) (ty := .array .int) rfl tbX1 tyX1_ok nmX1 0 rfl 1 (by decide) fl_X1_13 rfl rfl (by decide +kernel) rfl rfl (Nat.le_of_ble_eq_true rfl) dX1_init_17 ?_
  refine Zb_ws (ws2 := [(h0, .inr (1, [.ref q0, .ref q1, .null, .null, .int 0, .int 0])), (q0, .inl (cA .int, 40, .inl fun _ => 0)), (q1, .inl (cA .int, 40, .inl fun _ => 0))]) (ts2 := [.int, .int]) rfl rfl ?_
  refine zb_aload 0 dX1_init_20 rfl rfl ?_
  refine zb_bipush (v := (40 : Int32)) dX1_init_21 (by decide +kernel) ?_
  refine zb_newa (atype := .int) (ty := .int) (N' := 40) (a0 := (40, .inl fun _ => 0)) ac_int rfl (fun _ => rfl) (by decide) (by decide +kernel) (Nat.le_of_ble_eq_true rfl) (Nat.le_of_ble_eq_true rfl) (Nat.le_of_ble_eq_true rfl) dX1_init_23 fun q2 => ?_
  refine Zb_ws (ws2 := [(h0, .inr (1, [.ref q0, .ref q1, .null, .null, .int 0, .int 0])), (q0, .inl (cA .int, 40, .inl fun _ => 0)), (q1, .inl (cA .int, 40, .inl fun _ => 0)), (q2, .inl (cA .int, 40, .inl fun _ => 0))]) (ts2 := [.int, .int, .int]) rfl rfl ?_
  refine zb_putF (ci := 1) (T := TX1) (N := 6) (ty := .array .int) rfl tbX1 tyX1_ok nmX1 0 rfl 2 (by decide) fl_X1_16 rfl rfl (by decide +kernel) rfl rfl (Nat.le_of_ble_eq_true rfl) dX1_init_25 ?_
  refine Zb_ws (ws2 := [(h0, .inr (1, [.ref q0, .ref q1, .ref q2, .null, .int 0, .int 0])), (q0, .inl (cA .int, 40, .inl fun _ => 0)), (q1, .inl (cA .int, 40, .inl fun _ => 0)), (q2, .inl (cA .int, 40, .inl fun _ => 0))]) (ts2 := [.int, .int, .int]) rfl rfl ?_
  refine zb_aload 0 dX1_init_28 rfl rfl ?_
  refine zb_bipush (v := (40 : Int32)) dX1_init_29 (by decide +kernel) ?_
  refine zb_newa (atype := .int) (ty := .int) (N' := 40) (a0 := (40, .inl fun _ => 0)) ac_int rfl (fun _ => rfl) (by decide) (by decide +kernel) (Nat.le_of_ble_eq_true rfl) (Nat.le_of_ble_eq_true rfl) (Nat.le_of_ble_eq_true rfl) dX1_init_31 fun q3 => ?_
  refine Zb_ws (ws2 := [(h0, .inr (1, [.ref q0, .ref q1, .ref q2, .null, .int 0, .int 0])), (q0, .inl (cA .int, 40, .inl fun _ => 0)), (q1, .inl (cA .int, 40, .inl fun _ => 0)), (q2, .inl (cA .int, 40, .inl fun _ => 0)), (q3, .inl (cA .int, 40, .inl fun _ => 0))]) (ts2 := [.int, .int, .int, .int]) rfl rfl ?_
  refine zb_putF (ci := 1) (T := TX1) (N := 6) (ty := .array .int) rfl tbX1 tyX1_ok nmX1 0 rfl 3 (by decide) fl_X1_19 rfl rfl (by decide +kernel) rfl rfl (Nat.le_of_ble_eq_true rfl) dX1_init_33 ?_
  refine Zb_ws (ws2 := [(h0, .inr (1, [.ref q0, .ref q1, .ref q2, .ref q3, .int 0, .int 0])), (q0, .inl (cA .int, 40, .inl fun _ => 0)), (q1, .inl (cA .int, 40, .inl fun _ => 0)), (q2, .inl (cA .int, 40, .inl fun _ => 0)), (q3, .inl (cA .int, 40, .inl fun _ => 0))]) (ts2 := [.int, .int, .int, .int]) rfl rfl ?_
  exact zb_ret dX1_init_36 (Nat.le_of_ble_eq_true rfl) (Nat.le_of_ble_eq_true rfl) ⟨q0, q1, q2, q3, rfl, rfl⟩
def bX3 (cA : ZCA) (h0 : Nat) (ws : va_W) (ts : List FieldType) : Prop := ∃ q0 q1 q2 : Nat, ws = [(h0, .inr (3, [.ref q0, .ref q1, .ref q2, .int 0, .int 0])), (q0, .inl (cA .int, 128, .inl fun _ => 0)), (q1, .inl (cA .int, 128, .inl fun _ => 0)), (q2, .inl (cA .int, 128, .inl fun _ => 0))] ∧ ts = [.int, .int, .int]
set_option maxRecDepth 100000 in
set_option maxHeartbeats 4000000 in
theorem mk_X3 {cA : ZCA} : MtI yX3_init cX3_init 1 1 3 384 3 fsX3 cA (bX3 cA) := by
  refine Zb_met (by decide) rfl (by decide) fun h0 => ?_
  refine zb_aload 0 dX3_init_0 rfl rfl ?_
  refine zb_obj il_X3_1 ob_i ob_c (Nat.le_of_ble_eq_true rfl) dX3_init_1 ?_
  refine zb_aload 0 dX3_init_4 rfl rfl ?_
  refine zb_sipush (v := (128 : Int32)) dX3_init_5 (by decide +kernel) ?_
  refine zb_newa (atype := .int) (ty := .int) (N' := 128) (a0 := (128, .inl fun _ => 0)) ac_int rfl (fun _ => rfl) (by decide) (by decide +kernel) (Nat.le_of_ble_eq_true rfl) (Nat.le_of_ble_eq_true rfl) (Nat.le_of_ble_eq_true rfl) dX3_init_8 fun q0 => ?_
  refine Zb_ws (ws2 := [(h0, .inr (3, [.null, .null, .null, .int 0, .int 0])), (q0, .inl (cA .int, 128, .inl fun _ => 0))]) (ts2 := [.int]) rfl rfl ?_
  refine zb_putF (ci := 3) (T := TX3) (N := 5) (ty := .array .int) rfl tbX3 tyX3_ok nmX3 0 rfl 0 (by decide) fl_X3_9 rfl rfl (by decide +kernel) rfl rfl (Nat.le_of_ble_eq_true rfl) dX3_init_10 ?_
  refine Zb_ws (ws2 := [(h0, .inr (3, [.ref q0, .null, .null, .int 0, .int 0])), (q0, .inl (cA .int, 128, .inl fun _ => 0))]) (ts2 := [.int]) rfl rfl ?_
  refine zb_aload 0 dX3_init_13 rfl rfl ?_
  refine zb_sipush (v := (128 : Int32)) dX3_init_14 (by decide +kernel) ?_
  refine zb_newa (atype := .int) (ty := .int) (N' := 128) (a0 := (128, .inl fun _ => 0)) ac_int rfl (fun _ => rfl) (by decide) (by decide +kernel) (Nat.le_of_ble_eq_true rfl) (Nat.le_of_ble_eq_true rfl) (Nat.le_of_ble_eq_true rfl) dX3_init_17 fun q1 => ?_
  refine Zb_ws (ws2 := [(h0, .inr (3, [.ref q0, .null, .null, .int 0, .int 0])), (q0, .inl (cA .int, 128, .inl fun _ => 0)), (q1, .inl (cA .int, 128, .inl fun _ => 0))]) (ts2 := [.int, .int]) rfl rfl ?_
  refine zb_putF (ci := 3) (T := TX3) (N := 5) (ty := .array .int) rfl tbX3 tyX3_ok nmX3 0 rfl 1 (by decide) fl_X3_13 rfl rfl (by decide +kernel) rfl rfl (Nat.le_of_ble_eq_true rfl) dX3_init_19 ?_
  refine Zb_ws (ws2 := [(h0, .inr (3, [.ref q0, .ref q1, .null, .int 0, .int 0])), (q0, .inl (cA .int, 128, .inl fun _ => 0)), (q1, .inl (cA .int, 128, .inl fun _ => 0))]) (ts2 := [.int, .int]) rfl rfl ?_
  refine zb_aload 0 dX3_init_22 rfl rfl ?_
  refine zb_sipush (v := (128 : Int32)) dX3_init_23 (by decide +kernel) ?_
  refine zb_newa (atype := .int) (ty := .int) (N' := 128) (a0 := (128, .inl fun _ => 0)) ac_int rfl (fun _ => rfl) (by decide) (by decide +kernel) (Nat.le_of_ble_eq_true rfl) (Nat.le_of_ble_eq_true rfl) (Nat.le_of_ble_eq_true rfl) dX3_init_26 fun q2 => ?_
  refine Zb_ws (ws2 := [(h0, .inr (3, [.ref q0, .ref q1, .null, .int 0, .int 0])), (q0, .inl (cA .int, 128, .inl fun _ => 0)), (q1, .inl (cA .int, 128, .inl fun _ => 0)), (q2, .inl (cA .int, 128, .inl fun _ => 0))]) (ts2 := [.int, .int, .int]) rfl rfl ?_
  refine zb_putF (ci := 3) (T := TX3) (N := 5) (ty := .array .int) rfl tbX3 tyX3_ok nmX3 0 rfl 2 (by decide) fl_X3_16 rfl rfl (by decide +kernel) rfl rfl (Nat.le_of_ble_eq_true rfl) dX3_init_28 ?_
  refine Zb_ws (ws2 := [(h0, .inr (3, [.ref q0, .ref q1, .ref q2, .int 0, .int 0])), (q0, .inl (cA .int, 128, .inl fun _ => 0)), (q1, .inl (cA .int, 128, .inl fun _ => 0)), (q2, .inl (cA .int, 128, .inl fun _ => 0))]) (ts2 := [.int, .int, .int]) rfl rfl ?_
  exact zb_ret dX3_init_31 (Nat.le_of_ble_eq_true rfl) (Nat.le_of_ble_eq_true rfl) ⟨q0, q1, q2, rfl, rfl⟩
def bX4 (cA : ZCA) (h0 : Nat) (ws : va_W) (ts : List FieldType) : Prop := ∃ q0 q1 q2 q3 q4 : Nat, ws = [(h0, .inr (4, [.ref q0, .int 0, .int 0, .int 0, .ref q1])), (q0, .inl (cA .int, 120, .inl fun _ => 0)), (q1, .inr (3, [.ref q2, .ref q3, .ref q4, .int 0, .int 0])), (q2, .inl (cA .int, 128, .inl fun _ => 0)), (q3, .inl (cA .int, 128, .inl fun _ => 0)), (q4, .inl (cA .int, 128, .inl fun _ => 0))] ∧ ts = [.int, .int, .int, .int]
set_option maxRecDepth 100000 in
set_option maxHeartbeats 4000000 in
theorem mk_X4 {cA : ZCA} : MtI yX4_init cX4_init 1 2 5 509 4 fsX4 cA (bX4 cA) := by
  refine Zb_met (by decide) rfl (by decide) fun h0 => ?_
  refine zb_aload 0 dX4_init_0 rfl rfl ?_
  refine zb_obj il_X4_1 ob_i ob_c (Nat.le_of_ble_eq_true rfl) dX4_init_1 ?_
  refine zb_aload 0 dX4_init_4 rfl rfl ?_
  refine zb_bipush (v := (120 : Int32)) dX4_init_5 (by decide +kernel) ?_
  refine zb_newa (atype := .int) (ty := .int) (N' := 120) (a0 := (120, .inl fun _ => 0)) ac_int rfl (fun _ => rfl) (by decide) (by decide +kernel) (Nat.le_of_ble_eq_true rfl) (Nat.le_of_ble_eq_true rfl) (Nat.le_of_ble_eq_true rfl) dX4_init_7 fun q0 => ?_
  refine Zb_ws (ws2 := [(h0, .inr (4, [.null, .int 0, .int 0, .int 0, .null])), (q0, .inl (cA .int, 120, .inl fun _ => 0))]) (ts2 := [.int]) rfl rfl ?_
  refine zb_putF (ci := 4) (T := TX4) (N := 5) (ty := .array .int) rfl tbX4 tyX4_ok nmX4 0 rfl 0 (by decide) fl_X4_9 rfl rfl (by decide +kernel) rfl rfl (Nat.le_of_ble_eq_true rfl) dX4_init_9 ?_
  refine Zb_ws (ws2 := [(h0, .inr (4, [.ref q0, .int 0, .int 0, .int 0, .null])), (q0, .inl (cA .int, 120, .inl fun _ => 0))]) (ts2 := [.int]) rfl rfl ?_
  refine zb_aload 0 dX4_init_12 rfl rfl ?_
  refine zb_mk (host := "OnOneBreath") (fs0 := fsX3) (mk_X3 (cA := cA)) rfl tbX3 tyX3_ok df_X3 cl_X4_13 in_X3 id_X3 io_X3 rfl ii_X3 id_X3 ic_X3 (Or.inr (List.mem_of_getElem? (i := 1) rfl)) (by decide) (by decide) (Nat.le_of_ble_eq_true rfl) (Nat.le_of_ble_eq_true rfl) (fun _ => Nat.le_of_ble_eq_true rfl) dX4_init_13 dX4_init_16 dX4_init_17 fun q1 w t hw => ?_
  obtain ⟨q2, q3, q4, rfl, rfl⟩ := hw
  refine Zb_ws (ws2 := [(h0, .inr (4, [.ref q0, .int 0, .int 0, .int 0, .null])), (q0, .inl (cA .int, 120, .inl fun _ => 0)), (q1, .inr (3, [.ref q2, .ref q3, .ref q4, .int 0, .int 0])), (q2, .inl (cA .int, 128, .inl fun _ => 0)), (q3, .inl (cA .int, 128, .inl fun _ => 0)), (q4, .inl (cA .int, 128, .inl fun _ => 0))]) (ts2 := [.int, .int, .int, .int]) rfl rfl ?_
  refine zb_putM (C := RX4) (ci := 4) (T := TX4) (N := 5) (ty := .object "OnOneBreath$Law") rfl tbX4 tyX4_ok nmX4 0 rfl 4 (by decide) fl_X4_16 rfl (by decide +kernel) rfl rfl (Nat.le_of_ble_eq_true rfl) dX4_init_20 ?_
  refine Zb_ws (ws2 := [(h0, .inr (4, [.ref q0, .int 0, .int 0, .int 0, .ref q1])), (q0, .inl (cA .int, 120, .inl fun _ => 0)), (q1, .inr (3, [.ref q2, .ref q3, .ref q4, .int 0, .int 0])), (q2, .inl (cA .int, 128, .inl fun _ => 0)), (q3, .inl (cA .int, 128, .inl fun _ => 0)), (q4, .inl (cA .int, 128, .inl fun _ => 0))]) (ts2 := [.int, .int, .int, .int]) rfl rfl ?_
  exact zb_ret dX4_init_23 (Nat.le_of_ble_eq_true rfl) (Nat.le_of_ble_eq_true rfl) ⟨q0, q1, q2, q3, q4, rfl, rfl⟩
def bX5 (cA : ZCA) (h0 : Nat) (ws : va_W) (ts : List FieldType) : Prop := ∃ q0 q1 : Nat, ws = [(h0, .inr (5, [.ref q0, .ref q1, .int 0, .int 0, .int 0])), (q0, .inl (cA .int, 5, .inl fun _ => 0)), (q1, .inl (cA .int, 5, .inl fun _ => 0))] ∧ ts = [.int, .int]
set_option maxRecDepth 100000 in
set_option maxHeartbeats 4000000 in
theorem mk_X5 {cA : ZCA} : MtI yX5_init cX5_init 1 1 2 10 5 fsX5 cA (bX5 cA) := by
  refine Zb_met (by decide) rfl (by decide) fun h0 => ?_
  refine zb_aload 0 dX5_init_0 rfl rfl ?_
  refine zb_obj il_X5_3 ob_i ob_c (Nat.le_of_ble_eq_true rfl) dX5_init_1 ?_
  refine zb_aload 0 dX5_init_4 rfl rfl ?_
  refine zb_iconst (v := (5 : Int32)) dX5_init_5 (by decide +kernel) ?_
  refine zb_newa (atype := .int) (ty := .int) (N' := 5) (a0 := (5, .inl fun _ => 0)) ac_int rfl (fun _ => rfl) (by decide) (by decide +kernel) (Nat.le_of_ble_eq_true rfl) (Nat.le_of_ble_eq_true rfl) (Nat.le_of_ble_eq_true rfl) dX5_init_6 fun q0 => ?_
  refine Zb_ws (ws2 := [(h0, .inr (5, [.null, .null, .int 0, .int 0, .int 0])), (q0, .inl (cA .int, 5, .inl fun _ => 0))]) (ts2 := [.int]) rfl rfl ?_
  refine zb_putF (ci := 5) (T := TX5) (N := 5) (ty := .array .int) rfl tbX5 tyX5_ok nmX5 0 rfl 0 (by decide) fl_X5_11 rfl rfl (by decide +kernel) rfl rfl (Nat.le_of_ble_eq_true rfl) dX5_init_8 ?_
  refine Zb_ws (ws2 := [(h0, .inr (5, [.ref q0, .null, .int 0, .int 0, .int 0])), (q0, .inl (cA .int, 5, .inl fun _ => 0))]) (ts2 := [.int]) rfl rfl ?_
  refine zb_aload 0 dX5_init_11 rfl rfl ?_
  refine zb_iconst (v := (5 : Int32)) dX5_init_12 (by decide +kernel) ?_
  refine zb_newa (atype := .int) (ty := .int) (N' := 5) (a0 := (5, .inl fun _ => 0)) ac_int rfl (fun _ => rfl) (by decide) (by decide +kernel) (Nat.le_of_ble_eq_true rfl) (Nat.le_of_ble_eq_true rfl) (Nat.le_of_ble_eq_true rfl) dX5_init_13 fun q1 => ?_
  refine Zb_ws (ws2 := [(h0, .inr (5, [.ref q0, .null, .int 0, .int 0, .int 0])), (q0, .inl (cA .int, 5, .inl fun _ => 0)), (q1, .inl (cA .int, 5, .inl fun _ => 0))]) (ts2 := [.int, .int]) rfl rfl ?_
  refine zb_putF (ci := 5) (T := TX5) (N := 5) (ty := .array .int) rfl tbX5 tyX5_ok nmX5 0 rfl 1 (by decide) fl_X5_15 rfl rfl (by decide +kernel) rfl rfl (Nat.le_of_ble_eq_true rfl) dX5_init_15 ?_
  refine Zb_ws (ws2 := [(h0, .inr (5, [.ref q0, .ref q1, .int 0, .int 0, .int 0])), (q0, .inl (cA .int, 5, .inl fun _ => 0)), (q1, .inl (cA .int, 5, .inl fun _ => 0))]) (ts2 := [.int, .int]) rfl rfl ?_
  exact zb_ret dX5_init_18 (Nat.le_of_ble_eq_true rfl) (Nat.le_of_ble_eq_true rfl) ⟨q0, q1, rfl, rfl⟩
def bX6 (cA : ZCA) (h0 : Nat) (ws : va_W) (ts : List FieldType) : Prop := ∃ q0 q1 : Nat, ws = [(h0, .inr (6, [.ref q0, .ref q1, .int 0, .int 0])), (q0, .inl (cA .int, 183, .inl fun _ => 0)), (q1, .inl (cA .int, 183, .inl fun _ => 0))] ∧ ts = [.int, .int]
set_option maxRecDepth 100000 in
set_option maxHeartbeats 4000000 in
theorem mk_X6 {cA : ZCA} : MtI yX6_init cX6_init 1 1 2 366 6 fsX6 cA (bX6 cA) := by
  refine Zb_met (by decide) rfl (by decide) fun h0 => ?_
  refine zb_aload 0 dX6_init_0 rfl rfl ?_
  refine zb_obj il_X6_5 ob_i ob_c (Nat.le_of_ble_eq_true rfl) dX6_init_1 ?_
  refine zb_aload 0 dX6_init_4 rfl rfl ?_
  refine zb_sipush (v := (183 : Int32)) dX6_init_5 (by decide +kernel) ?_
  refine zb_newa (atype := .int) (ty := .int) (N' := 183) (a0 := (183, .inl fun _ => 0)) ac_int rfl (fun _ => rfl) (by decide) (by decide +kernel) (Nat.le_of_ble_eq_true rfl) (Nat.le_of_ble_eq_true rfl) (Nat.le_of_ble_eq_true rfl) dX6_init_8 fun q0 => ?_
  refine Zb_ws (ws2 := [(h0, .inr (6, [.null, .null, .int 0, .int 0])), (q0, .inl (cA .int, 183, .inl fun _ => 0))]) (ts2 := [.int]) rfl rfl ?_
  refine zb_putF (ci := 6) (T := TX6) (N := 4) (ty := .array .int) rfl tbX6 tyX6_ok nmX6 0 rfl 0 (by decide) fl_X6_11 rfl rfl (by decide +kernel) rfl rfl (Nat.le_of_ble_eq_true rfl) dX6_init_10 ?_
  refine Zb_ws (ws2 := [(h0, .inr (6, [.ref q0, .null, .int 0, .int 0])), (q0, .inl (cA .int, 183, .inl fun _ => 0))]) (ts2 := [.int]) rfl rfl ?_
  refine zb_aload 0 dX6_init_13 rfl rfl ?_
  refine zb_sipush (v := (183 : Int32)) dX6_init_14 (by decide +kernel) ?_
  refine zb_newa (atype := .int) (ty := .int) (N' := 183) (a0 := (183, .inl fun _ => 0)) ac_int rfl (fun _ => rfl) (by decide) (by decide +kernel) (Nat.le_of_ble_eq_true rfl) (Nat.le_of_ble_eq_true rfl) (Nat.le_of_ble_eq_true rfl) dX6_init_17 fun q1 => ?_
  refine Zb_ws (ws2 := [(h0, .inr (6, [.ref q0, .null, .int 0, .int 0])), (q0, .inl (cA .int, 183, .inl fun _ => 0)), (q1, .inl (cA .int, 183, .inl fun _ => 0))]) (ts2 := [.int, .int]) rfl rfl ?_
  refine zb_putF (ci := 6) (T := TX6) (N := 4) (ty := .array .int) rfl tbX6 tyX6_ok nmX6 0 rfl 1 (by decide) fl_X6_15 rfl rfl (by decide +kernel) rfl rfl (Nat.le_of_ble_eq_true rfl) dX6_init_19 ?_
  refine Zb_ws (ws2 := [(h0, .inr (6, [.ref q0, .ref q1, .int 0, .int 0])), (q0, .inl (cA .int, 183, .inl fun _ => 0)), (q1, .inl (cA .int, 183, .inl fun _ => 0))]) (ts2 := [.int, .int]) rfl rfl ?_
  exact zb_ret dX6_init_22 (Nat.le_of_ble_eq_true rfl) (Nat.le_of_ble_eq_true rfl) ⟨q0, q1, rfl, rfl⟩
def bX7 (cA : ZCA) (h0 : Nat) (ws : va_W) (ts : List FieldType) : Prop := ∃ q0 q1 q2 : Nat, ws = [(h0, .inr (7, [.ref q0, .ref q1, .ref q2, .int 0, .int 0, .int 0, .int 0, .int 0, .int 0, .int 0, .int 0, .int 0, .int 0, .int 0])), (q0, .inl (cA .int, 7, .inl fun _ => 0)), (q1, .inl (cA .int, 7, .inl fun _ => 0)), (q2, .inl (cA .int, 6, .inl fun _ => 0))] ∧ ts = [.int, .int, .int]
set_option maxRecDepth 100000 in
set_option maxHeartbeats 4000000 in
theorem mk_X7 {cA : ZCA} : MtI yX7_init cX7_init 1 1 3 20 7 fsX7 cA (bX7 cA) := by
  refine Zb_met (by decide) rfl (by decide) fun h0 => ?_
  refine zb_aload 0 dX7_init_0 rfl rfl ?_
  refine zb_obj il_X7_3 ob_i ob_c (Nat.le_of_ble_eq_true rfl) dX7_init_1 ?_
  refine zb_aload 0 dX7_init_4 rfl rfl ?_
  refine zb_bipush (v := (7 : Int32)) dX7_init_5 (by decide +kernel) ?_
  refine zb_newa (atype := .int) (ty := .int) (N' := 7) (a0 := (7, .inl fun _ => 0)) ac_int rfl (fun _ => rfl) (by decide) (by decide +kernel) (Nat.le_of_ble_eq_true rfl) (Nat.le_of_ble_eq_true rfl) (Nat.le_of_ble_eq_true rfl) dX7_init_7 fun q0 => ?_
  refine Zb_ws (ws2 := [(h0, .inr (7, [.null, .null, .null, .int 0, .int 0, .int 0, .int 0, .int 0, .int 0, .int 0, .int 0, .int 0, .int 0, .int 0])), (q0, .inl (cA .int, 7, .inl fun _ => 0))]) (ts2 := [.int]) rfl rfl ?_
  refine zb_putF (ci := 7) (T := TX7) (N := 14) (ty := .array .int) rfl tbX7 tyX7_ok nmX7 0 rfl 0 (by decide) fl_X7_9 rfl rfl (by decide +kernel) rfl rfl (Nat.le_of_ble_eq_true rfl) dX7_init_9 ?_
  refine Zb_ws (ws2 := [(h0, .inr (7, [.ref q0, .null, .null, .int 0, .int 0, .int 0, .int 0, .int 0, .int 0, .int 0, .int 0, .int 0, .int 0, .int 0])), (q0, .inl (cA .int, 7, .inl fun _ => 0))]) (ts2 := [.int]) rfl rfl ?_
  refine zb_aload 0 dX7_init_12 rfl rfl ?_
  refine zb_bipush (v := (7 : Int32)) dX7_init_13 (by decide +kernel) ?_
  refine zb_newa (atype := .int) (ty := .int) (N' := 7) (a0 := (7, .inl fun _ => 0)) ac_int rfl (fun _ => rfl) (by decide) (by decide +kernel) (Nat.le_of_ble_eq_true rfl) (Nat.le_of_ble_eq_true rfl) (Nat.le_of_ble_eq_true rfl) dX7_init_15 fun q1 => ?_
  refine Zb_ws (ws2 := [(h0, .inr (7, [.ref q0, .null, .null, .int 0, .int 0, .int 0, .int 0, .int 0, .int 0, .int 0, .int 0, .int 0, .int 0, .int 0])), (q0, .inl (cA .int, 7, .inl fun _ => 0)), (q1, .inl (cA .int, 7, .inl fun _ => 0))]) (ts2 := [.int, .int]) rfl rfl ?_
  refine zb_putF (ci := 7) (T := TX7) (N := 14) (ty := .array .int) rfl tbX7 tyX7_ok nmX7 0 rfl 1 (by decide) fl_X7_15 rfl rfl (by decide +kernel) rfl rfl (Nat.le_of_ble_eq_true rfl) dX7_init_17 ?_
  refine Zb_ws (ws2 := [(h0, .inr (7, [.ref q0, .ref q1, .null, .int 0, .int 0, .int 0, .int 0, .int 0, .int 0, .int 0, .int 0, .int 0, .int 0, .int 0])), (q0, .inl (cA .int, 7, .inl fun _ => 0)), (q1, .inl (cA .int, 7, .inl fun _ => 0))]) (ts2 := [.int, .int]) rfl rfl ?_
  refine zb_aload 0 dX7_init_20 rfl rfl ?_
  refine zb_bipush (v := (6 : Int32)) dX7_init_21 (by decide +kernel) ?_
  refine zb_newa (atype := .int) (ty := .int) (N' := 6) (a0 := (6, .inl fun _ => 0)) ac_int rfl (fun _ => rfl) (by decide) (by decide +kernel) (Nat.le_of_ble_eq_true rfl) (Nat.le_of_ble_eq_true rfl) (Nat.le_of_ble_eq_true rfl) dX7_init_23 fun q2 => ?_
  refine Zb_ws (ws2 := [(h0, .inr (7, [.ref q0, .ref q1, .null, .int 0, .int 0, .int 0, .int 0, .int 0, .int 0, .int 0, .int 0, .int 0, .int 0, .int 0])), (q0, .inl (cA .int, 7, .inl fun _ => 0)), (q1, .inl (cA .int, 7, .inl fun _ => 0)), (q2, .inl (cA .int, 6, .inl fun _ => 0))]) (ts2 := [.int, .int, .int]) rfl rfl ?_
  refine zb_putF (ci := 7) (T := TX7) (N := 14) (ty := .array .int) rfl tbX7 tyX7_ok nmX7 0 rfl 2 (by decide) fl_X7_20 rfl rfl (by decide +kernel) rfl rfl (Nat.le_of_ble_eq_true rfl) dX7_init_25 ?_
  refine Zb_ws (ws2 := [(h0, .inr (7, [.ref q0, .ref q1, .ref q2, .int 0, .int 0, .int 0, .int 0, .int 0, .int 0, .int 0, .int 0, .int 0, .int 0, .int 0])), (q0, .inl (cA .int, 7, .inl fun _ => 0)), (q1, .inl (cA .int, 7, .inl fun _ => 0)), (q2, .inl (cA .int, 6, .inl fun _ => 0))]) (ts2 := [.int, .int, .int]) rfl rfl ?_
  exact zb_ret dX7_init_28 (Nat.le_of_ble_eq_true rfl) (Nat.le_of_ble_eq_true rfl) ⟨q0, q1, q2, rfl, rfl⟩
def bX9 (cA : ZCA) (h0 : Nat) (ws : va_W) (ts : List FieldType) : Prop := ∃ q0 q1 q2 q3 : Nat, ws = [(h0, .inr (9, [.ref q0, .ref q1, .ref q2, .ref q3])), (q0, .inl (cA .int, 2, .inl fun _ => 0)), (q1, .inl (cA .int, 2, .inl fun _ => 0)), (q2, .inl (cA .int, 2, .inl fun _ => 0)), (q3, .inl (cA .int, 14, .inl fun _ => 0))] ∧ ts = [.int, .int, .int, .int]
set_option maxRecDepth 100000 in
set_option maxHeartbeats 4000000 in
theorem mk_X9 {cA : ZCA} : MtI yX9_init cX9_init 1 1 4 20 9 fsX9 cA (bX9 cA) := by
  refine Zb_met (by decide) rfl (by decide) fun h0 => ?_
  refine zb_aload 0 dX9_init_0 rfl rfl ?_
  refine zb_obj il_X9_3 ob_i ob_c (Nat.le_of_ble_eq_true rfl) dX9_init_1 ?_
  refine zb_aload 0 dX9_init_4 rfl rfl ?_
  refine zb_iconst (v := (2 : Int32)) dX9_init_5 (by decide +kernel) ?_
  refine zb_newa (atype := .int) (ty := .int) (N' := 2) (a0 := (2, .inl fun _ => 0)) ac_int rfl (fun _ => rfl) (by decide) (by decide +kernel) (Nat.le_of_ble_eq_true rfl) (Nat.le_of_ble_eq_true rfl) (Nat.le_of_ble_eq_true rfl) dX9_init_6 fun q0 => ?_
  refine Zb_ws (ws2 := [(h0, .inr (9, [.null, .null, .null, .null])), (q0, .inl (cA .int, 2, .inl fun _ => 0))]) (ts2 := [.int]) rfl rfl ?_
  refine zb_putF (ci := 9) (T := TX9) (N := 4) (ty := .array .int) rfl tbX9 tyX9_ok nmX9 0 rfl 0 (by decide) fl_X9_9 rfl rfl (by decide +kernel) rfl rfl (Nat.le_of_ble_eq_true rfl) dX9_init_8 ?_
  refine Zb_ws (ws2 := [(h0, .inr (9, [.ref q0, .null, .null, .null])), (q0, .inl (cA .int, 2, .inl fun _ => 0))]) (ts2 := [.int]) rfl rfl ?_
  refine zb_aload 0 dX9_init_11 rfl rfl ?_
  refine zb_iconst (v := (2 : Int32)) dX9_init_12 (by decide +kernel) ?_
  refine zb_newa (atype := .int) (ty := .int) (N' := 2) (a0 := (2, .inl fun _ => 0)) ac_int rfl (fun _ => rfl) (by decide) (by decide +kernel) (Nat.le_of_ble_eq_true rfl) (Nat.le_of_ble_eq_true rfl) (Nat.le_of_ble_eq_true rfl) dX9_init_13 fun q1 => ?_
  refine Zb_ws (ws2 := [(h0, .inr (9, [.ref q0, .null, .null, .null])), (q0, .inl (cA .int, 2, .inl fun _ => 0)), (q1, .inl (cA .int, 2, .inl fun _ => 0))]) (ts2 := [.int, .int]) rfl rfl ?_
  refine zb_putF (ci := 9) (T := TX9) (N := 4) (ty := .array .int) rfl tbX9 tyX9_ok nmX9 0 rfl 1 (by decide) fl_X9_15 rfl rfl (by decide +kernel) rfl rfl (Nat.le_of_ble_eq_true rfl) dX9_init_15 ?_
  refine Zb_ws (ws2 := [(h0, .inr (9, [.ref q0, .ref q1, .null, .null])), (q0, .inl (cA .int, 2, .inl fun _ => 0)), (q1, .inl (cA .int, 2, .inl fun _ => 0))]) (ts2 := [.int, .int]) rfl rfl ?_
  refine zb_aload 0 dX9_init_18 rfl rfl ?_
  refine zb_iconst (v := (2 : Int32)) dX9_init_19 (by decide +kernel) ?_
  refine zb_newa (atype := .int) (ty := .int) (N' := 2) (a0 := (2, .inl fun _ => 0)) ac_int rfl (fun _ => rfl) (by decide) (by decide +kernel) (Nat.le_of_ble_eq_true rfl) (Nat.le_of_ble_eq_true rfl) (Nat.le_of_ble_eq_true rfl) dX9_init_20 fun q2 => ?_
  refine Zb_ws (ws2 := [(h0, .inr (9, [.ref q0, .ref q1, .null, .null])), (q0, .inl (cA .int, 2, .inl fun _ => 0)), (q1, .inl (cA .int, 2, .inl fun _ => 0)), (q2, .inl (cA .int, 2, .inl fun _ => 0))]) (ts2 := [.int, .int, .int]) rfl rfl ?_
  refine zb_putF (ci := 9) (T := TX9) (N := 4) (ty := .array .int) rfl tbX9 tyX9_ok nmX9 0 rfl 2 (by decide) fl_X9_18 rfl rfl (by decide +kernel) rfl rfl (Nat.le_of_ble_eq_true rfl) dX9_init_22 ?_
  refine Zb_ws (ws2 := [(h0, .inr (9, [.ref q0, .ref q1, .ref q2, .null])), (q0, .inl (cA .int, 2, .inl fun _ => 0)), (q1, .inl (cA .int, 2, .inl fun _ => 0)), (q2, .inl (cA .int, 2, .inl fun _ => 0))]) (ts2 := [.int, .int, .int]) rfl rfl ?_
  refine zb_aload 0 dX9_init_25 rfl rfl ?_
  refine zb_bipush (v := (14 : Int32)) dX9_init_26 (by decide +kernel) ?_
  refine zb_newa (atype := .int) (ty := .int) (N' := 14) (a0 := (14, .inl fun _ => 0)) ac_int rfl (fun _ => rfl) (by decide) (by decide +kernel) (Nat.le_of_ble_eq_true rfl) (Nat.le_of_ble_eq_true rfl) (Nat.le_of_ble_eq_true rfl) dX9_init_28 fun q3 => ?_
  refine Zb_ws (ws2 := [(h0, .inr (9, [.ref q0, .ref q1, .ref q2, .null])), (q0, .inl (cA .int, 2, .inl fun _ => 0)), (q1, .inl (cA .int, 2, .inl fun _ => 0)), (q2, .inl (cA .int, 2, .inl fun _ => 0)), (q3, .inl (cA .int, 14, .inl fun _ => 0))]) (ts2 := [.int, .int, .int, .int]) rfl rfl ?_
  refine zb_putF (ci := 9) (T := TX9) (N := 4) (ty := .array .int) rfl tbX9 tyX9_ok nmX9 0 rfl 3 (by decide) fl_X9_21 rfl rfl (by decide +kernel) rfl rfl (Nat.le_of_ble_eq_true rfl) dX9_init_30 ?_
  refine Zb_ws (ws2 := [(h0, .inr (9, [.ref q0, .ref q1, .ref q2, .ref q3])), (q0, .inl (cA .int, 2, .inl fun _ => 0)), (q1, .inl (cA .int, 2, .inl fun _ => 0)), (q2, .inl (cA .int, 2, .inl fun _ => 0)), (q3, .inl (cA .int, 14, .inl fun _ => 0))]) (ts2 := [.int, .int, .int, .int]) rfl rfl ?_
  exact zb_ret dX9_init_33 (Nat.le_of_ble_eq_true rfl) (Nat.le_of_ble_eq_true rfl) ⟨q0, q1, q2, q3, rfl, rfl⟩
def bX10 (cA : ZCA) (h0 : Nat) (ws : va_W) (ts : List FieldType) : Prop := ∃ q0 : Nat, ws = [(h0, .inr (10, [.ref q0, .int 0, .int 0, .int 0, .int 0])), (q0, .inl (cA .long, 60, .inr (.inl fun _ => 0)))] ∧ ts = [.long]
set_option maxRecDepth 100000 in
set_option maxHeartbeats 4000000 in
theorem mk_X10 {cA : ZCA} : MtI yX10_init cX10_init 1 1 1 60 10 fsX10 cA (bX10 cA) := by
  refine Zb_met (by decide) rfl (by decide) fun h0 => ?_
  refine zb_aload 0 dX10_init_0 rfl rfl ?_
  refine zb_obj il_X10_3 ob_i ob_c (Nat.le_of_ble_eq_true rfl) dX10_init_1 ?_
  refine zb_aload 0 dX10_init_4 rfl rfl ?_
  refine zb_bipush (v := (60 : Int32)) dX10_init_5 (by decide +kernel) ?_
  refine zb_newa (atype := .long) (ty := .long) (N' := 60) (a0 := (60, .inr (.inl fun _ => 0))) ac_long rfl (fun _ => rfl) (by decide) (by decide +kernel) (Nat.le_of_ble_eq_true rfl) (Nat.le_of_ble_eq_true rfl) (Nat.le_of_ble_eq_true rfl) dX10_init_7 fun q0 => ?_
  refine Zb_ws (ws2 := [(h0, .inr (10, [.null, .int 0, .int 0, .int 0, .int 0])), (q0, .inl (cA .long, 60, .inr (.inl fun _ => 0)))]) (ts2 := [.long]) rfl rfl ?_
  refine zb_putF (ci := 10) (T := TX10) (N := 5) (ty := .array .long) rfl tbX10 tyX10_ok nmX10 0 rfl 0 (by decide) fl_X10_11 rfl rfl (by decide +kernel) rfl rfl (Nat.le_of_ble_eq_true rfl) dX10_init_9 ?_
  refine Zb_ws (ws2 := [(h0, .inr (10, [.ref q0, .int 0, .int 0, .int 0, .int 0])), (q0, .inl (cA .long, 60, .inr (.inl fun _ => 0)))]) (ts2 := [.long]) rfl rfl ?_
  exact zb_ret dX10_init_12 (Nat.le_of_ble_eq_true rfl) (Nat.le_of_ble_eq_true rfl) ⟨q0, rfl, rfl⟩

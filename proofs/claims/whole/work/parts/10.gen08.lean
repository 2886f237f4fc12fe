def s_X_left_0 : List am_Q := [(0, .aload_n 0, 0, 0, 0, .null), (1, .getfield 10, 11, 0, 145, .null), (4, .getfield 282, 3, 7, 108, .null), (7, .iload_n 1, 0, 0, 0, .null)]
theorem t_s_X_left_0 : s_X_left_0.all (am_ok 11 cX11_left) = true := by decide +kernel
theorem d_X11_left_8 : decode cX11_left 8 = .ok (.invokevirtual 290, 3) := by decide +kernel
theorem d_X11_left_11 : decode cX11_left 11 = .ok (.ifCond .eq 23, 3) := by decide +kernel
def s_X_left_1 : List am_Q := [(34, .ldc 205, 0, 0, 3, .int (-1000000000 : Int32))]
theorem t_s_X_left_1 : s_X_left_1.all (am_ok 11 cX11_left) = true := by decide +kernel
theorem d_X11_left_36 : decode cX11_left 36 = .ok (.ireturn, 1) := by decide +kernel
def s_X_left_2 : List am_Q := [(14, .iload_n 2, 0, 0, 0, .null), (15, .iconst 0, 0, 0, 0, .int (nI 0)), (16, .ldc 156, 0, 0, 1, .int (nI 99999))]
theorem t_s_X_left_2 : s_X_left_2.all (am_ok 11 cX11_left) = true := by decide +kernel
theorem d_X11_left_18 : decode cX11_left 18 = .ok (.invokestatic 47, 3) := by decide +kernel
theorem d_X11_left_21 : decode cX11_left 21 = .ok (.ifCond .eq 13, 3) := by decide +kernel
def s_X_left_3 : List am_Q := [(34, .ldc 205, 0, 0, 3, .int (-1000000000 : Int32))]
theorem t_s_X_left_3 : s_X_left_3.all (am_ok 11 cX11_left) = true := by decide +kernel
def s_X_left_4 : List am_Q := [(24, .iload_n 3, 0, 0, 0, .null), (25, .iconst 0, 0, 0, 0, .int (nI 0)), (26, .bipush 29, 0, 0, 0, .int (nI 29))]
theorem t_s_X_left_4 : s_X_left_4.all (am_ok 11 cX11_left) = true := by decide +kernel
theorem d_X11_left_28 : decode cX11_left 28 = .ok (.invokestatic 47, 3) := by decide +kernel
theorem d_X11_left_31 : decode cX11_left 31 = .ok (.ifCond .ne 6, 3) := by decide +kernel
def s_X_left_5 : List am_Q := [(37, .aload_n 0, 0, 0, 0, .null), (38, .getfield 10, 11, 0, 145, .null), (41, .getfield 282, 3, 7, 108, .null), (44, .iload_n 1, 0, 0, 0, .null), (45, .aload_n 0, 0, 0, 0, .null), (46, .getfield 10, 11, 0, 145, .null)]
theorem t_s_X_left_5 : s_X_left_5.all (am_ok 11 cX11_left) = true := by decide +kernel
theorem d_X11_left_49 : decode cX11_left 49 = .ok (.invokevirtual 293, 3) := by decide +kernel
theorem d_X11_left_52 : decode cX11_left 52 = .ok (.invokevirtual 296, 3) := by decide +kernel
def s_X_left_6 : List am_Q := [(55, .aload_n 0, 0, 0, 0, .null), (56, .getfield 10, 11, 0, 145, .null), (59, .getfield 150, 3, 1, 90, .null), (62, .iconst 4, 0, 0, 0, .int (nI 4))]
theorem t_s_X_left_6 : s_X_left_6.all (am_ok 11 cX11_left) = true := by decide +kernel
theorem d_X11_left_63 : decode cX11_left 63 = .ok (.iaload, 1) := by decide +kernel
def s_X_left_7 : List am_Q := [(64, .iload_n 2, 0, 0, 0, .null), (65, .iload_n 3, 0, 0, 0, .null), (66, .iconst 1, 0, 0, 0, .int (nI 1)), (67, .iadd, 0, 0, 0, .null), (68, .imul, 0, 0, 0, .null), (69, .iadd, 0, 0, 0, .null), (70, .aload_n 0, 0, 0, 0, .null), (71, .getfield 10, 11, 0, 145, .null), (74, .getfield 282, 3, 7, 108, .null), (77, .getfield 305, 8, 4, 77, .null), (80, .iload_n 3, 0, 0, 0, .null)]
theorem t_s_X_left_7 : s_X_left_7.all (am_ok 11 cX11_left) = true := by decide +kernel
theorem d_X11_left_81 : decode cX11_left 81 = .ok (.iaload, 1) := by decide +kernel
def s_X_left_8 : List am_Q := [(82, .isub, 0, 0, 0, .null)]
theorem t_s_X_left_8 : s_X_left_8.all (am_ok 11 cX11_left) = true := by decide +kernel
theorem d_X11_left_83 : decode cX11_left 83 = .ok (.ireturn, 1) := by decide +kernel
def s_X_left_9 : List am_Q := [(34, .ldc 205, 0, 0, 3, .int (-1000000000 : Int32))]
theorem t_s_X_left_9 : s_X_left_9.all (am_ok 11 cX11_left) = true := by decide +kernel
def X_left (τ : am_T) (a1 : Int32) (a2 : Int32) (a3 : Int32) : Option (Int32 × am_T) :=
  (Re_hasAll τ a1).bind (fun x1 =>
  if x1.1 = 0 then
  (some ((-1000000000 : Int32), x1.2))
else
  ((X_within x1.2 a2 (nI 0) (nI 99999)).bind (fun x2 =>
  if x2.1 = 0 then
  (some ((-1000000000 : Int32), x2.2))
else
  ((X_within x2.2 a3 (nI 0) (nI 29)).bind (fun x3 =>
  if x3.1 = 0 then
  (some ((-1000000000 : Int32), x3.2))
else
  ((Ho_lack x3.2).bind (fun x4 =>
  (Re_reckon x4.2 a1 x4.1).bind (fun x5 =>
  am_g (am_in a3 30) (some ((((x5.1 2 4) + (a2 * (a3 + (nI 1)))) - (x5.1 56 (a3.toNatClampNeg))), x5))))))))))
set_option maxRecDepth 20000 in
theorem ok_X_left {X : am_X} {a1 : Int32} {a2 : Int32} {a3 : Int32} {v : Int32} {τ τ' : am_T} (hF : am_F X "ShareHouse" cX11_left 4) (hR : am_R X 3 72) (hB : am_B X (some .int) (some (.int v)) (am_D τ')) (h : X_left τ a1 a2 a3 = some (v, τ')) : am_W X 4 (0, [(0, .ref 0), (1, .int a1), (2, .int a2), (3, .int a3)], [], am_D τ) := by
  unfold X_left at h
  refine am_seg s_X_left_0 (y := (8, [(0, .ref 0), (1, .int a1), (2, .int a2), (3, .int a3)], [.int a1, .ref 52], am_D τ)) hF t_s_X_left_0 rfl rfl ?_
  refine am_bd h (fun x1 hx h => ?_)
  refine am_callV (As := [.int a1]) (r := (some (.int x1.1))) (st := []) (σ' := am_D x1.2) (ci := 8) hF hR d_X11_left_8 (c_Re_hasAll (τ' := x1.2) hx) (Nat.le_refl _) (Nat.le_refl _) wl_X_290 wi_yX8_hasAll we_yX8_hasAll wn_ShareHouse_Reserve wc_yX8_hasAll (Nat.le_of_ble_eq_true rfl) (Nat.le_of_ble_eq_true rfl) rfl rfl wy_yX8_hasAll rfl ⟨by decide, by decide⟩ (Nat.le_of_ble_eq_true rfl) ?_
  refine am_ite h (fun hc h => ?_) (fun hc h => ?_)
  · refine am_if_eq_t (t := 34) d_X11_left_11 (by decide) hc hF ?_
    refine am_seg s_X_left_1 (y := (36, [(0, .ref 0), (1, .int a1), (2, .int a2), (3, .int a3)], [.int (-1000000000 : Int32)], am_D x1.2)) hF t_s_X_left_1 rfl rfl ?_
    obtain ⟨rfl, rfl⟩ := am_pair h
    exact am_iret d_X11_left_36 hF hB
  · refine am_if_eq_f (t := 34) d_X11_left_11 (by decide) hc hF ?_
    refine am_seg s_X_left_2 (y := (18, [(0, .ref 0), (1, .int a1), (2, .int a2), (3, .int a3)], [.int (nI 99999), .int (nI 0), .int a2], am_D x1.2)) hF t_s_X_left_2 rfl rfl ?_
    refine am_bd h (fun x2 hx h => ?_)
    refine am_callS (As := [.int a2, .int (nI 0), .int (nI 99999)]) (r := (some (.int x2.1))) (st := []) (σ' := am_D x2.2) hF hR d_X11_left_18 (c_X_within (τ' := x2.2) hx) (Nat.le_refl _) (Nat.le_refl _) wl_X_47 ws_yX11_within wn_ShareHouse wc_yX11_within wy_yX11_within rfl ⟨by decide, by decide⟩ (Nat.le_of_ble_eq_true rfl) ?_
    refine am_ite h (fun hc h => ?_) (fun hc h => ?_)
    · refine am_if_eq_t (t := 34) d_X11_left_21 (by decide) hc hF ?_
      refine am_seg s_X_left_3 (y := (36, [(0, .ref 0), (1, .int a1), (2, .int a2), (3, .int a3)], [.int (-1000000000 : Int32)], am_D x2.2)) hF t_s_X_left_3 rfl rfl ?_
      obtain ⟨rfl, rfl⟩ := am_pair h
      exact am_iret d_X11_left_36 hF hB
    · refine am_if_eq_f (t := 34) d_X11_left_21 (by decide) hc hF ?_
      refine am_seg s_X_left_4 (y := (28, [(0, .ref 0), (1, .int a1), (2, .int a2), (3, .int a3)], [.int (nI 29), .int (nI 0), .int a3], am_D x2.2)) hF t_s_X_left_4 rfl rfl ?_
      refine am_bd h (fun x3 hx h => ?_)
      refine am_callS (As := [.int a3, .int (nI 0), .int (nI 29)]) (r := (some (.int x3.1))) (st := []) (σ' := am_D x3.2) hF hR d_X11_left_28 (c_X_within (τ' := x3.2) hx) (Nat.le_refl _) (Nat.le_refl _) wl_X_47 ws_yX11_within wn_ShareHouse wc_yX11_within wy_yX11_within rfl ⟨by decide, by decide⟩ (Nat.le_of_ble_eq_true rfl) ?_
      refine am_ite h (fun hc h => ?_) (fun hc h => ?_)
      · refine am_if_ne_f (t := 37) d_X11_left_31 (by decide) hc hF ?_
        refine am_seg s_X_left_9 (y := (36, [(0, .ref 0), (1, .int a1), (2, .int a2), (3, .int a3)], [.int (-1000000000 : Int32)], am_D x3.2)) hF t_s_X_left_9 rfl rfl ?_
        obtain ⟨rfl, rfl⟩ := am_pair h
        exact am_iret d_X11_left_36 hF hB
      · refine am_if_ne_t (t := 37) d_X11_left_31 (by decide) hc hF ?_
        refine am_seg s_X_left_5 (y := (49, [(0, .ref 0), (1, .int a1), (2, .int a2), (3, .int a3)], [.ref 1, .int a1, .ref 52], am_D x3.2)) hF t_s_X_left_5 rfl rfl ?_
        refine am_bd h (fun x4 hx h => ?_)
        refine am_callV (As := []) (r := (some (.int x4.1))) (st := [.int a1, .ref 52]) (σ' := am_D x4.2) (ci := 3) hF hR d_X11_left_49 (c_Ho_lack (τ' := x4.2) hx) (Nat.le_refl _) (Nat.le_refl _) wl_X_293 wi_yX3_lack we_yX3_lack wn_ShareHouse_House wc_yX3_lack (Nat.le_of_ble_eq_true rfl) (Nat.le_of_ble_eq_true rfl) rfl rfl wy_yX3_lack rfl ⟨by decide, by decide⟩ (Nat.le_of_ble_eq_true rfl) ?_
        refine am_bd h (fun x5 hx h => ?_)
        refine am_callV (As := [.int a1, .int x4.1]) (r := none) (st := []) (σ' := am_D x5) (ci := 8) hF hR d_X11_left_52 (c_Re_reckon (τ' := x5) hx) (Nat.le_refl _) (Nat.le_refl _) wl_X_296 wi_yX8_reckon we_yX8_reckon wn_ShareHouse_Reserve wc_yX8_reckon (Nat.le_of_ble_eq_true rfl) (Nat.le_of_ble_eq_true rfl) rfl rfl wy_yX8_reckon rfl ⟨by decide, by decide⟩ (Nat.le_of_ble_eq_true rfl) ?_
        refine am_seg s_X_left_6 (y := (63, [(0, .ref 0), (1, .int a1), (2, .int a2), (3, .int a3)], [.int (nI 4), .ref 2], am_D x5)) hF t_s_X_left_6 rfl rfl ?_
        refine am_iald (n := 6) (j := 4) d_X11_left_63 (Nat.le_of_ble_eq_true rfl) (Nat.le_of_ble_eq_true rfl) rfl (by decide) rfl hF ?_
        refine am_seg s_X_left_7 (y := (81, [(0, .ref 0), (1, .int a1), (2, .int a2), (3, .int a3)], [.int a3, .ref 56, .int ((x5.1 2 4) + (a2 * (a3 + (nI 1))))], am_D x5)) hF t_s_X_left_7 rfl rfl ?_
        refine am_gd h (fun hi h => ?_)
        refine am_iald (n := 30) (j := (a3.toNatClampNeg)) d_X11_left_81 (Nat.le_of_ble_eq_true rfl) (Nat.le_of_ble_eq_true rfl) rfl hi rfl hF ?_
        refine am_seg s_X_left_8 (y := (83, [(0, .ref 0), (1, .int a1), (2, .int a2), (3, .int a3)], [.int (((x5.1 2 4) + (a2 * (a3 + (nI 1)))) - (x5.1 56 (a3.toNatClampNeg)))], am_D x5)) hF t_s_X_left_8 rfl rfl ?_
        obtain ⟨rfl, rfl⟩ := am_pair h
        exact am_iret d_X11_left_83 hF hB
theorem c_X_left {a1 : Int32} {a2 : Int32} {a3 : Int32} {v : Int32} {τ τ' : am_T} (h : X_left τ a1 a2 a3 = some (v, τ')) : am_C yX11_left cX11_left 4 (some .int) 3 72 [.ref 0, .int a1, .int a2, .int a3] (am_D τ) (some (.int v)) (am_D τ') :=
  am_enter (by decide +kernel) (Nat.le_of_ble_eq_true rfl) ⟨Nat.le_refl _, Nat.le_refl _⟩ (fun X hF hR hB => ok_X_left hF hR hB h)
def s_JI_bitCount_0 : List am_Q := [(0, .iload_n 0, 0, 0, 0, .null), (1, .iload_n 0, 0, 0, 0, .null), (2, .iconst 1, 0, 0, 0, .int (nI 1)), (3, .iushr, 0, 0, 0, .null), (4, .ldc_w 265, 0, 0, 5, .int (nI 1431655765)), (7, .iand, 0, 0, 0, .null), (8, .isub, 0, 0, 0, .null), (9, .istore_n 0, 0, 0, 0, .null), (10, .iload_n 0, 0, 0, 0, .null), (11, .ldc_w 266, 0, 0, 6, .int (nI 858993459)), (14, .iand, 0, 0, 0, .null), (15, .iload_n 0, 0, 0, 0, .null), (16, .iconst 2, 0, 0, 0, .int (nI 2)), (17, .iushr, 0, 0, 0, .null), (18, .ldc_w 266, 0, 0, 6, .int (nI 858993459)), (21, .iand, 0, 0, 0, .null), (22, .iadd, 0, 0, 0, .null), (23, .istore_n 0, 0, 0, 0, .null), (24, .iload_n 0, 0, 0, 0, .null), (25, .iload_n 0, 0, 0, 0, .null), (26, .iconst 4, 0, 0, 0, .int (nI 4)), (27, .iushr, 0, 0, 0, .null), (28, .iadd, 0, 0, 0, .null), (29, .ldc_w 267, 0, 0, 7, .int (nI 252645135)), (32, .iand, 0, 0, 0, .null), (33, .istore_n 0, 0, 0, 0, .null), (34, .iload_n 0, 0, 0, 0, .null), (35, .iload_n 0, 0, 0, 0, .null), (36, .bipush 8, 0, 0, 0, .int (nI 8)), (38, .iushr, 0, 0, 0, .null), (39, .iadd, 0, 0, 0, .null), (40, .istore_n 0, 0, 0, 0, .null), (41, .iload_n 0, 0, 0, 0, .null), (42, .iload_n 0, 0, 0, 0, .null), (43, .bipush 16, 0, 0, 0, .int (nI 16)), (45, .iushr, 0, 0, 0, .null), (46, .iadd, 0, 0, 0, .null), (47, .istore_n 0, 0, 0, 0, .null), (48, .iload_n 0, 0, 0, 0, .null), (49, .bipush 63, 0, 0, 0, .int (nI 63)), (51, .iand, 0, 0, 0, .null)]
theorem t_s_JI_bitCount_0 : s_JI_bitCount_0.all (am_ok 13 cJ6_bitCount_0f7a4) = true := by decide +kernel
theorem d_J6_bitCount_0f7a4_52 : decode cJ6_bitCount_0f7a4 52 = .ok (.ireturn, 1) := by decide +kernel
def JI_bitCount (τ : am_T) (a0 : Int32) : Option (Int32 × am_T) :=
  some (((((((((a0 - ((Int32.toUInt32 a0 >>> (Int32.toUInt32 (nI 1) &&& Int32.toUInt32 31)).toInt32 &&& (nI 1431655765))) &&& (nI 858993459)) + ((Int32.toUInt32 (a0 - ((Int32.toUInt32 a0 >>> (Int32.toUInt32 (nI 1) &&& Int32.toUInt32 31)).toInt32 &&& (nI 1431655765))) >>> (Int32.toUInt32 (nI 2) &&& Int32.toUInt32 31)).toInt32 &&& (nI 858993459))) + (Int32.toUInt32 (((a0 - ((Int32.toUInt32 a0 >>> (Int32.toUInt32 (nI 1) &&& Int32.toUInt32 31)).toInt32 &&& (nI 1431655765))) &&& (nI 858993459)) + ((Int32.toUInt32 (a0 - ((Int32.toUInt32 a0 >>> (Int32.toUInt32 (nI 1) &&& Int32.toUInt32 31)).toInt32 &&& (nI 1431655765))) >>> (Int32.toUInt32 (nI 2) &&& Int32.toUInt32 31)).toInt32 &&& (nI 858993459))) >>> (Int32.toUInt32 (nI 4) &&& Int32.toUInt32 31)).toInt32) &&& (nI 252645135)) + (Int32.toUInt32 (((((a0 - ((Int32.toUInt32 a0 >>> (Int32.toUInt32 (nI 1) &&& Int32.toUInt32 31)).toInt32 &&& (nI 1431655765))) &&& (nI 858993459)) + ((Int32.toUInt32 (a0 - ((Int32.toUInt32 a0 >>> (Int32.toUInt32 (nI 1) &&& Int32.toUInt32 31)).toInt32 &&& (nI 1431655765))) >>> (Int32.toUInt32 (nI 2) &&& Int32.toUInt32 31)).toInt32 &&& (nI 858993459))) + (Int32.toUInt32 (((a0 - ((Int32.toUInt32 a0 >>> (Int32.toUInt32 (nI 1) &&& Int32.toUInt32 31)).toInt32 &&& (nI 1431655765))) &&& (nI 858993459)) + ((Int32.toUInt32 (a0 - ((Int32.toUInt32 a0 >>> (Int32.toUInt32 (nI 1) &&& Int32.toUInt32 31)).toInt32 &&& (nI 1431655765))) >>> (Int32.toUInt32 (nI 2) &&& Int32.toUInt32 31)).toInt32 &&& (nI 858993459))) >>> (Int32.toUInt32 (nI 4) &&& Int32.toUInt32 31)).toInt32) &&& (nI 252645135)) >>> (Int32.toUInt32 (nI 8) &&& Int32.toUInt32 31)).toInt32) + (Int32.toUInt32 ((((((a0 - ((Int32.toUInt32 a0 >>> (Int32.toUInt32 (nI 1) &&& Int32.toUInt32 31)).toInt32 &&& (nI 1431655765))) &&& (nI 858993459)) + ((Int32.toUInt32 (a0 - ((Int32.toUInt32 a0 >>> (Int32.toUInt32 (nI 1) &&& Int32.toUInt32 31)).toInt32 &&& (nI 1431655765))) >>> (Int32.toUInt32 (nI 2) &&& Int32.toUInt32 31)).toInt32 &&& (nI 858993459))) + (Int32.toUInt32 (((a0 - ((Int32.toUInt32 a0 >>> (Int32.toUInt32 (nI 1) &&& Int32.toUInt32 31)).toInt32 &&& (nI 1431655765))) &&& (nI 858993459)) + ((Int32.toUInt32 (a0 - ((Int32.toUInt32 a0 >>> (Int32.toUInt32 (nI 1) &&& Int32.toUInt32 31)).toInt32 &&& (nI 1431655765))) >>> (Int32.toUInt32 (nI 2) &&& Int32.toUInt32 31)).toInt32 &&& (nI 858993459))) >>> (Int32.toUInt32 (nI 4) &&& Int32.toUInt32 31)).toInt32) &&& (nI 252645135)) + (Int32.toUInt32 (((((a0 - ((Int32.toUInt32 a0 >>> (Int32.toUInt32 (nI 1) &&& Int32.toUInt32 31)).toInt32 &&& (nI 1431655765))) &&& (nI 858993459)) + ((Int32.toUInt32 (a0 - ((Int32.toUInt32 a0 >>> (Int32.toUInt32 (nI 1) &&& Int32.toUInt32 31)).toInt32 &&& (nI 1431655765))) >>> (Int32.toUInt32 (nI 2) &&& Int32.toUInt32 31)).toInt32 &&& (nI 858993459))) + (Int32.toUInt32 (((a0 - ((Int32.toUInt32 a0 >>> (Int32.toUInt32 (nI 1) &&& Int32.toUInt32 31)).toInt32 &&& (nI 1431655765))) &&& (nI 858993459)) + ((Int32.toUInt32 (a0 - ((Int32.toUInt32 a0 >>> (Int32.toUInt32 (nI 1) &&& Int32.toUInt32 31)).toInt32 &&& (nI 1431655765))) >>> (Int32.toUInt32 (nI 2) &&& Int32.toUInt32 31)).toInt32 &&& (nI 858993459))) >>> (Int32.toUInt32 (nI 4) &&& Int32.toUInt32 31)).toInt32) &&& (nI 252645135)) >>> (Int32.toUInt32 (nI 8) &&& Int32.toUInt32 31)).toInt32) >>> (Int32.toUInt32 (nI 16) &&& Int32.toUInt32 31)).toInt32) &&& (nI 63)), τ)
set_option maxRecDepth 20000 in
theorem ok_JI_bitCount {X : am_X} {a0 : Int32} {v : Int32} {τ τ' : am_T} (hF : am_F X "java/lang/Integer" cJ6_bitCount_0f7a4 1) (hR : am_R X 0 0) (hB : am_B X (some .int) (some (.int v)) (am_D τ')) (h : JI_bitCount τ a0 = some (v, τ')) : am_W X 1 (0, [(0, .int a0)], [], am_D τ) := by
  unfold JI_bitCount at h
  refine am_seg s_JI_bitCount_0 (y := (52, [(0, .int (((((((a0 - ((Int32.toUInt32 a0 >>> (Int32.toUInt32 (nI 1) &&& Int32.toUInt32 31)).toInt32 &&& (nI 1431655765))) &&& (nI 858993459)) + ((Int32.toUInt32 (a0 - ((Int32.toUInt32 a0 >>> (Int32.toUInt32 (nI 1) &&& Int32.toUInt32 31)).toInt32 &&& (nI 1431655765))) >>> (Int32.toUInt32 (nI 2) &&& Int32.toUInt32 31)).toInt32 &&& (nI 858993459))) + (Int32.toUInt32 (((a0 - ((Int32.toUInt32 a0 >>> (Int32.toUInt32 (nI 1) &&& Int32.toUInt32 31)).toInt32 &&& (nI 1431655765))) &&& (nI 858993459)) + ((Int32.toUInt32 (a0 - ((Int32.toUInt32 a0 >>> (Int32.toUInt32 (nI 1) &&& Int32.toUInt32 31)).toInt32 &&& (nI 1431655765))) >>> (Int32.toUInt32 (nI 2) &&& Int32.toUInt32 31)).toInt32 &&& (nI 858993459))) >>> (Int32.toUInt32 (nI 4) &&& Int32.toUInt32 31)).toInt32) &&& (nI 252645135)) + (Int32.toUInt32 (((((a0 - ((Int32.toUInt32 a0 >>> (Int32.toUInt32 (nI 1) &&& Int32.toUInt32 31)).toInt32 &&& (nI 1431655765))) &&& (nI 858993459)) + ((Int32.toUInt32 (a0 - ((Int32.toUInt32 a0 >>> (Int32.toUInt32 (nI 1) &&& Int32.toUInt32 31)).toInt32 &&& (nI 1431655765))) >>> (Int32.toUInt32 (nI 2) &&& Int32.toUInt32 31)).toInt32 &&& (nI 858993459))) + (Int32.toUInt32 (((a0 - ((Int32.toUInt32 a0 >>> (Int32.toUInt32 (nI 1) &&& Int32.toUInt32 31)).toInt32 &&& (nI 1431655765))) &&& (nI 858993459)) + ((Int32.toUInt32 (a0 - ((Int32.toUInt32 a0 >>> (Int32.toUInt32 (nI 1) &&& Int32.toUInt32 31)).toInt32 &&& (nI 1431655765))) >>> (Int32.toUInt32 (nI 2) &&& Int32.toUInt32 31)).toInt32 &&& (nI 858993459))) >>> (Int32.toUInt32 (nI 4) &&& Int32.toUInt32 31)).toInt32) &&& (nI 252645135)) >>> (Int32.toUInt32 (nI 8) &&& Int32.toUInt32 31)).toInt32) + (Int32.toUInt32 ((((((a0 - ((Int32.toUInt32 a0 >>> (Int32.toUInt32 (nI 1) &&& Int32.toUInt32 31)).toInt32 &&& (nI 1431655765))) &&& (nI 858993459)) + ((Int32.toUInt32 (a0 - ((Int32.toUInt32 a0 >>> (Int32.toUInt32 (nI 1) &&& Int32.toUInt32 31)).toInt32 &&& (nI 1431655765))) >>> (Int32.toUInt32 (nI 2) &&& Int32.toUInt32 31)).toInt32 &&& (nI 858993459))) + (Int32.toUInt32 (((a0 - ((Int32.toUInt32 a0 >>> (Int32.toUInt32 (nI 1) &&& Int32.toUInt32 31)).toInt32 &&& (nI 1431655765))) &&& (nI 858993459)) + ((Int32.toUInt32 (a0 - ((Int32.toUInt32 a0 >>> (Int32.toUInt32 (nI 1) &&& Int32.toUInt32 31)).toInt32 &&& (nI 1431655765))) >>> (Int32.toUInt32 (nI 2) &&& Int32.toUInt32 31)).toInt32 &&& (nI 858993459))) >>> (Int32.toUInt32 (nI 4) &&& Int32.toUInt32 31)).toInt32) &&& (nI 252645135)) + (Int32.toUInt32 (((((a0 - ((Int32.toUInt32 a0 >>> (Int32.toUInt32 (nI 1) &&& Int32.toUInt32 31)).toInt32 &&& (nI 1431655765))) &&& (nI 858993459)) + ((Int32.toUInt32 (a0 - ((Int32.toUInt32 a0 >>> (Int32.toUInt32 (nI 1) &&& Int32.toUInt32 31)).toInt32 &&& (nI 1431655765))) >>> (Int32.toUInt32 (nI 2) &&& Int32.toUInt32 31)).toInt32 &&& (nI 858993459))) + (Int32.toUInt32 (((a0 - ((Int32.toUInt32 a0 >>> (Int32.toUInt32 (nI 1) &&& Int32.toUInt32 31)).toInt32 &&& (nI 1431655765))) &&& (nI 858993459)) + ((Int32.toUInt32 (a0 - ((Int32.toUInt32 a0 >>> (Int32.toUInt32 (nI 1) &&& Int32.toUInt32 31)).toInt32 &&& (nI 1431655765))) >>> (Int32.toUInt32 (nI 2) &&& Int32.toUInt32 31)).toInt32 &&& (nI 858993459))) >>> (Int32.toUInt32 (nI 4) &&& Int32.toUInt32 31)).toInt32) &&& (nI 252645135)) >>> (Int32.toUInt32 (nI 8) &&& Int32.toUInt32 31)).toInt32) >>> (Int32.toUInt32 (nI 16) &&& Int32.toUInt32 31)).toInt32))], [.int ((((((((a0 - ((Int32.toUInt32 a0 >>> (Int32.toUInt32 (nI 1) &&& Int32.toUInt32 31)).toInt32 &&& (nI 1431655765))) &&& (nI 858993459)) + ((Int32.toUInt32 (a0 - ((Int32.toUInt32 a0 >>> (Int32.toUInt32 (nI 1) &&& Int32.toUInt32 31)).toInt32 &&& (nI 1431655765))) >>> (Int32.toUInt32 (nI 2) &&& Int32.toUInt32 31)).toInt32 &&& (nI 858993459))) + (Int32.toUInt32 (((a0 - ((Int32.toUInt32 a0 >>> (Int32.toUInt32 (nI 1) &&& Int32.toUInt32 31)).toInt32 &&& (nI 1431655765))) &&& (nI 858993459)) + ((Int32.toUInt32 (a0 - ((Int32.toUInt32 a0 >>> (Int32.toUInt32 (nI 1) &&& Int32.toUInt32 31)).toInt32 &&& (nI 1431655765))) >>> (Int32.toUInt32 (nI 2) &&& Int32.toUInt32 31)).toInt32 &&& (nI 858993459))) >>> (Int32.toUInt32 (nI 4) &&& Int32.toUInt32 31)).toInt32) &&& (nI 252645135)) + (Int32.toUInt32 (((((a0 - ((Int32.toUInt32 a0 >>> (Int32.toUInt32 (nI 1) &&& Int32.toUInt32 31)).toInt32 &&& (nI 1431655765))) &&& (nI 858993459)) + ((Int32.toUInt32 (a0 - ((Int32.toUInt32 a0 >>> (Int32.toUInt32 (nI 1) &&& Int32.toUInt32 31)).toInt32 &&& (nI 1431655765))) >>> (Int32.toUInt32 (nI 2) &&& Int32.toUInt32 31)).toInt32 &&& (nI 858993459))) + (Int32.toUInt32 (((a0 - ((Int32.toUInt32 a0 >>> (Int32.toUInt32 (nI 1) &&& Int32.toUInt32 31)).toInt32 &&& (nI 1431655765))) &&& (nI 858993459)) + ((Int32.toUInt32 (a0 - ((Int32.toUInt32 a0 >>> (Int32.toUInt32 (nI 1) &&& Int32.toUInt32 31)).toInt32 &&& (nI 1431655765))) >>> (Int32.toUInt32 (nI 2) &&& Int32.toUInt32 31)).toInt32 &&& (nI 858993459))) >>> (Int32.toUInt32 (nI 4) &&& Int32.toUInt32 31)).toInt32) &&& (nI 252645135)) >>> (Int32.toUInt32 (nI 8) &&& Int32.toUInt32 31)).toInt32) + (Int32.toUInt32 ((((((a0 - ((Int32.toUInt32 a0 >>> (Int32.toUInt32 (nI 1) &&& Int32.toUInt32 31)).toInt32 &&& (nI 1431655765))) &&& (nI 858993459)) + ((Int32.toUInt32 (a0 - ((Int32.toUInt32 a0 >>> (Int32.toUInt32 (nI 1) &&& Int32.toUInt32 31)).toInt32 &&& (nI 1431655765))) >>> (Int32.toUInt32 (nI 2) &&& Int32.toUInt32 31)).toInt32 &&& (nI 858993459))) + (Int32.toUInt32 (((a0 - ((Int32.toUInt32 a0 >>> (Int32.toUInt32 (nI 1) &&& Int32.toUInt32 31)).toInt32 &&& (nI 1431655765))) &&& (nI 858993459)) + ((Int32.toUInt32 (a0 - ((Int32.toUInt32 a0 >>> (Int32.toUInt32 (nI 1) &&& Int32.toUInt32 31)).toInt32 &&& (nI 1431655765))) >>> (Int32.toUInt32 (nI 2) &&& Int32.toUInt32 31)).toInt32 &&& (nI 858993459))) >>> (Int32.toUInt32 (nI 4) &&& Int32.toUInt32 31)).toInt32) &&& (nI 252645135)) + (Int32.toUInt32 (((((a0 - ((Int32.toUInt32 a0 >>> (Int32.toUInt32 (nI 1) &&& Int32.toUInt32 31)).toInt32 &&& (nI 1431655765))) &&& (nI 858993459)) + ((Int32.toUInt32 (a0 - ((Int32.toUInt32 a0 >>> (Int32.toUInt32 (nI 1) &&& Int32.toUInt32 31)).toInt32 &&& (nI 1431655765))) >>> (Int32.toUInt32 (nI 2) &&& Int32.toUInt32 31)).toInt32 &&& (nI 858993459))) + (Int32.toUInt32 (((a0 - ((Int32.toUInt32 a0 >>> (Int32.toUInt32 (nI 1) &&& Int32.toUInt32 31)).toInt32 &&& (nI 1431655765))) &&& (nI 858993459)) + ((Int32.toUInt32 (a0 - ((Int32.toUInt32 a0 >>> (Int32.toUInt32 (nI 1) &&& Int32.toUInt32 31)).toInt32 &&& (nI 1431655765))) >>> (Int32.toUInt32 (nI 2) &&& Int32.toUInt32 31)).toInt32 &&& (nI 858993459))) >>> (Int32.toUInt32 (nI 4) &&& Int32.toUInt32 31)).toInt32) &&& (nI 252645135)) >>> (Int32.toUInt32 (nI 8) &&& Int32.toUInt32 31)).toInt32) >>> (Int32.toUInt32 (nI 16) &&& Int32.toUInt32 31)).toInt32) &&& (nI 63))], am_D τ)) hF t_s_JI_bitCount_0 rfl rfl ?_
  obtain ⟨rfl, rfl⟩ := am_pair h
  exact am_iret d_J6_bitCount_0f7a4_52 hF hB
theorem c_JI_bitCount {a0 : Int32} {v : Int32} {τ τ' : am_T} (h : JI_bitCount τ a0 = some (v, τ')) : am_C yJ6_bitCount_0f7a4 cJ6_bitCount_0f7a4 1 (some .int) 0 0 [.int a0] (am_D τ) (some (.int v)) (am_D τ') :=
  am_enter (by decide +kernel) (Nat.le_of_ble_eq_true rfl) ⟨Nat.le_refl _, Nat.le_refl _⟩ (fun X hF hR hB => ok_JI_bitCount hF hR hB h)
def s_Pr_addRow_0 : List am_Q := [(0, .aload_n 0, 0, 0, 0, .null), (1, .getfield 15, 7, 2, 125, .null), (4, .aload_n 0, 0, 0, 0, .null), (5, .getfield 26, 7, 3, 126, .null), (8, .iconst 3, 0, 0, 0, .int (nI 3)), (9, .imul, 0, 0, 0, .null), (10, .iload_n 1, 0, 0, 0, .null)]
theorem t_s_Pr_addRow_0 : s_Pr_addRow_0.all (am_ok 7 cX7_addRow) = true := by decide +kernel
theorem d_X7_addRow_11 : decode cX7_addRow 11 = .ok (.iastore, 1) := by decide +kernel
def s_Pr_addRow_1 : List am_Q := [(12, .aload_n 0, 0, 0, 0, .null), (13, .getfield 15, 7, 2, 125, .null), (16, .aload_n 0, 0, 0, 0, .null), (17, .getfield 26, 7, 3, 126, .null), (20, .iconst 3, 0, 0, 0, .int (nI 3)), (21, .imul, 0, 0, 0, .null), (22, .iconst 1, 0, 0, 0, .int (nI 1)), (23, .iadd, 0, 0, 0, .null), (24, .iload_n 2, 0, 0, 0, .null)]
theorem t_s_Pr_addRow_1 : s_Pr_addRow_1.all (am_ok 7 cX7_addRow) = true := by decide +kernel
theorem d_X7_addRow_25 : decode cX7_addRow 25 = .ok (.iastore, 1) := by decide +kernel
def s_Pr_addRow_2 : List am_Q := [(26, .aload_n 0, 0, 0, 0, .null), (27, .getfield 15, 7, 2, 125, .null), (30, .aload_n 0, 0, 0, 0, .null), (31, .getfield 26, 7, 3, 126, .null), (34, .iconst 3, 0, 0, 0, .int (nI 3)), (35, .imul, 0, 0, 0, .null), (36, .iconst 2, 0, 0, 0, .int (nI 2)), (37, .iadd, 0, 0, 0, .null), (38, .iload_n 3, 0, 0, 0, .null)]
theorem t_s_Pr_addRow_2 : s_Pr_addRow_2.all (am_ok 7 cX7_addRow) = true := by decide +kernel
theorem d_X7_addRow_39 : decode cX7_addRow 39 = .ok (.iastore, 1) := by decide +kernel
def s_Pr_addRow_3 : List am_Q := [(40, .aload_n 0, 0, 0, 0, .null), (41, .dup, 0, 0, 0, .null), (42, .getfield 26, 7, 3, 126, .null), (45, .iconst 1, 0, 0, 0, .int (nI 1)), (46, .iadd, 0, 0, 0, .null), (47, .putfield 26, 7, 3, 126, .null)]
theorem t_s_Pr_addRow_3 : s_Pr_addRow_3.all (am_ok 7 cX7_addRow) = true := by decide +kernel
theorem d_X7_addRow_50 : decode cX7_addRow 50 = .ok (.return_, 1) := by decide +kernel
def Pr_addRow (τ : am_T) (a1 : Int32) (a2 : Int32) (a3 : Int32) : Option (am_T) :=
  am_g (am_in ((τ.1 118 3) * (nI 3)) 384) (am_g (am_in ((((am_si τ 120 (((τ.1 118 3) * (nI 3)).toNatClampNeg) a1).1 118 3) * (nI 3)) + (nI 1)) 384) (am_g (am_in ((((am_si (am_si τ 120 (((τ.1 118 3) * (nI 3)).toNatClampNeg) a1) 120 (((((am_si τ 120 (((τ.1 118 3) * (nI 3)).toNatClampNeg) a1).1 118 3) * (nI 3)) + (nI 1)).toNatClampNeg) a2).1 118 3) * (nI 3)) + (nI 2)) 384) (some (am_si (am_si (am_si (am_si τ 120 (((τ.1 118 3) * (nI 3)).toNatClampNeg) a1) 120 (((((am_si τ 120 (((τ.1 118 3) * (nI 3)).toNatClampNeg) a1).1 118 3) * (nI 3)) + (nI 1)).toNatClampNeg) a2) 120 (((((am_si (am_si τ 120 (((τ.1 118 3) * (nI 3)).toNatClampNeg) a1) 120 (((((am_si τ 120 (((τ.1 118 3) * (nI 3)).toNatClampNeg) a1).1 118 3) * (nI 3)) + (nI 1)).toNatClampNeg) a2).1 118 3) * (nI 3)) + (nI 2)).toNatClampNeg) a3) 118 3 (((am_si (am_si (am_si τ 120 (((τ.1 118 3) * (nI 3)).toNatClampNeg) a1) 120 (((((am_si τ 120 (((τ.1 118 3) * (nI 3)).toNatClampNeg) a1).1 118 3) * (nI 3)) + (nI 1)).toNatClampNeg) a2) 120 (((((am_si (am_si τ 120 (((τ.1 118 3) * (nI 3)).toNatClampNeg) a1) 120 (((((am_si τ 120 (((τ.1 118 3) * (nI 3)).toNatClampNeg) a1).1 118 3) * (nI 3)) + (nI 1)).toNatClampNeg) a2).1 118 3) * (nI 3)) + (nI 2)).toNatClampNeg) a3).1 118 3) + (nI 1))))))
set_option maxRecDepth 20000 in
theorem ok_Pr_addRow {X : am_X} {a1 : Int32} {a2 : Int32} {a3 : Int32} {τ τ' : am_T} (hF : am_F X "ShareHouse$Proof" cX7_addRow 4) (hR : am_R X 0 0) (hB : am_B X none none (am_D τ')) (h : Pr_addRow τ a1 a2 a3 = some τ') : am_W X 4 (0, [(0, .ref 118), (1, .int a1), (2, .int a2), (3, .int a3)], [], am_D τ) := by
  unfold Pr_addRow at h
  refine am_seg s_Pr_addRow_0 (y := (11, [(0, .ref 118), (1, .int a1), (2, .int a2), (3, .int a3)], [.int a1, .int ((τ.1 118 3) * (nI 3)), .ref 120], am_D τ)) hF t_s_Pr_addRow_0 rfl rfl ?_
  refine am_gd h (fun hi h => ?_)
  refine am_iast (n := 384) (j := (((τ.1 118 3) * (nI 3)).toNatClampNeg)) d_X7_addRow_11 (Nat.le_of_ble_eq_true rfl) (Nat.le_of_ble_eq_true rfl) rfl hi rfl hF ?_
  refine am_seg s_Pr_addRow_1 (y := (25, [(0, .ref 118), (1, .int a1), (2, .int a2), (3, .int a3)], [.int a2, .int ((((am_si τ 120 (((τ.1 118 3) * (nI 3)).toNatClampNeg) a1).1 118 3) * (nI 3)) + (nI 1)), .ref 120], am_D (am_si τ 120 (((τ.1 118 3) * (nI 3)).toNatClampNeg) a1))) hF t_s_Pr_addRow_1 rfl rfl ?_
  refine am_gd h (fun hi h => ?_)
  refine am_iast (n := 384) (j := (((((am_si τ 120 (((τ.1 118 3) * (nI 3)).toNatClampNeg) a1).1 118 3) * (nI 3)) + (nI 1)).toNatClampNeg)) d_X7_addRow_25 (Nat.le_of_ble_eq_true rfl) (Nat.le_of_ble_eq_true rfl) rfl hi rfl hF ?_
  refine am_seg s_Pr_addRow_2 (y := (39, [(0, .ref 118), (1, .int a1), (2, .int a2), (3, .int a3)], [.int a3, .int ((((am_si (am_si τ 120 (((τ.1 118 3) * (nI 3)).toNatClampNeg) a1) 120 (((((am_si τ 120 (((τ.1 118 3) * (nI 3)).toNatClampNeg) a1).1 118 3) * (nI 3)) + (nI 1)).toNatClampNeg) a2).1 118 3) * (nI 3)) + (nI 2)), .ref 120], am_D (am_si (am_si τ 120 (((τ.1 118 3) * (nI 3)).toNatClampNeg) a1) 120 (((((am_si τ 120 (((τ.1 118 3) * (nI 3)).toNatClampNeg) a1).1 118 3) * (nI 3)) + (nI 1)).toNatClampNeg) a2))) hF t_s_Pr_addRow_2 rfl rfl ?_
  refine am_gd h (fun hi h => ?_)
  refine am_iast (n := 384) (j := (((((am_si (am_si τ 120 (((τ.1 118 3) * (nI 3)).toNatClampNeg) a1) 120 (((((am_si τ 120 (((τ.1 118 3) * (nI 3)).toNatClampNeg) a1).1 118 3) * (nI 3)) + (nI 1)).toNatClampNeg) a2).1 118 3) * (nI 3)) + (nI 2)).toNatClampNeg)) d_X7_addRow_39 (Nat.le_of_ble_eq_true rfl) (Nat.le_of_ble_eq_true rfl) rfl hi rfl hF ?_
  refine am_seg s_Pr_addRow_3 (y := (50, [(0, .ref 118), (1, .int a1), (2, .int a2), (3, .int a3)], [], am_D (am_si (am_si (am_si (am_si τ 120 (((τ.1 118 3) * (nI 3)).toNatClampNeg) a1) 120 (((((am_si τ 120 (((τ.1 118 3) * (nI 3)).toNatClampNeg) a1).1 118 3) * (nI 3)) + (nI 1)).toNatClampNeg) a2) 120 (((((am_si (am_si τ 120 (((τ.1 118 3) * (nI 3)).toNatClampNeg) a1) 120 (((((am_si τ 120 (((τ.1 118 3) * (nI 3)).toNatClampNeg) a1).1 118 3) * (nI 3)) + (nI 1)).toNatClampNeg) a2).1 118 3) * (nI 3)) + (nI 2)).toNatClampNeg) a3) 118 3 (((am_si (am_si (am_si τ 120 (((τ.1 118 3) * (nI 3)).toNatClampNeg) a1) 120 (((((am_si τ 120 (((τ.1 118 3) * (nI 3)).toNatClampNeg) a1).1 118 3) * (nI 3)) + (nI 1)).toNatClampNeg) a2) 120 (((((am_si (am_si τ 120 (((τ.1 118 3) * (nI 3)).toNatClampNeg) a1) 120 (((((am_si τ 120 (((τ.1 118 3) * (nI 3)).toNatClampNeg) a1).1 118 3) * (nI 3)) + (nI 1)).toNatClampNeg) a2).1 118 3) * (nI 3)) + (nI 2)).toNatClampNeg) a3).1 118 3) + (nI 1))))) hF t_s_Pr_addRow_3 rfl rfl ?_
  obtain rfl := am_one h
  exact am_vret d_X7_addRow_50 hF hB
theorem c_Pr_addRow {a1 : Int32} {a2 : Int32} {a3 : Int32} {τ τ' : am_T} (h : Pr_addRow τ a1 a2 a3 = some τ') : am_C yX7_addRow cX7_addRow 4 none 0 0 [.ref 118, .int a1, .int a2, .int a3] (am_D τ) none (am_D τ') :=
  am_enter (by decide +kernel) (Nat.le_of_ble_eq_true rfl) ⟨Nat.le_refl _, Nat.le_refl _⟩ (fun X hF hR hB => ok_Pr_addRow hF hR hB h)
def s_Pr_goesAhead_0 : List am_Q := [(0, .iload_n 1, 0, 0, 0, .null)]
theorem t_s_Pr_goesAhead_0 : s_Pr_goesAhead_0.all (am_ok 7 cX7_goesAhead) = true := by decide +kernel
theorem d_X7_goesAhead_1 : decode cX7_goesAhead 1 = .ok (.invokestatic 35, 3) := by decide +kernel
def s_Pr_goesAhead_1 : List am_Q := [(4, .iload_n 0, 0, 0, 0, .null)]
theorem t_s_Pr_goesAhead_1 : s_Pr_goesAhead_1.all (am_ok 7 cX7_goesAhead) = true := by decide +kernel
theorem d_X7_goesAhead_5 : decode cX7_goesAhead 5 = .ok (.invokestatic 35, 3) := by decide +kernel
def s_Pr_goesAhead_2 : List am_Q := [(8, .isub, 0, 0, 0, .null), (9, .istore_n 2, 0, 0, 0, .null), (10, .iload_n 0, 0, 0, 0, .null), (11, .iload_n 1, 0, 0, 0, .null), (12, .ixor, 0, 0, 0, .null), (13, .istore_n 3, 0, 0, 0, .null), (14, .iload_n 2, 0, 0, 0, .null)]
theorem t_s_Pr_goesAhead_2 : s_Pr_goesAhead_2.all (am_ok 7 cX7_goesAhead) = true := by decide +kernel
theorem d_X7_goesAhead_15 : decode cX7_goesAhead 15 = .ok (.ifCond .gt 16, 3) := by decide +kernel
def s_Pr_goesAhead_3 : List am_Q := [(31, .iconst 1, 0, 0, 0, .int (nI 1)), (32, .goto 4, 36, 0, 0, .null)]
theorem t_s_Pr_goesAhead_3 : s_Pr_goesAhead_3.all (am_ok 7 cX7_goesAhead) = true := by decide +kernel
theorem d_X7_goesAhead_36 : decode cX7_goesAhead 36 = .ok (.ireturn, 1) := by decide +kernel
def s_Pr_goesAhead_4 : List am_Q := [(18, .iload_n 2, 0, 0, 0, .null)]
theorem t_s_Pr_goesAhead_4 : s_Pr_goesAhead_4.all (am_ok 7 cX7_goesAhead) = true := by decide +kernel
theorem d_X7_goesAhead_19 : decode cX7_goesAhead 19 = .ok (.ifCond .ne 16, 3) := by decide +kernel
def s_Pr_goesAhead_5 : List am_Q := [(35, .iconst 0, 0, 0, 0, .int (nI 0))]
theorem t_s_Pr_goesAhead_5 : s_Pr_goesAhead_5.all (am_ok 7 cX7_goesAhead) = true := by decide +kernel
def s_Pr_goesAhead_6 : List am_Q := [(22, .iload_n 0, 0, 0, 0, .null), (23, .iload_n 3, 0, 0, 0, .null), (24, .iand, 0, 0, 0, .null), (25, .iload_n 3, 0, 0, 0, .null), (26, .ineg, 0, 0, 0, .null), (27, .iand, 0, 0, 0, .null)]
theorem t_s_Pr_goesAhead_6 : s_Pr_goesAhead_6.all (am_ok 7 cX7_goesAhead) = true := by decide +kernel
theorem d_X7_goesAhead_28 : decode cX7_goesAhead 28 = .ok (.ifCond .eq 7, 3) := by decide +kernel
def s_Pr_goesAhead_7 : List am_Q := [(35, .iconst 0, 0, 0, 0, .int (nI 0))]
theorem t_s_Pr_goesAhead_7 : s_Pr_goesAhead_7.all (am_ok 7 cX7_goesAhead) = true := by decide +kernel
def s_Pr_goesAhead_8 : List am_Q := [(31, .iconst 1, 0, 0, 0, .int (nI 1)), (32, .goto 4, 36, 0, 0, .null)]
theorem t_s_Pr_goesAhead_8 : s_Pr_goesAhead_8.all (am_ok 7 cX7_goesAhead) = true := by decide +kernel
def Pr_goesAhead (τ : am_T) (a0 : Int32) (a1 : Int32) : Option (Int32 × am_T) :=
  (JI_bitCount τ a1).bind (fun x1 =>
  (JI_bitCount x1.2 a0).bind (fun x2 =>
  if 0 < (x1.1 - x2.1) then
  (some ((nI 1), x2.2))
else
  (if (x1.1 - x2.1) = 0 then
  (if ((a0 &&& (a0 ^^^ a1)) &&& (-(a0 ^^^ a1))) = 0 then
  (some ((nI 0), x2.2))
else
  (some ((nI 1), x2.2)))
else
  (some ((nI 0), x2.2)))))
set_option maxRecDepth 20000 in
theorem ok_Pr_goesAhead {X : am_X} {a0 : Int32} {a1 : Int32} {v : Int32} {τ τ' : am_T} (hF : am_F X "ShareHouse$Proof" cX7_goesAhead 4) (hR : am_R X 1 20) (hB : am_B X (some .boolean) (some (.int v)) (am_D τ')) (h : Pr_goesAhead τ a0 a1 = some (v, τ')) : am_W X 4 (0, [(0, .int a0), (1, .int a1)], [], am_D τ) := by
  unfold Pr_goesAhead at h
  refine am_seg s_Pr_goesAhead_0 (y := (1, [(0, .int a0), (1, .int a1)], [.int a1], am_D τ)) hF t_s_Pr_goesAhead_0 rfl rfl ?_
  refine am_bd h (fun x1 hx h => ?_)
  refine am_callS (As := [.int a1]) (r := (some (.int x1.1))) (st := []) (σ' := am_D x1.2) hF hR d_X7_goesAhead_1 (c_JI_bitCount (τ' := x1.2) hx) (Nat.le_refl _) (Nat.le_refl _) wl_Pr_35 ws_yJ6_bitCount_0f7a4 wn_java_lang_Integer wc_yJ6_bitCount_0f7a4 wy_yJ6_bitCount_0f7a4 rfl ⟨by decide, by decide⟩ (Nat.le_of_ble_eq_true rfl) ?_
  refine am_seg s_Pr_goesAhead_1 (y := (5, [(0, .int a0), (1, .int a1)], [.int a0, .int x1.1], am_D x1.2)) hF t_s_Pr_goesAhead_1 rfl rfl ?_
  refine am_bd h (fun x2 hx h => ?_)
  refine am_callS (As := [.int a0]) (r := (some (.int x2.1))) (st := [.int x1.1]) (σ' := am_D x2.2) hF hR d_X7_goesAhead_5 (c_JI_bitCount (τ' := x2.2) hx) (Nat.le_refl _) (Nat.le_refl _) wl_Pr_35 ws_yJ6_bitCount_0f7a4 wn_java_lang_Integer wc_yJ6_bitCount_0f7a4 wy_yJ6_bitCount_0f7a4 rfl ⟨by decide, by decide⟩ (Nat.le_of_ble_eq_true rfl) ?_
  refine am_seg s_Pr_goesAhead_2 (y := (15, [(3, .int (a0 ^^^ a1)), (2, .int (x1.1 - x2.1)), (0, .int a0), (1, .int a1)], [.int (x1.1 - x2.1)], am_D x2.2)) hF t_s_Pr_goesAhead_2 rfl rfl ?_
  refine am_ite h (fun hc h => ?_) (fun hc h => ?_)
  · refine am_if_gt_t (t := 31) d_X7_goesAhead_15 (by decide) hc hF ?_
    refine am_seg s_Pr_goesAhead_3 (y := (36, [(3, .int (a0 ^^^ a1)), (2, .int (x1.1 - x2.1)), (0, .int a0), (1, .int a1)], [.int (nI 1)], am_D x2.2)) hF t_s_Pr_goesAhead_3 rfl rfl ?_
    obtain ⟨rfl, rfl⟩ := am_pair h
    exact am_zret d_X7_goesAhead_36 rfl hF hB
  · refine am_if_gt_f (t := 31) d_X7_goesAhead_15 (by decide) hc hF ?_
    refine am_seg s_Pr_goesAhead_4 (y := (19, [(3, .int (a0 ^^^ a1)), (2, .int (x1.1 - x2.1)), (0, .int a0), (1, .int a1)], [.int (x1.1 - x2.1)], am_D x2.2)) hF t_s_Pr_goesAhead_4 rfl rfl ?_
    refine am_ite h (fun hc h => ?_) (fun hc h => ?_)
    · refine am_if_ne_f (t := 35) d_X7_goesAhead_19 (by decide) hc hF ?_
      refine am_seg s_Pr_goesAhead_6 (y := (28, [(3, .int (a0 ^^^ a1)), (2, .int (x1.1 - x2.1)), (0, .int a0), (1, .int a1)], [.int ((a0 &&& (a0 ^^^ a1)) &&& (-(a0 ^^^ a1)))], am_D x2.2)) hF t_s_Pr_goesAhead_6 rfl rfl ?_
      refine am_ite h (fun hc h => ?_) (fun hc h => ?_)
      · refine am_if_eq_t (t := 35) d_X7_goesAhead_28 (by decide) hc hF ?_
        refine am_seg s_Pr_goesAhead_7 (y := (36, [(3, .int (a0 ^^^ a1)), (2, .int (x1.1 - x2.1)), (0, .int a0), (1, .int a1)], [.int (nI 0)], am_D x2.2)) hF t_s_Pr_goesAhead_7 rfl rfl ?_
        obtain ⟨rfl, rfl⟩ := am_pair h
        exact am_zret d_X7_goesAhead_36 rfl hF hB
      · refine am_if_eq_f (t := 35) d_X7_goesAhead_28 (by decide) hc hF ?_
        refine am_seg s_Pr_goesAhead_8 (y := (36, [(3, .int (a0 ^^^ a1)), (2, .int (x1.1 - x2.1)), (0, .int a0), (1, .int a1)], [.int (nI 1)], am_D x2.2)) hF t_s_Pr_goesAhead_8 rfl rfl ?_
        obtain ⟨rfl, rfl⟩ := am_pair h
        exact am_zret d_X7_goesAhead_36 rfl hF hB
    · refine am_if_ne_t (t := 35) d_X7_goesAhead_19 (by decide) hc hF ?_
      refine am_seg s_Pr_goesAhead_5 (y := (36, [(3, .int (a0 ^^^ a1)), (2, .int (x1.1 - x2.1)), (0, .int a0), (1, .int a1)], [.int (nI 0)], am_D x2.2)) hF t_s_Pr_goesAhead_5 rfl rfl ?_
      obtain ⟨rfl, rfl⟩ := am_pair h
      exact am_zret d_X7_goesAhead_36 rfl hF hB
theorem c_Pr_goesAhead {a0 : Int32} {a1 : Int32} {v : Int32} {τ τ' : am_T} (h : Pr_goesAhead τ a0 a1 = some (v, τ')) : am_C yX7_goesAhead cX7_goesAhead 4 (some .boolean) 1 20 [.int a0, .int a1] (am_D τ) (some (.int v)) (am_D τ') :=
  am_enter (by decide +kernel) (Nat.le_of_ble_eq_true rfl) ⟨Nat.le_refl _, Nat.le_refl _⟩ (fun X hF hR hB => ok_Pr_goesAhead hF hR hB h)
def s_Pr_tell_0 : List am_Q := [(0, .iconst 0, 0, 0, 0, .int (nI 0)), (1, .istore 4, 0, 0, 0, .null), (3, .iconst (-1), 0, 0, 0, .int (-1 : Int32)), (4, .istore 5, 0, 0, 0, .null), (6, .aload_n 0, 0, 0, 0, .null), (7, .iconst 0, 0, 0, 0, .int (nI 0)), (8, .putfield 26, 7, 3, 126, .null), (11, .iconst 0, 0, 0, 0, .int (nI 0)), (12, .istore 6, 0, 0, 0, .null)]
theorem t_s_Pr_tell_0 : s_Pr_tell_0.all (am_ok 7 cX7_tell) = true := by decide +kernel
def s_Pr_tell_1 : List am_Q := [(14, .iload 6, 0, 0, 0, .null), (16, .sipush 128, 0, 0, 0, .int (nI 128))]
theorem t_s_Pr_tell_1 : s_Pr_tell_1.all (am_ok 7 cX7_tell) = true := by decide +kernel
theorem d_X7_tell_19 : decode cX7_tell 19 = .ok (.if_icmp .ge 86, 3) := by decide +kernel
def s_Pr_tell_2 : List am_Q := [(105, .aload_n 0, 0, 0, 0, .null), (106, .getfield 15, 7, 2, 125, .null), (109, .aload_n 0, 0, 0, 0, .null), (110, .getfield 11, 7, 0, 121, .null)]
theorem t_s_Pr_tell_2 : s_Pr_tell_2.all (am_ok 7 cX7_tell) = true := by decide +kernel
theorem d_X7_tell_113 : decode cX7_tell 113 = .ok (.invokestatic 59, 3) := by decide +kernel
def s_Pr_tell_3 : List am_Q := [(116, .aload_n 0, 0, 0, 0, .null), (117, .aload_n 0, 0, 0, 0, .null), (118, .getfield 26, 7, 3, 126, .null), (121, .putfield 18, 7, 1, 123, .null), (124, .iload 4, 0, 0, 0, .null)]
theorem t_s_Pr_tell_3 : s_Pr_tell_3.all (am_ok 7 cX7_tell) = true := by decide +kernel
theorem d_X7_tell_126 : decode cX7_tell 126 = .ok (.ireturn, 1) := by decide +kernel
def s_Pr_tell_4 : List am_Q := [(22, .aload_n 1, 0, 0, 0, .null), (23, .iload 6, 0, 0, 0, .null)]
theorem t_s_Pr_tell_4 : s_Pr_tell_4.all (am_ok 7 cX7_tell) = true := by decide +kernel
theorem d_X7_tell_25 : decode cX7_tell 25 = .ok (.invokevirtual 29, 3) := by decide +kernel
theorem d_X7_tell_28 : decode cX7_tell 28 = .ok (.ifCond .eq 77, 3) := by decide +kernel
def s_Pr_tell_5 : List am_Q := [(31, .iload 6, 0, 0, 0, .null)]
theorem t_s_Pr_tell_5 : s_Pr_tell_5.all (am_ok 7 cX7_tell) = true := by decide +kernel
theorem d_X7_tell_33 : decode cX7_tell 33 = .ok (.invokestatic 35, 3) := by decide +kernel
def s_Pr_tell_6 : List am_Q := [(36, .iload_n 3, 0, 0, 0, .null)]
theorem t_s_Pr_tell_6 : s_Pr_tell_6.all (am_ok 7 cX7_tell) = true := by decide +kernel
theorem d_X7_tell_37 : decode cX7_tell 37 = .ok (.if_icmp .gt 62, 3) := by decide +kernel
def s_Pr_tell_7 : List am_Q := [(99, .iinc 6 1, 0, 0, 0, .int (nI 1)), (102, .goto (-88), 14, 0, 0, .null)]
theorem t_s_Pr_tell_7 : s_Pr_tell_7.all (am_ok 7 cX7_tell) = true := by decide +kernel
def s_Pr_tell_8 : List am_Q := [(40, .aload_n 1, 0, 0, 0, .null), (41, .iload 6, 0, 0, 0, .null), (43, .iload_n 2, 0, 0, 0, .null)]
theorem t_s_Pr_tell_8 : s_Pr_tell_8.all (am_ok 7 cX7_tell) = true := by decide +kernel
theorem d_X7_tell_44 : decode cX7_tell 44 = .ok (.invokevirtual 41, 3) := by decide +kernel
def s_Pr_tell_9 : List am_Q := [(47, .aload_n 0, 0, 0, 0, .null), (48, .iload 6, 0, 0, 0, .null), (50, .aload_n 1, 0, 0, 0, .null), (51, .getfield 45, 8, 5, 78, .null), (54, .aload_n 1, 0, 0, 0, .null), (55, .getfield 48, 8, 6, 81, .null)]
theorem t_s_Pr_tell_9 : s_Pr_tell_9.all (am_ok 7 cX7_tell) = true := by decide +kernel
theorem d_X7_tell_58 : decode cX7_tell 58 = .ok (.invokevirtual 51, 3) := by decide +kernel
def s_Pr_tell_10 : List am_Q := [(61, .aload_n 1, 0, 0, 0, .null), (62, .getfield 45, 8, 5, 78, .null), (65, .iload 5, 0, 0, 0, .null)]
theorem t_s_Pr_tell_10 : s_Pr_tell_10.all (am_ok 7 cX7_tell) = true := by decide +kernel
theorem d_X7_tell_67 : decode cX7_tell 67 = .ok (.if_icmp .gt 22, 3) := by decide +kernel
def s_Pr_tell_11 : List am_Q := [(89, .iload 6, 0, 0, 0, .null), (91, .istore 4, 0, 0, 0, .null), (93, .aload_n 1, 0, 0, 0, .null), (94, .getfield 45, 8, 5, 78, .null), (97, .istore 5, 0, 0, 0, .null), (99, .iinc 6 1, 0, 0, 0, .int (nI 1)), (102, .goto (-88), 14, 0, 0, .null)]
theorem t_s_Pr_tell_11 : s_Pr_tell_11.all (am_ok 7 cX7_tell) = true := by decide +kernel
def s_Pr_tell_12 : List am_Q := [(70, .aload_n 1, 0, 0, 0, .null), (71, .getfield 45, 8, 5, 78, .null), (74, .iload 5, 0, 0, 0, .null)]
theorem t_s_Pr_tell_12 : s_Pr_tell_12.all (am_ok 7 cX7_tell) = true := by decide +kernel
theorem d_X7_tell_76 : decode cX7_tell 76 = .ok (.if_icmp .ne 23, 3) := by decide +kernel
def s_Pr_tell_13 : List am_Q := [(99, .iinc 6 1, 0, 0, 0, .int (nI 1)), (102, .goto (-88), 14, 0, 0, .null)]
theorem t_s_Pr_tell_13 : s_Pr_tell_13.all (am_ok 7 cX7_tell) = true := by decide +kernel
def s_Pr_tell_14 : List am_Q := [(79, .iload 6, 0, 0, 0, .null), (81, .iload 4, 0, 0, 0, .null)]
theorem t_s_Pr_tell_14 : s_Pr_tell_14.all (am_ok 7 cX7_tell) = true := by decide +kernel
theorem d_X7_tell_83 : decode cX7_tell 83 = .ok (.invokestatic 55, 3) := by decide +kernel
theorem d_X7_tell_86 : decode cX7_tell 86 = .ok (.ifCond .eq 13, 3) := by decide +kernel
def s_Pr_tell_15 : List am_Q := [(99, .iinc 6 1, 0, 0, 0, .int (nI 1)), (102, .goto (-88), 14, 0, 0, .null)]
theorem t_s_Pr_tell_15 : s_Pr_tell_15.all (am_ok 7 cX7_tell) = true := by decide +kernel
def Pr_tell_105 (τ : am_T) (a4 : Int32) : Option (Int32 × am_T) :=
  (X_copyI τ 120 119).bind (fun x1 =>
  some (a4, (am_si x1 118 1 (x1.1 118 3))))
set_option maxRecDepth 20000 in
theorem ok_Pr_tell_105 {X : am_X} {v : Int32} {τ' : am_T} (hF : am_F X "ShareHouse$Proof" cX7_tell 7) (hR : am_R X 3 72) (hB : am_B X (some .int) (some (.int v)) (am_D τ')) {τ : am_T} {a4 : Int32} (h : Pr_tell_105 τ a4 = some (v, τ')) : am_W X 7 (105, [(0, .ref 118), (4, .int a4)], [], am_D τ) := by
  unfold Pr_tell_105 at h
  refine am_seg s_Pr_tell_2 (y := (113, [(0, .ref 118), (4, .int a4)], [.ref 119, .ref 120], am_D τ)) hF t_s_Pr_tell_2 rfl rfl ?_
  refine am_bd h (fun x1 hx h => ?_)
  refine am_callSN (As := [.ref 120, .ref 119]) (r := none) (st := []) (σ' := am_D x1) (host := "ShareHouse") hF hR d_X7_tell_113 (c_X_copyI (τ' := x1) hx) (Nat.le_refl _) (Nat.le_refl _) wk_Pr_59 ws_yX11_copy wn_ShareHouse wc_yX11_copy wy_yX11_copy rfl ⟨by decide, by decide⟩ (Nat.le_of_ble_eq_true rfl) ?_
  refine am_seg s_Pr_tell_3 (y := (126, [(0, .ref 118), (4, .int a4)], [.int a4], am_D (am_si x1 118 1 (x1.1 118 3)))) hF t_s_Pr_tell_3 rfl rfl ?_
  obtain ⟨rfl, rfl⟩ := am_pair h
  exact am_iret d_X7_tell_126 hF hB
def Pr_tell_89 (k14 : am_T → Int32 → Int32 → Int32 → Int32 → Int32 → Option (Int32 × am_T)) (τ : am_T) (a2 : Int32) (a3 : Int32) (a6 : Int32) : Option (Int32 × am_T) :=
  k14 τ a2 a3 a6 (τ.1 52 5) (a6 + (nI 1))
set_option maxRecDepth 20000 in
theorem ok_Pr_tell_89 {X : am_X} {v : Int32} {τ' : am_T} (hF : am_F X "ShareHouse$Proof" cX7_tell 7) (hR : am_R X 3 72) (hB : am_B X (some .int) (some (.int v)) (am_D τ')) {k14 : am_T → Int32 → Int32 → Int32 → Int32 → Int32 → Option (Int32 × am_T)} (hk14 : ∀ (τ : am_T) (a2 : Int32) (a3 : Int32) (a4 : Int32) (a5 : Int32) (a6 : Int32), k14 τ a2 a3 a4 a5 a6 = some (v, τ') → am_W X 7 (14, [(0, .ref 118), (1, .ref 52), (2, .int a2), (3, .int a3), (4, .int a4), (5, .int a5), (6, .int a6)], [], am_D τ)) {τ : am_T} {a2 : Int32} {a3 : Int32} {a6 : Int32} (h : Pr_tell_89 k14 τ a2 a3 a6 = some (v, τ')) : am_W X 7 (89, [(0, .ref 118), (1, .ref 52), (2, .int a2), (3, .int a3), (6, .int a6)], [], am_D τ) := by
  unfold Pr_tell_89 at h
  refine am_seg s_Pr_tell_11 (y := (14, [(6, .int (a6 + (nI 1))), (5, .int (τ.1 52 5)), (4, .int a6), (0, .ref 118), (1, .ref 52), (2, .int a2), (3, .int a3)], [], am_D τ)) hF t_s_Pr_tell_11 rfl rfl ?_
  refine am_pick [3, 4, 5, 6, 2, 1, 0] rfl ?_
  exact hk14 _ _ _ _ _ _ h
def Pr_tell_14 : Nat → am_T → Int32 → Int32 → Int32 → Int32 → Int32 → Option (Int32 × am_T)
  | 0, _, _, _, _, _, _ => none
  | n + 1, τ, a2, a3, a4, a5, a6 =>
    if (nI 128) ≤ a6 then
  (Pr_tell_105 τ a4)
else
  ((Re_hasAll τ a6).bind (fun x2 =>
  if x2.1 = 0 then
  (Pr_tell_105 x2.2 a4)
else
  ((JI_bitCount x2.2 a6).bind (fun x3 =>
  if a3 < x3.1 then
  ((Pr_tell_14 n) x3.2 a2 a3 a4 a5 (a6 + (nI 1)))
else
  ((Re_reckon x3.2 a6 a2).bind (fun x4 =>
  (Pr_addRow x4 a6 (x4.1 52 5) (x4.1 52 6)).bind (fun x5 =>
  if a5 < (x5.1 52 5) then
  (Pr_tell_89 (Pr_tell_14 n) x5 a2 a3 a6)
else
  (if (x5.1 52 5) = a5 then
  ((Pr_goesAhead x5 a6 a4).bind (fun x6 =>
  if x6.1 = 0 then
  ((Pr_tell_14 n) x6.2 a2 a3 a4 a5 (a6 + (nI 1)))
else
  (Pr_tell_89 (Pr_tell_14 n) x6.2 a2 a3 a6)))
else
  ((Pr_tell_14 n) x5 a2 a3 a4 a5 (a6 + (nI 1)))))))))))
set_option maxRecDepth 20000 in
theorem ok_Pr_tell_14 {X : am_X} {v : Int32} {τ' : am_T} (hF : am_F X "ShareHouse$Proof" cX7_tell 7) (hR : am_R X 3 72) (hB : am_B X (some .int) (some (.int v)) (am_D τ')) : ∀ (n : Nat) (τ : am_T) (a2 : Int32) (a3 : Int32) (a4 : Int32) (a5 : Int32) (a6 : Int32), Pr_tell_14 n τ a2 a3 a4 a5 a6 = some (v, τ') → am_W X 7 (14, [(0, .ref 118), (1, .ref 52), (2, .int a2), (3, .int a3), (4, .int a4), (5, .int a5), (6, .int a6)], [], am_D τ) := by
  intro n
  induction n with
  | zero => intro τ a2 a3 a4 a5 a6 h; unfold Pr_tell_14 at h; cases h
  | succ n ih =>
    intro τ a2 a3 a4 a5 a6 h
    unfold Pr_tell_14 at h
    refine am_seg s_Pr_tell_1 (y := (19, [(0, .ref 118), (1, .ref 52), (2, .int a2), (3, .int a3), (4, .int a4), (5, .int a5), (6, .int a6)], [.int (nI 128), .int a6], am_D τ)) hF t_s_Pr_tell_1 rfl rfl ?_
    refine am_ite h (fun hc h => ?_) (fun hc h => ?_)
    · refine am_icmp_ge_t (t := 105) d_X7_tell_19 (by decide) hc hF ?_
      refine am_pick [0, 4] rfl ?_
      exact ok_Pr_tell_105 hF hR hB h
    · refine am_icmp_ge_f (t := 105) d_X7_tell_19 (by decide) hc hF ?_
      refine am_seg s_Pr_tell_4 (y := (25, [(0, .ref 118), (1, .ref 52), (2, .int a2), (3, .int a3), (4, .int a4), (5, .int a5), (6, .int a6)], [.int a6, .ref 52], am_D τ)) hF t_s_Pr_tell_4 rfl rfl ?_
      refine am_bd h (fun x2 hx h => ?_)
      refine am_callV (As := [.int a6]) (r := (some (.int x2.1))) (st := []) (σ' := am_D x2.2) (ci := 8) hF hR d_X7_tell_25 (c_Re_hasAll (τ' := x2.2) hx) (Nat.le_refl _) (Nat.le_refl _) wl_Pr_29 wi_yX8_hasAll we_yX8_hasAll wn_ShareHouse_Reserve wc_yX8_hasAll (Nat.le_of_ble_eq_true rfl) (Nat.le_of_ble_eq_true rfl) rfl rfl wy_yX8_hasAll rfl ⟨by decide, by decide⟩ (Nat.le_of_ble_eq_true rfl) ?_
      refine am_ite h (fun hc h => ?_) (fun hc h => ?_)
      · refine am_if_eq_t (t := 105) d_X7_tell_28 (by decide) hc hF ?_
        refine am_pick [0, 4] rfl ?_
        exact ok_Pr_tell_105 hF hR hB h
      · refine am_if_eq_f (t := 105) d_X7_tell_28 (by decide) hc hF ?_
        refine am_seg s_Pr_tell_5 (y := (33, [(0, .ref 118), (1, .ref 52), (2, .int a2), (3, .int a3), (4, .int a4), (5, .int a5), (6, .int a6)], [.int a6], am_D x2.2)) hF t_s_Pr_tell_5 rfl rfl ?_
        refine am_bd h (fun x3 hx h => ?_)
        refine am_callS (As := [.int a6]) (r := (some (.int x3.1))) (st := []) (σ' := am_D x3.2) hF hR d_X7_tell_33 (c_JI_bitCount (τ' := x3.2) hx) (Nat.le_refl _) (Nat.le_refl _) wl_Pr_35 ws_yJ6_bitCount_0f7a4 wn_java_lang_Integer wc_yJ6_bitCount_0f7a4 wy_yJ6_bitCount_0f7a4 rfl ⟨by decide, by decide⟩ (Nat.le_of_ble_eq_true rfl) ?_
        refine am_seg s_Pr_tell_6 (y := (37, [(0, .ref 118), (1, .ref 52), (2, .int a2), (3, .int a3), (4, .int a4), (5, .int a5), (6, .int a6)], [.int a3, .int x3.1], am_D x3.2)) hF t_s_Pr_tell_6 rfl rfl ?_
        refine am_ite h (fun hc h => ?_) (fun hc h => ?_)
        · refine am_icmp_gt_t (t := 99) d_X7_tell_37 (by decide) hc hF ?_
          refine am_seg s_Pr_tell_7 (y := (14, [(6, .int (a6 + (nI 1))), (0, .ref 118), (1, .ref 52), (2, .int a2), (3, .int a3), (4, .int a4), (5, .int a5)], [], am_D x3.2)) hF t_s_Pr_tell_7 rfl rfl ?_
          refine am_pick [1, 2, 3, 4, 5, 6, 0] rfl ?_
          exact ih _ _ _ _ _ _ h
        · refine am_icmp_gt_f (t := 99) d_X7_tell_37 (by decide) hc hF ?_
          refine am_seg s_Pr_tell_8 (y := (44, [(0, .ref 118), (1, .ref 52), (2, .int a2), (3, .int a3), (4, .int a4), (5, .int a5), (6, .int a6)], [.int a2, .int a6, .ref 52], am_D x3.2)) hF t_s_Pr_tell_8 rfl rfl ?_
          refine am_bd h (fun x4 hx h => ?_)
          refine am_callV (As := [.int a6, .int a2]) (r := none) (st := []) (σ' := am_D x4) (ci := 8) hF hR d_X7_tell_44 (c_Re_reckon (τ' := x4) hx) (Nat.le_refl _) (Nat.le_refl _) wl_Pr_41 wi_yX8_reckon we_yX8_reckon wn_ShareHouse_Reserve wc_yX8_reckon (Nat.le_of_ble_eq_true rfl) (Nat.le_of_ble_eq_true rfl) rfl rfl wy_yX8_reckon rfl ⟨by decide, by decide⟩ (Nat.le_of_ble_eq_true rfl) ?_
          refine am_seg s_Pr_tell_9 (y := (58, [(0, .ref 118), (1, .ref 52), (2, .int a2), (3, .int a3), (4, .int a4), (5, .int a5), (6, .int a6)], [.int (x4.1 52 6), .int (x4.1 52 5), .int a6, .ref 118], am_D x4)) hF t_s_Pr_tell_9 rfl rfl ?_
          refine am_bd h (fun x5 hx h => ?_)
          refine am_callV (As := [.int a6, .int (x4.1 52 5), .int (x4.1 52 6)]) (r := none) (st := []) (σ' := am_D x5) (ci := 7) hF hR d_X7_tell_58 (c_Pr_addRow (τ' := x5) hx) (Nat.le_refl _) (Nat.le_refl _) wl_Pr_51 wi_yX7_addRow we_yX7_addRow wn_ShareHouse_Proof wc_yX7_addRow (Nat.le_of_ble_eq_true rfl) (Nat.le_of_ble_eq_true rfl) rfl rfl wy_yX7_addRow rfl ⟨by decide, by decide⟩ (Nat.le_of_ble_eq_true rfl) ?_
          refine am_seg s_Pr_tell_10 (y := (67, [(0, .ref 118), (1, .ref 52), (2, .int a2), (3, .int a3), (4, .int a4), (5, .int a5), (6, .int a6)], [.int a5, .int (x5.1 52 5)], am_D x5)) hF t_s_Pr_tell_10 rfl rfl ?_
          refine am_ite h (fun hc h => ?_) (fun hc h => ?_)
          · refine am_icmp_gt_t (t := 89) d_X7_tell_67 (by decide) hc hF ?_
            refine am_pick [0, 1, 2, 3, 6] rfl ?_
            exact ok_Pr_tell_89 hF hR hB ih h
          · refine am_icmp_gt_f (t := 89) d_X7_tell_67 (by decide) hc hF ?_
            refine am_seg s_Pr_tell_12 (y := (76, [(0, .ref 118), (1, .ref 52), (2, .int a2), (3, .int a3), (4, .int a4), (5, .int a5), (6, .int a6)], [.int a5, .int (x5.1 52 5)], am_D x5)) hF t_s_Pr_tell_12 rfl rfl ?_
            refine am_ite h (fun hc h => ?_) (fun hc h => ?_)
            · refine am_icmp_ne_f (t := 99) d_X7_tell_76 (by decide) hc hF ?_
              refine am_seg s_Pr_tell_14 (y := (83, [(0, .ref 118), (1, .ref 52), (2, .int a2), (3, .int a3), (4, .int a4), (5, .int a5), (6, .int a6)], [.int a4, .int a6], am_D x5)) hF t_s_Pr_tell_14 rfl rfl ?_
              refine am_bd h (fun x6 hx h => ?_)
              refine am_callS (As := [.int a6, .int a4]) (r := (some (.int x6.1))) (st := []) (σ' := am_D x6.2) hF hR d_X7_tell_83 (c_Pr_goesAhead (τ' := x6.2) hx) (Nat.le_refl _) (Nat.le_refl _) wl_Pr_55 ws_yX7_goesAhead wn_ShareHouse_Proof wc_yX7_goesAhead wy_yX7_goesAhead rfl ⟨by decide, by decide⟩ (Nat.le_of_ble_eq_true rfl) ?_
              refine am_ite h (fun hc h => ?_) (fun hc h => ?_)
              · refine am_if_eq_t (t := 99) d_X7_tell_86 (by decide) hc hF ?_
                refine am_seg s_Pr_tell_15 (y := (14, [(6, .int (a6 + (nI 1))), (0, .ref 118), (1, .ref 52), (2, .int a2), (3, .int a3), (4, .int a4), (5, .int a5)], [], am_D x6.2)) hF t_s_Pr_tell_15 rfl rfl ?_
                refine am_pick [1, 2, 3, 4, 5, 6, 0] rfl ?_
                exact ih _ _ _ _ _ _ h
              · refine am_if_eq_f (t := 99) d_X7_tell_86 (by decide) hc hF ?_
                refine am_pick [0, 1, 2, 3, 6] rfl ?_
                exact ok_Pr_tell_89 hF hR hB ih h
            · refine am_icmp_ne_t (t := 99) d_X7_tell_76 (by decide) hc hF ?_
              refine am_seg s_Pr_tell_13 (y := (14, [(6, .int (a6 + (nI 1))), (0, .ref 118), (1, .ref 52), (2, .int a2), (3, .int a3), (4, .int a4), (5, .int a5)], [], am_D x5)) hF t_s_Pr_tell_13 rfl rfl ?_
              refine am_pick [1, 2, 3, 4, 5, 6, 0] rfl ?_
              exact ih _ _ _ _ _ _ h
def Pr_tell (τ : am_T) (a2 : Int32) (a3 : Int32) : Option (Int32 × am_T) :=
  Pr_tell_14 5000 (am_si τ 118 3 (nI 0)) a2 a3 (nI 0) (-1 : Int32) (nI 0)
set_option maxRecDepth 20000 in
theorem ok_Pr_tell {X : am_X} {a2 : Int32} {a3 : Int32} {v : Int32} {τ τ' : am_T} (hF : am_F X "ShareHouse$Proof" cX7_tell 7) (hR : am_R X 3 72) (hB : am_B X (some .int) (some (.int v)) (am_D τ')) (h : Pr_tell τ a2 a3 = some (v, τ')) : am_W X 7 (0, [(0, .ref 118), (1, .ref 52), (2, .int a2), (3, .int a3)], [], am_D τ) := by
  unfold Pr_tell at h
  refine am_seg s_Pr_tell_0 (y := (14, [(6, .int (nI 0)), (5, .int (-1 : Int32)), (4, .int (nI 0)), (0, .ref 118), (1, .ref 52), (2, .int a2), (3, .int a3)], [], am_D (am_si τ 118 3 (nI 0)))) hF t_s_Pr_tell_0 rfl rfl ?_
  refine am_pick [3, 4, 5, 6, 2, 1, 0] rfl ?_
  exact ok_Pr_tell_14 hF hR hB _ _ _ _ _ _ _ h
theorem c_Pr_tell {a2 : Int32} {a3 : Int32} {v : Int32} {τ τ' : am_T} (h : Pr_tell τ a2 a3 = some (v, τ')) : am_C yX7_tell cX7_tell 7 (some .int) 3 72 [.ref 118, .ref 52, .int a2, .int a3] (am_D τ) (some (.int v)) (am_D τ') :=
  am_enter (by decide +kernel) (Nat.le_of_ble_eq_true rfl) ⟨Nat.le_refl _, Nat.le_refl _⟩ (fun X hF hR hB => ok_Pr_tell hF hR hB h)
def s_X_worst_0 : List am_Q := [(0, .iload_n 1, 0, 0, 0, .null), (1, .iconst 0, 0, 0, 0, .int (nI 0)), (2, .bipush 7, 0, 0, 0, .int (nI 7))]
theorem t_s_X_worst_0 : s_X_worst_0.all (am_ok 11 cX11_worst) = true := by decide +kernel
theorem d_X11_worst_4 : decode cX11_worst 4 = .ok (.invokestatic 47, 3) := by decide +kernel
theorem d_X11_worst_7 : decode cX11_worst 7 = .ok (.ifCond .eq 28, 3) := by decide +kernel
def s_X_worst_1 : List am_Q := [(35, .iconst (-1), 0, 0, 0, .int (-1 : Int32))]
theorem t_s_X_worst_1 : s_X_worst_1.all (am_ok 11 cX11_worst) = true := by decide +kernel
theorem d_X11_worst_36 : decode cX11_worst 36 = .ok (.ireturn, 1) := by decide +kernel
def s_X_worst_2 : List am_Q := [(10, .aload_n 0, 0, 0, 0, .null), (11, .getfield 29, 11, 4, 149, .null), (14, .aload_n 0, 0, 0, 0, .null), (15, .getfield 10, 11, 0, 145, .null), (18, .getfield 282, 3, 7, 108, .null), (21, .aload_n 0, 0, 0, 0, .null), (22, .getfield 10, 11, 0, 145, .null)]
theorem t_s_X_worst_2 : s_X_worst_2.all (am_ok 11 cX11_worst) = true := by decide +kernel
theorem d_X11_worst_25 : decode cX11_worst 25 = .ok (.invokevirtual 293, 3) := by decide +kernel
def s_X_worst_3 : List am_Q := [(28, .iload_n 1, 0, 0, 0, .null)]
theorem t_s_X_worst_3 : s_X_worst_3.all (am_ok 11 cX11_worst) = true := by decide +kernel
theorem d_X11_worst_29 : decode cX11_worst 29 = .ok (.invokevirtual 308, 3) := by decide +kernel
def s_X_worst_4 : List am_Q := [(32, .goto 4, 36, 0, 0, .null)]
theorem t_s_X_worst_4 : s_X_worst_4.all (am_ok 11 cX11_worst) = true := by decide +kernel
def X_worst (τ : am_T) (a1 : Int32) : Option (Int32 × am_T) :=
  (X_within τ a1 (nI 0) (nI 7)).bind (fun x1 =>
  if x1.1 = 0 then
  (some ((-1 : Int32), x1.2))
else
  ((Ho_lack x1.2).bind (fun x2 =>
  (Pr_tell x2.2 x2.1 a1).bind (fun x3 =>
  some (x3.1, x3.2)))))
set_option maxRecDepth 20000 in
theorem ok_X_worst {X : am_X} {a1 : Int32} {v : Int32} {τ τ' : am_T} (hF : am_F X "ShareHouse" cX11_worst 2) (hR : am_R X 4 98) (hB : am_B X (some .int) (some (.int v)) (am_D τ')) (h : X_worst τ a1 = some (v, τ')) : am_W X 2 (0, [(0, .ref 0), (1, .int a1)], [], am_D τ) := by
  unfold X_worst at h
  refine am_seg s_X_worst_0 (y := (4, [(0, .ref 0), (1, .int a1)], [.int (nI 7), .int (nI 0), .int a1], am_D τ)) hF t_s_X_worst_0 rfl rfl ?_
  refine am_bd h (fun x1 hx h => ?_)
  refine am_callS (As := [.int a1, .int (nI 0), .int (nI 7)]) (r := (some (.int x1.1))) (st := []) (σ' := am_D x1.2) hF hR d_X11_worst_4 (c_X_within (τ' := x1.2) hx) (Nat.le_refl _) (Nat.le_refl _) wl_X_47 ws_yX11_within wn_ShareHouse wc_yX11_within wy_yX11_within rfl ⟨by decide, by decide⟩ (Nat.le_of_ble_eq_true rfl) ?_
  refine am_ite h (fun hc h => ?_) (fun hc h => ?_)
  · refine am_if_eq_t (t := 35) d_X11_worst_7 (by decide) hc hF ?_
    refine am_seg s_X_worst_1 (y := (36, [(0, .ref 0), (1, .int a1)], [.int (-1 : Int32)], am_D x1.2)) hF t_s_X_worst_1 rfl rfl ?_
    obtain ⟨rfl, rfl⟩ := am_pair h
    exact am_iret d_X11_worst_36 hF hB
  · refine am_if_eq_f (t := 35) d_X11_worst_7 (by decide) hc hF ?_
    refine am_seg s_X_worst_2 (y := (25, [(0, .ref 0), (1, .int a1)], [.ref 1, .ref 52, .ref 118], am_D x1.2)) hF t_s_X_worst_2 rfl rfl ?_
    refine am_bd h (fun x2 hx h => ?_)
    refine am_callV (As := []) (r := (some (.int x2.1))) (st := [.ref 52, .ref 118]) (σ' := am_D x2.2) (ci := 3) hF hR d_X11_worst_25 (c_Ho_lack (τ' := x2.2) hx) (Nat.le_refl _) (Nat.le_refl _) wl_X_293 wi_yX3_lack we_yX3_lack wn_ShareHouse_House wc_yX3_lack (Nat.le_of_ble_eq_true rfl) (Nat.le_of_ble_eq_true rfl) rfl rfl wy_yX3_lack rfl ⟨by decide, by decide⟩ (Nat.le_of_ble_eq_true rfl) ?_
    refine am_seg s_X_worst_3 (y := (29, [(0, .ref 0), (1, .int a1)], [.int a1, .int x2.1, .ref 52, .ref 118], am_D x2.2)) hF t_s_X_worst_3 rfl rfl ?_
    refine am_bd h (fun x3 hx h => ?_)
    refine am_callV (As := [.ref 52, .int x2.1, .int a1]) (r := (some (.int x3.1))) (st := []) (σ' := am_D x3.2) (ci := 7) hF hR d_X11_worst_29 (c_Pr_tell (τ' := x3.2) hx) (Nat.le_refl _) (Nat.le_refl _) wl_X_308 wi_yX7_tell we_yX7_tell wn_ShareHouse_Proof wc_yX7_tell (Nat.le_of_ble_eq_true rfl) (Nat.le_of_ble_eq_true rfl) rfl rfl wy_yX7_tell rfl ⟨by decide, by decide⟩ (Nat.le_of_ble_eq_true rfl) ?_
    refine am_seg s_X_worst_4 (y := (36, [(0, .ref 0), (1, .int a1)], [.int x3.1], am_D x3.2)) hF t_s_X_worst_4 rfl rfl ?_
    obtain ⟨rfl, rfl⟩ := am_pair h
    exact am_iret d_X11_worst_36 hF hB
theorem c_X_worst {a1 : Int32} {v : Int32} {τ τ' : am_T} (h : X_worst τ a1 = some (v, τ')) : am_C yX11_worst cX11_worst 2 (some .int) 4 98 [.ref 0, .int a1] (am_D τ) (some (.int v)) (am_D τ') :=
  am_enter (by decide +kernel) (Nat.le_of_ble_eq_true rfl) ⟨Nat.le_refl _, Nat.le_refl _⟩ (fun X hF hR hB => ok_X_worst hF hR hB h)
def s_Pr_has_0 : List am_Q := [(0, .iload_n 1, 0, 0, 0, .null), (1, .iconst 0, 0, 0, 0, .int (nI 0)), (2, .aload_n 0, 0, 0, 0, .null), (3, .getfield 18, 7, 1, 123, .null), (6, .iconst 1, 0, 0, 0, .int (nI 1)), (7, .isub, 0, 0, 0, .null)]
theorem t_s_Pr_has_0 : s_Pr_has_0.all (am_ok 7 cX7_has) = true := by decide +kernel
theorem d_X7_has_8 : decode cX7_has 8 = .ok (.invokestatic 22, 3) := by decide +kernel
theorem d_X7_has_11 : decode cX7_has 11 = .ok (.ifCond .eq 16, 3) := by decide +kernel
def s_Pr_has_1 : List am_Q := [(27, .iconst 0, 0, 0, 0, .int (nI 0))]
theorem t_s_Pr_has_1 : s_Pr_has_1.all (am_ok 7 cX7_has) = true := by decide +kernel
theorem d_X7_has_28 : decode cX7_has 28 = .ok (.ireturn, 1) := by decide +kernel
def s_Pr_has_2 : List am_Q := [(14, .iload_n 2, 0, 0, 0, .null), (15, .iconst 0, 0, 0, 0, .int (nI 0)), (16, .iconst 2, 0, 0, 0, .int (nI 2))]
theorem t_s_Pr_has_2 : s_Pr_has_2.all (am_ok 7 cX7_has) = true := by decide +kernel
theorem d_X7_has_17 : decode cX7_has 17 = .ok (.invokestatic 22, 3) := by decide +kernel
theorem d_X7_has_20 : decode cX7_has 20 = .ok (.ifCond .eq 7, 3) := by decide +kernel
def s_Pr_has_3 : List am_Q := [(27, .iconst 0, 0, 0, 0, .int (nI 0))]
theorem t_s_Pr_has_3 : s_Pr_has_3.all (am_ok 7 cX7_has) = true := by decide +kernel
def s_Pr_has_4 : List am_Q := [(23, .iconst 1, 0, 0, 0, .int (nI 1)), (24, .goto 4, 28, 0, 0, .null)]
theorem t_s_Pr_has_4 : s_Pr_has_4.all (am_ok 7 cX7_has) = true := by decide +kernel
def Pr_has (τ : am_T) (a1 : Int32) (a2 : Int32) : Option (Int32 × am_T) :=
  (X_within τ a1 (nI 0) ((τ.1 118 1) - (nI 1))).bind (fun x1 =>
  if x1.1 = 0 then
  (some ((nI 0), x1.2))
else
  ((X_within x1.2 a2 (nI 0) (nI 2)).bind (fun x2 =>
  if x2.1 = 0 then
  (some ((nI 0), x2.2))
else
  (some ((nI 1), x2.2)))))
set_option maxRecDepth 20000 in
theorem ok_Pr_has {X : am_X} {a1 : Int32} {a2 : Int32} {v : Int32} {τ τ' : am_T} (hF : am_F X "ShareHouse$Proof" cX7_has 3) (hR : am_R X 1 22) (hB : am_B X (some .boolean) (some (.int v)) (am_D τ')) (h : Pr_has τ a1 a2 = some (v, τ')) : am_W X 3 (0, [(0, .ref 118), (1, .int a1), (2, .int a2)], [], am_D τ) := by
  unfold Pr_has at h
  refine am_seg s_Pr_has_0 (y := (8, [(0, .ref 118), (1, .int a1), (2, .int a2)], [.int ((τ.1 118 1) - (nI 1)), .int (nI 0), .int a1], am_D τ)) hF t_s_Pr_has_0 rfl rfl ?_
  refine am_bd h (fun x1 hx h => ?_)
  refine am_callSN (As := [.int a1, .int (nI 0), .int ((τ.1 118 1) - (nI 1))]) (r := (some (.int x1.1))) (st := []) (σ' := am_D x1.2) (host := "ShareHouse") hF hR d_X7_has_8 (c_X_within (τ' := x1.2) hx) (Nat.le_refl _) (Nat.le_refl _) wk_Pr_22 ws_yX11_within wn_ShareHouse wc_yX11_within wy_yX11_within rfl ⟨by decide, by decide⟩ (Nat.le_of_ble_eq_true rfl) ?_
  refine am_ite h (fun hc h => ?_) (fun hc h => ?_)
  · refine am_if_eq_t (t := 27) d_X7_has_11 (by decide) hc hF ?_
    refine am_seg s_Pr_has_1 (y := (28, [(0, .ref 118), (1, .int a1), (2, .int a2)], [.int (nI 0)], am_D x1.2)) hF t_s_Pr_has_1 rfl rfl ?_
    obtain ⟨rfl, rfl⟩ := am_pair h
    exact am_zret d_X7_has_28 rfl hF hB
  · refine am_if_eq_f (t := 27) d_X7_has_11 (by decide) hc hF ?_
    refine am_seg s_Pr_has_2 (y := (17, [(0, .ref 118), (1, .int a1), (2, .int a2)], [.int (nI 2), .int (nI 0), .int a2], am_D x1.2)) hF t_s_Pr_has_2 rfl rfl ?_
    refine am_bd h (fun x2 hx h => ?_)
    refine am_callSN (As := [.int a2, .int (nI 0), .int (nI 2)]) (r := (some (.int x2.1))) (st := []) (σ' := am_D x2.2) (host := "ShareHouse") hF hR d_X7_has_17 (c_X_within (τ' := x2.2) hx) (Nat.le_refl _) (Nat.le_refl _) wk_Pr_22 ws_yX11_within wn_ShareHouse wc_yX11_within wy_yX11_within rfl ⟨by decide, by decide⟩ (Nat.le_of_ble_eq_true rfl) ?_
    refine am_ite h (fun hc h => ?_) (fun hc h => ?_)
    · refine am_if_eq_t (t := 27) d_X7_has_20 (by decide) hc hF ?_
      refine am_seg s_Pr_has_3 (y := (28, [(0, .ref 118), (1, .int a1), (2, .int a2)], [.int (nI 0)], am_D x2.2)) hF t_s_Pr_has_3 rfl rfl ?_
      obtain ⟨rfl, rfl⟩ := am_pair h
      exact am_zret d_X7_has_28 rfl hF hB
    · refine am_if_eq_f (t := 27) d_X7_has_20 (by decide) hc hF ?_
      refine am_seg s_Pr_has_4 (y := (28, [(0, .ref 118), (1, .int a1), (2, .int a2)], [.int (nI 1)], am_D x2.2)) hF t_s_Pr_has_4 rfl rfl ?_
      obtain ⟨rfl, rfl⟩ := am_pair h
      exact am_zret d_X7_has_28 rfl hF hB
theorem c_Pr_has {a1 : Int32} {a2 : Int32} {v : Int32} {τ τ' : am_T} (h : Pr_has τ a1 a2 = some (v, τ')) : am_C yX7_has cX7_has 3 (some .boolean) 1 22 [.ref 118, .int a1, .int a2] (am_D τ) (some (.int v)) (am_D τ') :=
  am_enter (by decide +kernel) (Nat.le_of_ble_eq_true rfl) ⟨Nat.le_refl _, Nat.le_refl _⟩ (fun X hF hR hB => ok_Pr_has hF hR hB h)
def s_X_row_0 : List am_Q := [(0, .aload_n 0, 0, 0, 0, .null), (1, .getfield 29, 11, 4, 149, .null), (4, .iload_n 1, 0, 0, 0, .null), (5, .iload_n 2, 0, 0, 0, .null)]
theorem t_s_X_row_0 : s_X_row_0.all (am_ok 11 cX11_row) = true := by decide +kernel
theorem d_X11_row_6 : decode cX11_row 6 = .ok (.invokevirtual 312, 3) := by decide +kernel
theorem d_X11_row_9 : decode cX11_row 9 = .ok (.ifCond .eq 19, 3) := by decide +kernel
def s_X_row_1 : List am_Q := [(28, .ldc 205, 0, 0, 3, .int (-1000000000 : Int32))]
theorem t_s_X_row_1 : s_X_row_1.all (am_ok 11 cX11_row) = true := by decide +kernel
theorem d_X11_row_30 : decode cX11_row 30 = .ok (.ireturn, 1) := by decide +kernel
def s_X_row_2 : List am_Q := [(12, .aload_n 0, 0, 0, 0, .null), (13, .getfield 29, 11, 4, 149, .null), (16, .getfield 314, 7, 0, 122, .null), (19, .iload_n 1, 0, 0, 0, .null), (20, .iconst 3, 0, 0, 0, .int (nI 3)), (21, .imul, 0, 0, 0, .null), (22, .iload_n 2, 0, 0, 0, .null), (23, .iadd, 0, 0, 0, .null)]
theorem t_s_X_row_2 : s_X_row_2.all (am_ok 11 cX11_row) = true := by decide +kernel
theorem d_X11_row_24 : decode cX11_row 24 = .ok (.iaload, 1) := by decide +kernel
def s_X_row_3 : List am_Q := [(25, .goto 5, 30, 0, 0, .null)]
theorem t_s_X_row_3 : s_X_row_3.all (am_ok 11 cX11_row) = true := by decide +kernel
def X_row (τ : am_T) (a1 : Int32) (a2 : Int32) : Option (Int32 × am_T) :=
  (Pr_has τ a1 a2).bind (fun x1 =>
  if x1.1 = 0 then
  (some ((-1000000000 : Int32), x1.2))
else
  (am_g (am_in ((a1 * (nI 3)) + a2) 384) (some ((x1.2.1 119 (((a1 * (nI 3)) + a2).toNatClampNeg)), x1.2))))
set_option maxRecDepth 20000 in
theorem ok_X_row {X : am_X} {a1 : Int32} {a2 : Int32} {v : Int32} {τ τ' : am_T} (hF : am_F X "ShareHouse" cX11_row 3) (hR : am_R X 2 44) (hB : am_B X (some .int) (some (.int v)) (am_D τ')) (h : X_row τ a1 a2 = some (v, τ')) : am_W X 3 (0, [(0, .ref 0), (1, .int a1), (2, .int a2)], [], am_D τ) := by
  unfold X_row at h
  refine am_seg s_X_row_0 (y := (6, [(0, .ref 0), (1, .int a1), (2, .int a2)], [.int a2, .int a1, .ref 118], am_D τ)) hF t_s_X_row_0 rfl rfl ?_
  refine am_bd h (fun x1 hx h => ?_)
  refine am_callV (As := [.int a1, .int a2]) (r := (some (.int x1.1))) (st := []) (σ' := am_D x1.2) (ci := 7) hF hR d_X11_row_6 (c_Pr_has (τ' := x1.2) hx) (Nat.le_refl _) (Nat.le_refl _) wl_X_312 wi_yX7_has we_yX7_has wn_ShareHouse_Proof wc_yX7_has (Nat.le_of_ble_eq_true rfl) (Nat.le_of_ble_eq_true rfl) rfl rfl wy_yX7_has rfl ⟨by decide, by decide⟩ (Nat.le_of_ble_eq_true rfl) ?_
  refine am_ite h (fun hc h => ?_) (fun hc h => ?_)
  · refine am_if_eq_t (t := 28) d_X11_row_9 (by decide) hc hF ?_
    refine am_seg s_X_row_1 (y := (30, [(0, .ref 0), (1, .int a1), (2, .int a2)], [.int (-1000000000 : Int32)], am_D x1.2)) hF t_s_X_row_1 rfl rfl ?_
    obtain ⟨rfl, rfl⟩ := am_pair h
    exact am_iret d_X11_row_30 hF hB
  · refine am_if_eq_f (t := 28) d_X11_row_9 (by decide) hc hF ?_
    refine am_seg s_X_row_2 (y := (24, [(0, .ref 0), (1, .int a1), (2, .int a2)], [.int ((a1 * (nI 3)) + a2), .ref 119], am_D x1.2)) hF t_s_X_row_2 rfl rfl ?_
    refine am_gd h (fun hi h => ?_)
    refine am_iald (n := 384) (j := (((a1 * (nI 3)) + a2).toNatClampNeg)) d_X11_row_24 (Nat.le_of_ble_eq_true rfl) (Nat.le_of_ble_eq_true rfl) rfl hi rfl hF ?_
    refine am_seg s_X_row_3 (y := (30, [(0, .ref 0), (1, .int a1), (2, .int a2)], [.int (x1.2.1 119 (((a1 * (nI 3)) + a2).toNatClampNeg))], am_D x1.2)) hF t_s_X_row_3 rfl rfl ?_
    obtain ⟨rfl, rfl⟩ := am_pair h
    exact am_iret d_X11_row_30 hF hB
theorem c_X_row {a1 : Int32} {a2 : Int32} {v : Int32} {τ τ' : am_T} (h : X_row τ a1 a2 = some (v, τ')) : am_C yX11_row cX11_row 3 (some .int) 2 44 [.ref 0, .int a1, .int a2] (am_D τ) (some (.int v)) (am_D τ') :=
  am_enter (by decide +kernel) (Nat.le_of_ble_eq_true rfl) ⟨Nat.le_refl _, Nat.le_refl _⟩ (fun X hF hR hB => ok_X_row hF hR hB h)
def s_X_alter_0 : List am_Q := [(0, .aload_n 0, 0, 0, 0, .null), (1, .getfield 29, 11, 4, 149, .null), (4, .iload_n 1, 0, 0, 0, .null), (5, .iload_n 2, 0, 0, 0, .null)]
theorem t_s_X_alter_0 : s_X_alter_0.all (am_ok 11 cX11_alter) = true := by decide +kernel
theorem d_X11_alter_6 : decode cX11_alter 6 = .ok (.invokevirtual 312, 3) := by decide +kernel
theorem d_X11_alter_9 : decode cX11_alter 9 = .ok (.ifCond .ne 6, 3) := by decide +kernel
def s_X_alter_1 : List am_Q := [(15, .aload_n 0, 0, 0, 0, .null), (16, .getfield 29, 11, 4, 149, .null), (19, .getfield 314, 7, 0, 122, .null), (22, .iload_n 1, 0, 0, 0, .null), (23, .iconst 3, 0, 0, 0, .int (nI 3)), (24, .imul, 0, 0, 0, .null), (25, .iload_n 2, 0, 0, 0, .null), (26, .iadd, 0, 0, 0, .null)]
theorem t_s_X_alter_1 : s_X_alter_1.all (am_ok 11 cX11_alter) = true := by decide +kernel
theorem d_X11_alter_27 : decode cX11_alter 27 = .ok (.iaload, 1) := by decide +kernel
def s_X_alter_2 : List am_Q := [(28, .istore 4, 0, 0, 0, .null), (30, .aload_n 0, 0, 0, 0, .null), (31, .getfield 29, 11, 4, 149, .null), (34, .getfield 314, 7, 0, 122, .null), (37, .iload_n 1, 0, 0, 0, .null), (38, .iconst 3, 0, 0, 0, .int (nI 3)), (39, .imul, 0, 0, 0, .null), (40, .iload_n 2, 0, 0, 0, .null), (41, .iadd, 0, 0, 0, .null), (42, .iload_n 3, 0, 0, 0, .null)]
theorem t_s_X_alter_2 : s_X_alter_2.all (am_ok 11 cX11_alter) = true := by decide +kernel
theorem d_X11_alter_43 : decode cX11_alter 43 = .ok (.iastore, 1) := by decide +kernel
def s_X_alter_3 : List am_Q := [(44, .iload 4, 0, 0, 0, .null)]
theorem t_s_X_alter_3 : s_X_alter_3.all (am_ok 11 cX11_alter) = true := by decide +kernel
theorem d_X11_alter_46 : decode cX11_alter 46 = .ok (.ireturn, 1) := by decide +kernel
def s_X_alter_4 : List am_Q := [(12, .ldc 205, 0, 0, 3, .int (-1000000000 : Int32))]
theorem t_s_X_alter_4 : s_X_alter_4.all (am_ok 11 cX11_alter) = true := by decide +kernel
theorem d_X11_alter_14 : decode cX11_alter 14 = .ok (.ireturn, 1) := by decide +kernel
def X_alter (τ : am_T) (a1 : Int32) (a2 : Int32) (a3 : Int32) : Option (Int32 × am_T) :=
  (Pr_has τ a1 a2).bind (fun x1 =>
  if x1.1 = 0 then
  (some ((-1000000000 : Int32), x1.2))
else
  (am_g (am_in ((a1 * (nI 3)) + a2) 384) (am_g (am_in ((a1 * (nI 3)) + a2) 384) (some ((x1.2.1 119 (((a1 * (nI 3)) + a2).toNatClampNeg)), (am_si x1.2 119 (((a1 * (nI 3)) + a2).toNatClampNeg) a3))))))
set_option maxRecDepth 20000 in
theorem ok_X_alter {X : am_X} {a1 : Int32} {a2 : Int32} {a3 : Int32} {v : Int32} {τ τ' : am_T} (hF : am_F X "ShareHouse" cX11_alter 5) (hR : am_R X 2 44) (hB : am_B X (some .int) (some (.int v)) (am_D τ')) (h : X_alter τ a1 a2 a3 = some (v, τ')) : am_W X 5 (0, [(0, .ref 0), (1, .int a1), (2, .int a2), (3, .int a3)], [], am_D τ) := by
  unfold X_alter at h
  refine am_seg s_X_alter_0 (y := (6, [(0, .ref 0), (1, .int a1), (2, .int a2), (3, .int a3)], [.int a2, .int a1, .ref 118], am_D τ)) hF t_s_X_alter_0 rfl rfl ?_
  refine am_bd h (fun x1 hx h => ?_)
  refine am_callV (As := [.int a1, .int a2]) (r := (some (.int x1.1))) (st := []) (σ' := am_D x1.2) (ci := 7) hF hR d_X11_alter_6 (c_Pr_has (τ' := x1.2) hx) (Nat.le_refl _) (Nat.le_refl _) wl_X_312 wi_yX7_has we_yX7_has wn_ShareHouse_Proof wc_yX7_has (Nat.le_of_ble_eq_true rfl) (Nat.le_of_ble_eq_true rfl) rfl rfl wy_yX7_has rfl ⟨by decide, by decide⟩ (Nat.le_of_ble_eq_true rfl) ?_
  refine am_ite h (fun hc h => ?_) (fun hc h => ?_)
  · refine am_if_ne_f (t := 15) d_X11_alter_9 (by decide) hc hF ?_
    refine am_seg s_X_alter_4 (y := (14, [(0, .ref 0), (1, .int a1), (2, .int a2), (3, .int a3)], [.int (-1000000000 : Int32)], am_D x1.2)) hF t_s_X_alter_4 rfl rfl ?_
    obtain ⟨rfl, rfl⟩ := am_pair h
    exact am_iret d_X11_alter_14 hF hB
  · refine am_if_ne_t (t := 15) d_X11_alter_9 (by decide) hc hF ?_
    refine am_seg s_X_alter_1 (y := (27, [(0, .ref 0), (1, .int a1), (2, .int a2), (3, .int a3)], [.int ((a1 * (nI 3)) + a2), .ref 119], am_D x1.2)) hF t_s_X_alter_1 rfl rfl ?_
    refine am_gd h (fun hi h => ?_)
    refine am_iald (n := 384) (j := (((a1 * (nI 3)) + a2).toNatClampNeg)) d_X11_alter_27 (Nat.le_of_ble_eq_true rfl) (Nat.le_of_ble_eq_true rfl) rfl hi rfl hF ?_
    refine am_seg s_X_alter_2 (y := (43, [(4, .int (x1.2.1 119 (((a1 * (nI 3)) + a2).toNatClampNeg))), (0, .ref 0), (1, .int a1), (2, .int a2), (3, .int a3)], [.int a3, .int ((a1 * (nI 3)) + a2), .ref 119], am_D x1.2)) hF t_s_X_alter_2 rfl rfl ?_
    refine am_gd h (fun hi h => ?_)
    refine am_iast (n := 384) (j := (((a1 * (nI 3)) + a2).toNatClampNeg)) d_X11_alter_43 (Nat.le_of_ble_eq_true rfl) (Nat.le_of_ble_eq_true rfl) rfl hi rfl hF ?_
    refine am_seg s_X_alter_3 (y := (46, [(4, .int (x1.2.1 119 (((a1 * (nI 3)) + a2).toNatClampNeg))), (0, .ref 0), (1, .int a1), (2, .int a2), (3, .int a3)], [.int (x1.2.1 119 (((a1 * (nI 3)) + a2).toNatClampNeg))], am_D (am_si x1.2 119 (((a1 * (nI 3)) + a2).toNatClampNeg) a3))) hF t_s_X_alter_3 rfl rfl ?_
    obtain ⟨rfl, rfl⟩ := am_pair h
    exact am_iret d_X11_alter_46 hF hB
theorem c_X_alter {a1 : Int32} {a2 : Int32} {a3 : Int32} {v : Int32} {τ τ' : am_T} (h : X_alter τ a1 a2 a3 = some (v, τ')) : am_C yX11_alter cX11_alter 5 (some .int) 2 44 [.ref 0, .int a1, .int a2, .int a3] (am_D τ) (some (.int v)) (am_D τ') :=
  am_enter (by decide +kernel) (Nat.le_of_ble_eq_true rfl) ⟨Nat.le_refl _, Nat.le_refl _⟩ (fun X hF hR hB => ok_X_alter hF hR hB h)
def s_X_drop_0 : List am_Q := [(0, .aload_n 0, 0, 0, 0, .null), (1, .getfield 29, 11, 4, 149, .null), (4, .getfield 317, 7, 1, 124, .null)]
theorem t_s_X_drop_0 : s_X_drop_0.all (am_ok 11 cX11_drop) = true := by decide +kernel
theorem d_X11_drop_7 : decode cX11_drop 7 = .ok (.ifCond .gt 6, 3) := by decide +kernel
def s_X_drop_1 : List am_Q := [(13, .aload_n 0, 0, 0, 0, .null), (14, .getfield 29, 11, 4, 149, .null), (17, .dup, 0, 0, 0, .null), (18, .getfield 317, 7, 1, 124, .null), (21, .iconst 1, 0, 0, 0, .int (nI 1)), (22, .isub, 0, 0, 0, .null), (23, .putfield 317, 7, 1, 124, .null), (26, .aload_n 0, 0, 0, 0, .null), (27, .getfield 29, 11, 4, 149, .null), (30, .getfield 317, 7, 1, 124, .null)]
theorem t_s_X_drop_1 : s_X_drop_1.all (am_ok 11 cX11_drop) = true := by decide +kernel
theorem d_X11_drop_33 : decode cX11_drop 33 = .ok (.ireturn, 1) := by decide +kernel
def s_X_drop_2 : List am_Q := [(10, .bipush (-3), 0, 0, 0, .int (-3 : Int32))]
theorem t_s_X_drop_2 : s_X_drop_2.all (am_ok 11 cX11_drop) = true := by decide +kernel
theorem d_X11_drop_12 : decode cX11_drop 12 = .ok (.ireturn, 1) := by decide +kernel
def X_drop (τ : am_T) : Option (Int32 × am_T) :=
  if 0 < (τ.1 118 1) then
  (some (((am_si τ 118 1 ((τ.1 118 1) - (nI 1))).1 118 1), (am_si τ 118 1 ((τ.1 118 1) - (nI 1)))))
else
  (some ((-3 : Int32), τ))
set_option maxRecDepth 20000 in
theorem ok_X_drop {X : am_X} {v : Int32} {τ τ' : am_T} (hF : am_F X "ShareHouse" cX11_drop 1) (hR : am_R X 0 0) (hB : am_B X (some .int) (some (.int v)) (am_D τ')) (h : X_drop τ = some (v, τ')) : am_W X 1 (0, [(0, .ref 0)], [], am_D τ) := by
  unfold X_drop at h
  refine am_seg s_X_drop_0 (y := (7, [(0, .ref 0)], [.int (τ.1 118 1)], am_D τ)) hF t_s_X_drop_0 rfl rfl ?_
  refine am_ite h (fun hc h => ?_) (fun hc h => ?_)
  · refine am_if_gt_t (t := 13) d_X11_drop_7 (by decide) hc hF ?_
    refine am_seg s_X_drop_1 (y := (33, [(0, .ref 0)], [.int ((am_si τ 118 1 ((τ.1 118 1) - (nI 1))).1 118 1)], am_D (am_si τ 118 1 ((τ.1 118 1) - (nI 1))))) hF t_s_X_drop_1 rfl rfl ?_
    obtain ⟨rfl, rfl⟩ := am_pair h
    exact am_iret d_X11_drop_33 hF hB
  · refine am_if_gt_f (t := 13) d_X11_drop_7 (by decide) hc hF ?_
    refine am_seg s_X_drop_2 (y := (12, [(0, .ref 0)], [.int (-3 : Int32)], am_D τ)) hF t_s_X_drop_2 rfl rfl ?_
    obtain ⟨rfl, rfl⟩ := am_pair h
    exact am_iret d_X11_drop_12 hF hB
theorem c_X_drop {v : Int32} {τ τ' : am_T} (h : X_drop τ = some (v, τ')) : am_C yX11_drop cX11_drop 1 (some .int) 0 0 [.ref 0] (am_D τ) (some (.int v)) (am_D τ') :=
  am_enter (by decide +kernel) (Nat.le_of_ble_eq_true rfl) ⟨Nat.le_refl _, Nat.le_refl _⟩ (fun X hF hR hB => ok_X_drop hF hR hB h)
def s_Pr_firstWrong_0 : List am_Q := [(0, .iconst 0, 0, 0, 0, .int (nI 0)), (1, .istore_n 1, 0, 0, 0, .null)]
theorem t_s_Pr_firstWrong_0 : s_Pr_firstWrong_0.all (am_ok 7 cX7_firstWrong) = true := by decide +kernel
def s_Pr_firstWrong_1 : List am_Q := [(2, .iload_n 1, 0, 0, 0, .null), (3, .aload_n 0, 0, 0, 0, .null), (4, .getfield 18, 7, 1, 123, .null), (7, .iconst 3, 0, 0, 0, .int (nI 3)), (8, .imul, 0, 0, 0, .null)]
theorem t_s_Pr_firstWrong_1 : s_Pr_firstWrong_1.all (am_ok 7 cX7_firstWrong) = true := by decide +kernel
theorem d_X7_firstWrong_9 : decode cX7_firstWrong 9 = .ok (.if_icmp .ge 28, 3) := by decide +kernel
def s_Pr_firstWrong_2 : List am_Q := [(37, .aload_n 0, 0, 0, 0, .null), (38, .getfield 18, 7, 1, 123, .null), (41, .aload_n 0, 0, 0, 0, .null), (42, .getfield 26, 7, 3, 126, .null)]
theorem t_s_Pr_firstWrong_2 : s_Pr_firstWrong_2.all (am_ok 7 cX7_firstWrong) = true := by decide +kernel
theorem d_X7_firstWrong_45 : decode cX7_firstWrong 45 = .ok (.if_icmp .ge 10, 3) := by decide +kernel
def s_Pr_firstWrong_3 : List am_Q := [(55, .iconst (-1), 0, 0, 0, .int (-1 : Int32))]
theorem t_s_Pr_firstWrong_3 : s_Pr_firstWrong_3.all (am_ok 7 cX7_firstWrong) = true := by decide +kernel
theorem d_X7_firstWrong_56 : decode cX7_firstWrong 56 = .ok (.ireturn, 1) := by decide +kernel
def s_Pr_firstWrong_4 : List am_Q := [(48, .aload_n 0, 0, 0, 0, .null), (49, .getfield 18, 7, 1, 123, .null), (52, .goto 4, 56, 0, 0, .null)]
theorem t_s_Pr_firstWrong_4 : s_Pr_firstWrong_4.all (am_ok 7 cX7_firstWrong) = true := by decide +kernel
def s_Pr_firstWrong_5 : List am_Q := [(12, .aload_n 0, 0, 0, 0, .null), (13, .getfield 11, 7, 0, 121, .null), (16, .iload_n 1, 0, 0, 0, .null)]
theorem t_s_Pr_firstWrong_5 : s_Pr_firstWrong_5.all (am_ok 7 cX7_firstWrong) = true := by decide +kernel
theorem d_X7_firstWrong_17 : decode cX7_firstWrong 17 = .ok (.iaload, 1) := by decide +kernel
def s_Pr_firstWrong_6 : List am_Q := [(18, .aload_n 0, 0, 0, 0, .null), (19, .getfield 15, 7, 2, 125, .null), (22, .iload_n 1, 0, 0, 0, .null)]
theorem t_s_Pr_firstWrong_6 : s_Pr_firstWrong_6.all (am_ok 7 cX7_firstWrong) = true := by decide +kernel
theorem d_X7_firstWrong_23 : decode cX7_firstWrong 23 = .ok (.iaload, 1) := by decide +kernel
theorem d_X7_firstWrong_24 : decode cX7_firstWrong 24 = .ok (.if_icmp .eq 7, 3) := by decide +kernel
def s_Pr_firstWrong_7 : List am_Q := [(31, .iinc 1 1, 0, 0, 0, .int (nI 1)), (34, .goto (-32), 2, 0, 0, .null)]
theorem t_s_Pr_firstWrong_7 : s_Pr_firstWrong_7.all (am_ok 7 cX7_firstWrong) = true := by decide +kernel
def s_Pr_firstWrong_8 : List am_Q := [(27, .iload_n 1, 0, 0, 0, .null), (28, .iconst 3, 0, 0, 0, .int (nI 3))]
theorem t_s_Pr_firstWrong_8 : s_Pr_firstWrong_8.all (am_ok 7 cX7_firstWrong) = true := by decide +kernel
theorem d_X7_firstWrong_29 : decode cX7_firstWrong 29 = .ok (.idiv, 1) := by decide +kernel
theorem d_X7_firstWrong_30 : decode cX7_firstWrong 30 = .ok (.ireturn, 1) := by decide +kernel
def Pr_firstWrong_2 : Nat → am_T → Int32 → Option (Int32 × am_T)
  | 0, _, _ => none
  | n + 1, τ, a1 =>
    if ((τ.1 118 1) * (nI 3)) ≤ a1 then
  (if (τ.1 118 3) ≤ (τ.1 118 1) then
  (some ((-1 : Int32), τ))
else
  (some ((τ.1 118 1), τ)))
else
  (am_g (am_in a1 384) (am_g (am_in a1 384) (if (τ.1 119 (a1.toNatClampNeg)) = (τ.1 120 (a1.toNatClampNeg)) then
  ((Pr_firstWrong_2 n) τ (a1 + (nI 1)))
else
  (some ((a1 / (nI 3)), τ)))))
set_option maxRecDepth 20000 in
theorem ok_Pr_firstWrong_2 {X : am_X} {v : Int32} {τ' : am_T} (hF : am_F X "ShareHouse$Proof" cX7_firstWrong 2) (hR : am_R X 0 0) (hB : am_B X (some .int) (some (.int v)) (am_D τ')) : ∀ (n : Nat) (τ : am_T) (a1 : Int32), Pr_firstWrong_2 n τ a1 = some (v, τ') → am_W X 2 (2, [(0, .ref 118), (1, .int a1)], [], am_D τ) := by
  intro n
  induction n with
  | zero => intro τ a1 h; unfold Pr_firstWrong_2 at h; cases h
  | succ n ih =>
    intro τ a1 h
    unfold Pr_firstWrong_2 at h
    refine am_seg s_Pr_firstWrong_1 (y := (9, [(0, .ref 118), (1, .int a1)], [.int ((τ.1 118 1) * (nI 3)), .int a1], am_D τ)) hF t_s_Pr_firstWrong_1 rfl rfl ?_
    refine am_ite h (fun hc h => ?_) (fun hc h => ?_)
    · refine am_icmp_ge_t (t := 37) d_X7_firstWrong_9 (by decide) hc hF ?_
      refine am_seg s_Pr_firstWrong_2 (y := (45, [(0, .ref 118), (1, .int a1)], [.int (τ.1 118 3), .int (τ.1 118 1)], am_D τ)) hF t_s_Pr_firstWrong_2 rfl rfl ?_
      refine am_ite h (fun hc h => ?_) (fun hc h => ?_)
      · refine am_icmp_ge_t (t := 55) d_X7_firstWrong_45 (by decide) hc hF ?_
        refine am_seg s_Pr_firstWrong_3 (y := (56, [(0, .ref 118), (1, .int a1)], [.int (-1 : Int32)], am_D τ)) hF t_s_Pr_firstWrong_3 rfl rfl ?_
        obtain ⟨rfl, rfl⟩ := am_pair h
        exact am_iret d_X7_firstWrong_56 hF hB
      · refine am_icmp_ge_f (t := 55) d_X7_firstWrong_45 (by decide) hc hF ?_
        refine am_seg s_Pr_firstWrong_4 (y := (56, [(0, .ref 118), (1, .int a1)], [.int (τ.1 118 1)], am_D τ)) hF t_s_Pr_firstWrong_4 rfl rfl ?_
        obtain ⟨rfl, rfl⟩ := am_pair h
        exact am_iret d_X7_firstWrong_56 hF hB
    · refine am_icmp_ge_f (t := 37) d_X7_firstWrong_9 (by decide) hc hF ?_
      refine am_seg s_Pr_firstWrong_5 (y := (17, [(0, .ref 118), (1, .int a1)], [.int a1, .ref 119], am_D τ)) hF t_s_Pr_firstWrong_5 rfl rfl ?_
      refine am_gd h (fun hi h => ?_)
      refine am_iald (n := 384) (j := (a1.toNatClampNeg)) d_X7_firstWrong_17 (Nat.le_of_ble_eq_true rfl) (Nat.le_of_ble_eq_true rfl) rfl hi rfl hF ?_
      refine am_seg s_Pr_firstWrong_6 (y := (23, [(0, .ref 118), (1, .int a1)], [.int a1, .ref 120, .int (τ.1 119 (a1.toNatClampNeg))], am_D τ)) hF t_s_Pr_firstWrong_6 rfl rfl ?_
      refine am_gd h (fun hi h => ?_)
      refine am_iald (n := 384) (j := (a1.toNatClampNeg)) d_X7_firstWrong_23 (Nat.le_of_ble_eq_true rfl) (Nat.le_of_ble_eq_true rfl) rfl hi rfl hF ?_
      refine am_ite h (fun hc h => ?_) (fun hc h => ?_)
      · refine am_icmp_eq_t (t := 31) d_X7_firstWrong_24 (by decide) hc hF ?_
        refine am_seg s_Pr_firstWrong_7 (y := (2, [(1, .int (a1 + (nI 1))), (0, .ref 118)], [], am_D τ)) hF t_s_Pr_firstWrong_7 rfl rfl ?_
        refine am_pick [1, 0] rfl ?_
        exact ih _ _ h
      · refine am_icmp_eq_f (t := 31) d_X7_firstWrong_24 (by decide) hc hF ?_
        refine am_seg s_Pr_firstWrong_8 (y := (29, [(0, .ref 118), (1, .int a1)], [.int (nI 3), .int a1], am_D τ)) hF t_s_Pr_firstWrong_8 rfl rfl ?_
        refine am_idiv d_X7_firstWrong_29 (by decide) hF ?_
        obtain ⟨rfl, rfl⟩ := am_pair h
        exact am_iret d_X7_firstWrong_30 hF hB
def Pr_firstWrong (τ : am_T) : Option (Int32 × am_T) :=
  Pr_firstWrong_2 5000 τ (nI 0)
set_option maxRecDepth 20000 in
theorem ok_Pr_firstWrong {X : am_X} {v : Int32} {τ τ' : am_T} (hF : am_F X "ShareHouse$Proof" cX7_firstWrong 2) (hR : am_R X 0 0) (hB : am_B X (some .int) (some (.int v)) (am_D τ')) (h : Pr_firstWrong τ = some (v, τ')) : am_W X 2 (0, [(0, .ref 118)], [], am_D τ) := by
  unfold Pr_firstWrong at h
  refine am_seg s_Pr_firstWrong_0 (y := (2, [(1, .int (nI 0)), (0, .ref 118)], [], am_D τ)) hF t_s_Pr_firstWrong_0 rfl rfl ?_
  refine am_pick [1, 0] rfl ?_
  exact ok_Pr_firstWrong_2 hF hR hB _ _ _ h
theorem c_Pr_firstWrong {v : Int32} {τ τ' : am_T} (h : Pr_firstWrong τ = some (v, τ')) : am_C yX7_firstWrong cX7_firstWrong 2 (some .int) 0 0 [.ref 118] (am_D τ) (some (.int v)) (am_D τ') :=
  am_enter (by decide +kernel) (Nat.le_of_ble_eq_true rfl) ⟨Nat.le_refl _, Nat.le_refl _⟩ (fun X hF hR hB => ok_Pr_firstWrong hF hR hB h)
def s_X_check_0 : List am_Q := [(0, .aload_n 0, 0, 0, 0, .null), (1, .getfield 29, 11, 4, 149, .null), (4, .getfield 318, 7, 3, 127, .null)]
theorem t_s_X_check_0 : s_X_check_0.all (am_ok 11 cX11_check) = true := by decide +kernel
theorem d_X11_check_7 : decode cX11_check 7 = .ok (.ifCond .ne 8, 3) := by decide +kernel
def s_X_check_1 : List am_Q := [(15, .aload_n 0, 0, 0, 0, .null), (16, .getfield 29, 11, 4, 149, .null)]
theorem t_s_X_check_1 : s_X_check_1.all (am_ok 11 cX11_check) = true := by decide +kernel
theorem d_X11_check_19 : decode cX11_check 19 = .ok (.invokevirtual 321, 3) := by decide +kernel
theorem d_X11_check_22 : decode cX11_check 22 = .ok (.ireturn, 1) := by decide +kernel
def s_X_check_2 : List am_Q := [(10, .bipush (-3), 0, 0, 0, .int (-3 : Int32)), (12, .goto 10, 22, 0, 0, .null)]
theorem t_s_X_check_2 : s_X_check_2.all (am_ok 11 cX11_check) = true := by decide +kernel
def X_check (τ : am_T) : Option (Int32 × am_T) :=
  if (τ.1 118 3) = 0 then
  (some ((-3 : Int32), τ))
else
  ((Pr_firstWrong τ).bind (fun x1 =>
  some (x1.1, x1.2)))
set_option maxRecDepth 20000 in
theorem ok_X_check {X : am_X} {v : Int32} {τ τ' : am_T} (hF : am_F X "ShareHouse" cX11_check 1) (hR : am_R X 1 21) (hB : am_B X (some .int) (some (.int v)) (am_D τ')) (h : X_check τ = some (v, τ')) : am_W X 1 (0, [(0, .ref 0)], [], am_D τ) := by
  unfold X_check at h
  refine am_seg s_X_check_0 (y := (7, [(0, .ref 0)], [.int (τ.1 118 3)], am_D τ)) hF t_s_X_check_0 rfl rfl ?_
  refine am_ite h (fun hc h => ?_) (fun hc h => ?_)
  · refine am_if_ne_f (t := 15) d_X11_check_7 (by decide) hc hF ?_
    refine am_seg s_X_check_2 (y := (22, [(0, .ref 0)], [.int (-3 : Int32)], am_D τ)) hF t_s_X_check_2 rfl rfl ?_
    obtain ⟨rfl, rfl⟩ := am_pair h
    exact am_iret d_X11_check_22 hF hB
  · refine am_if_ne_t (t := 15) d_X11_check_7 (by decide) hc hF ?_
    refine am_seg s_X_check_1 (y := (19, [(0, .ref 0)], [.ref 118], am_D τ)) hF t_s_X_check_1 rfl rfl ?_
    refine am_bd h (fun x1 hx h => ?_)
    refine am_callV (As := []) (r := (some (.int x1.1))) (st := []) (σ' := am_D x1.2) (ci := 7) hF hR d_X11_check_19 (c_Pr_firstWrong (τ' := x1.2) hx) (Nat.le_refl _) (Nat.le_refl _) wl_X_321 wi_yX7_firstWrong we_yX7_firstWrong wn_ShareHouse_Proof wc_yX7_firstWrong (Nat.le_of_ble_eq_true rfl) (Nat.le_of_ble_eq_true rfl) rfl rfl wy_yX7_firstWrong rfl ⟨by decide, by decide⟩ (Nat.le_of_ble_eq_true rfl) ?_
    obtain ⟨rfl, rfl⟩ := am_pair h
    exact am_iret d_X11_check_22 hF hB
theorem c_X_check {v : Int32} {τ τ' : am_T} (h : X_check τ = some (v, τ')) : am_C yX11_check cX11_check 1 (some .int) 1 21 [.ref 0] (am_D τ) (some (.int v)) (am_D τ') :=
  am_enter (by decide +kernel) (Nat.le_of_ble_eq_true rfl) ⟨Nat.le_refl _, Nat.le_refl _⟩ (fun X hF hR hB => ok_X_check hF hR hB h)
def s_Ac_readAreas_0 : List am_Q := [(0, .aload_n 0, 0, 0, 0, .null), (1, .getfield 23, 0, 3, 144, .null), (4, .iconst 0, 0, 0, 0, .int (nI 0))]
theorem t_s_Ac_readAreas_0 : s_Ac_readAreas_0.all (am_ok 0 cX0_readAreas) = true := by decide +kernel
theorem d_X0_readAreas_5 : decode cX0_readAreas 5 = .ok (.invokestatic 26, 3) := by decide +kernel
def s_Ac_readAreas_1 : List am_Q := [(8, .iconst 0, 0, 0, 0, .int (nI 0)), (9, .istore_n 2, 0, 0, 0, .null)]
theorem t_s_Ac_readAreas_1 : s_Ac_readAreas_1.all (am_ok 0 cX0_readAreas) = true := by decide +kernel
def s_Ac_readAreas_2 : List am_Q := [(10, .iload_n 2, 0, 0, 0, .null), (11, .aload_n 1, 0, 0, 0, .null), (12, .getfield 58, 3, 3, 96, .null), (15, .getfield 62, 2, 4, 17, .null)]
theorem t_s_Ac_readAreas_2 : s_Ac_readAreas_2.all (am_ok 0 cX0_readAreas) = true := by decide +kernel
theorem d_X0_readAreas_18 : decode cX0_readAreas 18 = .ok (.if_icmp .ge 47, 3) := by decide +kernel
theorem d_X0_readAreas_65 : decode cX0_readAreas 65 = .ok (.return_, 1) := by decide +kernel
def s_Ac_readAreas_3 : List am_Q := [(21, .aload_n 1, 0, 0, 0, .null), (22, .getfield 65, 3, 5, 103, .null), (25, .iload_n 2, 0, 0, 0, .null), (26, .aload_n 1, 0, 0, 0, .null), (27, .getfield 151, 3, 0, 86, .null)]
theorem t_s_Ac_readAreas_3 : s_Ac_readAreas_3.all (am_ok 0 cX0_readAreas) = true := by decide +kernel
theorem d_X0_readAreas_30 : decode cX0_readAreas 30 = .ok (.invokevirtual 72, 3) := by decide +kernel
def s_Ac_readAreas_4 : List am_Q := [(33, .istore_n 3, 0, 0, 0, .null), (34, .iload_n 3, 0, 0, 0, .null)]
theorem t_s_Ac_readAreas_4 : s_Ac_readAreas_4.all (am_ok 0 cX0_readAreas) = true := by decide +kernel
theorem d_X0_readAreas_35 : decode cX0_readAreas 35 = .ok (.invokestatic 78, 3) := by decide +kernel
theorem d_X0_readAreas_38 : decode cX0_readAreas 38 = .ok (.ifCond .eq 21, 3) := by decide +kernel
def s_Ac_readAreas_5 : List am_Q := [(59, .iinc 2 1, 0, 0, 0, .int (nI 1)), (62, .goto (-52), 10, 0, 0, .null)]
theorem t_s_Ac_readAreas_5 : s_Ac_readAreas_5.all (am_ok 0 cX0_readAreas) = true := by decide +kernel
def s_Ac_readAreas_6 : List am_Q := [(41, .aload_n 0, 0, 0, 0, .null), (42, .getfield 23, 0, 3, 144, .null), (45, .iload_n 3, 0, 0, 0, .null), (46, .dup2, 0, 0, 0, .null)]
theorem t_s_Ac_readAreas_6 : s_Ac_readAreas_6.all (am_ok 0 cX0_readAreas) = true := by decide +kernel
theorem d_X0_readAreas_47 : decode cX0_readAreas 47 = .ok (.iaload, 1) := by decide +kernel
def s_Ac_readAreas_7 : List am_Q := [(48, .aload_n 1, 0, 0, 0, .null), (49, .getfield 58, 3, 3, 96, .null), (52, .getfield 154, 2, 1, 9, .null), (55, .iload_n 2, 0, 0, 0, .null)]
theorem t_s_Ac_readAreas_7 : s_Ac_readAreas_7.all (am_ok 0 cX0_readAreas) = true := by decide +kernel
theorem d_X0_readAreas_56 : decode cX0_readAreas 56 = .ok (.iaload, 1) := by decide +kernel
def s_Ac_readAreas_8 : List am_Q := [(57, .iadd, 0, 0, 0, .null)]
theorem t_s_Ac_readAreas_8 : s_Ac_readAreas_8.all (am_ok 0 cX0_readAreas) = true := by decide +kernel
theorem d_X0_readAreas_58 : decode cX0_readAreas 58 = .ok (.iastore, 1) := by decide +kernel
def s_Ac_readAreas_9 : List am_Q := [(59, .iinc 2 1, 0, 0, 0, .int (nI 1)), (62, .goto (-52), 10, 0, 0, .null)]
theorem t_s_Ac_readAreas_9 : s_Ac_readAreas_9.all (am_ok 0 cX0_readAreas) = true := by decide +kernel
def Ac_readAreas_10 : Nat → am_T → Int32 → Option (am_T)
  | 0, _, _ => none
  | n + 1, τ, a2 =>
    if (τ.1 4 4) ≤ a2 then
  (some τ)
else
  ((Ow_ownerOn τ a2 (τ.1 1 0)).bind (fun x2 =>
  (X_isOwner x2.2 x2.1).bind (fun x3 =>
  if x3.1 = 0 then
  ((Ac_readAreas_10 n) x3.2 (a2 + (nI 1)))
else
  (am_g (am_in x2.1 8) (am_g (am_in a2 8) (am_g (am_in x2.1 8) ((Ac_readAreas_10 n) (am_si x3.2 139 (x2.1.toNatClampNeg) ((x3.2.1 139 (x2.1.toNatClampNeg)) + (x3.2.1 6 (a2.toNatClampNeg)))) (a2 + (nI 1)))))))))
set_option maxRecDepth 20000 in
theorem ok_Ac_readAreas_10 {X : am_X} {τ' : am_T} (hF : am_F X "ShareHouse$Accounts" cX0_readAreas 4) (hR : am_R X 2 47) (hB : am_B X none none (am_D τ')) : ∀ (n : Nat) (τ : am_T) (a2 : Int32), Ac_readAreas_10 n τ a2 = some τ' → am_W X 4 (10, [(0, .ref 127), (1, .ref 1), (2, .int a2)], [], am_D τ) := by
  intro n
  induction n with
  | zero => intro τ a2 h; unfold Ac_readAreas_10 at h; cases h
  | succ n ih =>
    intro τ a2 h
    unfold Ac_readAreas_10 at h
    refine am_seg s_Ac_readAreas_2 (y := (18, [(0, .ref 127), (1, .ref 1), (2, .int a2)], [.int (τ.1 4 4), .int a2], am_D τ)) hF t_s_Ac_readAreas_2 rfl rfl ?_
    refine am_ite h (fun hc h => ?_) (fun hc h => ?_)
    · refine am_icmp_ge_t (t := 65) d_X0_readAreas_18 (by decide) hc hF ?_
      obtain rfl := am_one h
      exact am_vret d_X0_readAreas_65 hF hB
    · refine am_icmp_ge_f (t := 65) d_X0_readAreas_18 (by decide) hc hF ?_
      refine am_seg s_Ac_readAreas_3 (y := (30, [(0, .ref 127), (1, .ref 1), (2, .int a2)], [.int (τ.1 1 0), .int a2, .ref 34], am_D τ)) hF t_s_Ac_readAreas_3 rfl rfl ?_
      refine am_bd h (fun x2 hx h => ?_)
      refine am_callV (As := [.int a2, .int (τ.1 1 0)]) (r := (some (.int x2.1))) (st := []) (σ' := am_D x2.2) (ci := 5) hF hR d_X0_readAreas_30 (c_Ow_ownerOn (τ' := x2.2) hx) (Nat.le_refl _) (Nat.le_refl _) wl_Ac_72 wi_yX5_ownerOn we_yX5_ownerOn wn_ShareHouse_Owners wc_yX5_ownerOn (Nat.le_of_ble_eq_true rfl) (Nat.le_of_ble_eq_true rfl) rfl rfl wy_yX5_ownerOn rfl ⟨by decide, by decide⟩ (Nat.le_of_ble_eq_true rfl) ?_
      refine am_seg s_Ac_readAreas_4 (y := (35, [(3, .int x2.1), (0, .ref 127), (1, .ref 1), (2, .int a2)], [.int x2.1], am_D x2.2)) hF t_s_Ac_readAreas_4 rfl rfl ?_
      refine am_bd h (fun x3 hx h => ?_)
      refine am_callSN (As := [.int x2.1]) (r := (some (.int x3.1))) (st := []) (σ' := am_D x3.2) (host := "ShareHouse") hF hR d_X0_readAreas_35 (c_X_isOwner (τ' := x3.2) hx) (Nat.le_refl _) (Nat.le_refl _) wk_Ac_78 ws_yX11_isOwner wn_ShareHouse wc_yX11_isOwner wy_yX11_isOwner rfl ⟨by decide, by decide⟩ (Nat.le_of_ble_eq_true rfl) ?_
      refine am_ite h (fun hc h => ?_) (fun hc h => ?_)
      · refine am_if_eq_t (t := 59) d_X0_readAreas_38 (by decide) hc hF ?_
        refine am_seg s_Ac_readAreas_5 (y := (10, [(2, .int (a2 + (nI 1))), (3, .int x2.1), (0, .ref 127), (1, .ref 1)], [], am_D x3.2)) hF t_s_Ac_readAreas_5 rfl rfl ?_
        refine am_pick [2, 3, 0] rfl ?_
        exact ih _ _ h
      · refine am_if_eq_f (t := 59) d_X0_readAreas_38 (by decide) hc hF ?_
        refine am_seg s_Ac_readAreas_6 (y := (47, [(3, .int x2.1), (0, .ref 127), (1, .ref 1), (2, .int a2)], [.int x2.1, .ref 139, .int x2.1, .ref 139], am_D x3.2)) hF t_s_Ac_readAreas_6 rfl rfl ?_
        refine am_gd h (fun hi h => ?_)
        refine am_iald (n := 8) (j := (x2.1.toNatClampNeg)) d_X0_readAreas_47 (Nat.le_of_ble_eq_true rfl) (Nat.le_of_ble_eq_true rfl) rfl hi rfl hF ?_
        refine am_seg s_Ac_readAreas_7 (y := (56, [(3, .int x2.1), (0, .ref 127), (1, .ref 1), (2, .int a2)], [.int a2, .ref 6, .int (x3.2.1 139 (x2.1.toNatClampNeg)), .int x2.1, .ref 139], am_D x3.2)) hF t_s_Ac_readAreas_7 rfl rfl ?_
        refine am_gd h (fun hi h => ?_)
        refine am_iald (n := 8) (j := (a2.toNatClampNeg)) d_X0_readAreas_56 (Nat.le_of_ble_eq_true rfl) (Nat.le_of_ble_eq_true rfl) rfl hi rfl hF ?_
        refine am_seg s_Ac_readAreas_8 (y := (58, [(3, .int x2.1), (0, .ref 127), (1, .ref 1), (2, .int a2)], [.int ((x3.2.1 139 (x2.1.toNatClampNeg)) + (x3.2.1 6 (a2.toNatClampNeg))), .int x2.1, .ref 139], am_D x3.2)) hF t_s_Ac_readAreas_8 rfl rfl ?_
        refine am_gd h (fun hi h => ?_)
        refine am_iast (n := 8) (j := (x2.1.toNatClampNeg)) d_X0_readAreas_58 (Nat.le_of_ble_eq_true rfl) (Nat.le_of_ble_eq_true rfl) rfl hi rfl hF ?_
        refine am_seg s_Ac_readAreas_9 (y := (10, [(2, .int (a2 + (nI 1))), (3, .int x2.1), (0, .ref 127), (1, .ref 1)], [], am_D (am_si x3.2 139 (x2.1.toNatClampNeg) ((x3.2.1 139 (x2.1.toNatClampNeg)) + (x3.2.1 6 (a2.toNatClampNeg)))))) hF t_s_Ac_readAreas_9 rfl rfl ?_
        refine am_pick [2, 3, 0] rfl ?_
        exact ih _ _ h
def Ac_readAreas (τ : am_T) : Option (am_T) :=
  (JA_fill τ 139 (nI 0)).bind (fun x1 =>
  Ac_readAreas_10 5000 x1 (nI 0))
set_option maxRecDepth 20000 in
theorem ok_Ac_readAreas {X : am_X} {τ τ' : am_T} (hF : am_F X "ShareHouse$Accounts" cX0_readAreas 4) (hR : am_R X 2 47) (hB : am_B X none none (am_D τ')) (h : Ac_readAreas τ = some τ') : am_W X 4 (0, [(0, .ref 127), (1, .ref 1)], [], am_D τ) := by
  unfold Ac_readAreas at h
  refine am_seg s_Ac_readAreas_0 (y := (5, [(0, .ref 127), (1, .ref 1)], [.int (nI 0), .ref 139], am_D τ)) hF t_s_Ac_readAreas_0 rfl rfl ?_
  refine am_bd h (fun x1 hx h => ?_)
  refine am_callS (As := [.ref 139, .int (nI 0)]) (r := none) (st := []) (σ' := am_D x1) hF hR d_X0_readAreas_5 (c_JA_fill (τ' := x1) hx) (Nat.le_refl _) (Nat.le_refl _) wl_Ac_26 ws_yJ7_fill_53178 wn_java_util_Arrays wc_yJ7_fill_53178 wy_yJ7_fill_53178 rfl ⟨by decide, by decide⟩ (Nat.le_of_ble_eq_true rfl) ?_
  refine am_seg s_Ac_readAreas_1 (y := (10, [(2, .int (nI 0)), (0, .ref 127), (1, .ref 1)], [], am_D x1)) hF t_s_Ac_readAreas_1 rfl rfl ?_
  refine am_pick [1, 2, 0] rfl ?_
  exact ok_Ac_readAreas_10 hF hR hB _ _ _ h
theorem c_Ac_readAreas {τ τ' : am_T} (h : Ac_readAreas τ = some τ') : am_C yX0_readAreas cX0_readAreas 4 none 2 47 [.ref 127, .ref 1] (am_D τ) none (am_D τ') :=
  am_enter (by decide +kernel) (Nat.le_of_ble_eq_true rfl) ⟨Nat.le_refl _, Nat.le_refl _⟩ (fun X hF hR hB => ok_Ac_readAreas hF hR hB h)
def s_Ac_areasOf_0 : List am_Q := [(0, .iconst 0, 0, 0, 0, .int (nI 0)), (1, .istore_n 2, 0, 0, 0, .null), (2, .iconst 0, 0, 0, 0, .int (nI 0)), (3, .istore_n 3, 0, 0, 0, .null)]
theorem t_s_Ac_areasOf_0 : s_Ac_areasOf_0.all (am_ok 0 cX0_areasOf) = true := by decide +kernel
def s_Ac_areasOf_1 : List am_Q := [(4, .iload_n 3, 0, 0, 0, .null), (5, .bipush 8, 0, 0, 0, .int (nI 8))]
theorem t_s_Ac_areasOf_1 : s_Ac_areasOf_1.all (am_ok 0 cX0_areasOf) = true := by decide +kernel
theorem d_X0_areasOf_7 : decode cX0_areasOf 7 = .ok (.if_icmp .ge 24, 3) := by decide +kernel
def s_Ac_areasOf_2 : List am_Q := [(31, .iload_n 2, 0, 0, 0, .null)]
theorem t_s_Ac_areasOf_2 : s_Ac_areasOf_2.all (am_ok 0 cX0_areasOf) = true := by decide +kernel
theorem d_X0_areasOf_32 : decode cX0_areasOf 32 = .ok (.ireturn, 1) := by decide +kernel
def s_Ac_areasOf_3 : List am_Q := [(10, .iload_n 2, 0, 0, 0, .null), (11, .iload_n 1, 0, 0, 0, .null), (12, .iload_n 3, 0, 0, 0, .null), (13, .ishr, 0, 0, 0, .null), (14, .iconst 1, 0, 0, 0, .int (nI 1)), (15, .iand, 0, 0, 0, .null), (16, .aload_n 0, 0, 0, 0, .null), (17, .getfield 23, 0, 3, 144, .null), (20, .iload_n 3, 0, 0, 0, .null)]
theorem t_s_Ac_areasOf_3 : s_Ac_areasOf_3.all (am_ok 0 cX0_areasOf) = true := by decide +kernel
theorem d_X0_areasOf_21 : decode cX0_areasOf 21 = .ok (.iaload, 1) := by decide +kernel
def s_Ac_areasOf_4 : List am_Q := [(22, .imul, 0, 0, 0, .null), (23, .iadd, 0, 0, 0, .null), (24, .istore_n 2, 0, 0, 0, .null), (25, .iinc 3 1, 0, 0, 0, .int (nI 1)), (28, .goto (-24), 4, 0, 0, .null)]
theorem t_s_Ac_areasOf_4 : s_Ac_areasOf_4.all (am_ok 0 cX0_areasOf) = true := by decide +kernel
def Ac_areasOf_4 : Nat → am_T → Int32 → Int32 → Int32 → Option (Int32 × am_T)
  | 0, _, _, _, _ => none
  | n + 1, τ, a1, a2, a3 =>
    if (nI 8) ≤ a3 then
  (some (a2, τ))
else
  (am_g (am_in a3 8) ((Ac_areasOf_4 n) τ a1 (a2 + (((a1 >>> (a3 &&& 31)) &&& (nI 1)) * (τ.1 139 (a3.toNatClampNeg)))) (a3 + (nI 1))))
set_option maxRecDepth 20000 in
theorem ok_Ac_areasOf_4 {X : am_X} {v : Int32} {τ' : am_T} (hF : am_F X "ShareHouse$Accounts" cX0_areasOf 4) (hR : am_R X 0 0) (hB : am_B X (some .int) (some (.int v)) (am_D τ')) : ∀ (n : Nat) (τ : am_T) (a1 : Int32) (a2 : Int32) (a3 : Int32), Ac_areasOf_4 n τ a1 a2 a3 = some (v, τ') → am_W X 4 (4, [(0, .ref 127), (1, .int a1), (2, .int a2), (3, .int a3)], [], am_D τ) := by
  intro n
  induction n with
  | zero => intro τ a1 a2 a3 h; unfold Ac_areasOf_4 at h; cases h
  | succ n ih =>
    intro τ a1 a2 a3 h
    unfold Ac_areasOf_4 at h
    refine am_seg s_Ac_areasOf_1 (y := (7, [(0, .ref 127), (1, .int a1), (2, .int a2), (3, .int a3)], [.int (nI 8), .int a3], am_D τ)) hF t_s_Ac_areasOf_1 rfl rfl ?_
    refine am_ite h (fun hc h => ?_) (fun hc h => ?_)
    · refine am_icmp_ge_t (t := 31) d_X0_areasOf_7 (by decide) hc hF ?_
      refine am_seg s_Ac_areasOf_2 (y := (32, [(0, .ref 127), (1, .int a1), (2, .int a2), (3, .int a3)], [.int a2], am_D τ)) hF t_s_Ac_areasOf_2 rfl rfl ?_
      obtain ⟨rfl, rfl⟩ := am_pair h
      exact am_iret d_X0_areasOf_32 hF hB
    · refine am_icmp_ge_f (t := 31) d_X0_areasOf_7 (by decide) hc hF ?_
      refine am_seg s_Ac_areasOf_3 (y := (21, [(0, .ref 127), (1, .int a1), (2, .int a2), (3, .int a3)], [.int a3, .ref 139, .int ((a1 >>> (a3 &&& 31)) &&& (nI 1)), .int a2], am_D τ)) hF t_s_Ac_areasOf_3 rfl rfl ?_
      refine am_gd h (fun hi h => ?_)
      refine am_iald (n := 8) (j := (a3.toNatClampNeg)) d_X0_areasOf_21 (Nat.le_of_ble_eq_true rfl) (Nat.le_of_ble_eq_true rfl) rfl hi rfl hF ?_
      refine am_seg s_Ac_areasOf_4 (y := (4, [(3, .int (a3 + (nI 1))), (2, .int (a2 + (((a1 >>> (a3 &&& 31)) &&& (nI 1)) * (τ.1 139 (a3.toNatClampNeg))))), (0, .ref 127), (1, .int a1)], [], am_D τ)) hF t_s_Ac_areasOf_4 rfl rfl ?_
      refine am_pick [2, 3, 1, 0] rfl ?_
      exact ih _ _ _ _ h
def Ac_areasOf (τ : am_T) (a1 : Int32) : Option (Int32 × am_T) :=
  Ac_areasOf_4 5000 τ a1 (nI 0) (nI 0)
set_option maxRecDepth 20000 in
theorem ok_Ac_areasOf {X : am_X} {a1 : Int32} {v : Int32} {τ τ' : am_T} (hF : am_F X "ShareHouse$Accounts" cX0_areasOf 4) (hR : am_R X 0 0) (hB : am_B X (some .int) (some (.int v)) (am_D τ')) (h : Ac_areasOf τ a1 = some (v, τ')) : am_W X 4 (0, [(0, .ref 127), (1, .int a1)], [], am_D τ) := by
  unfold Ac_areasOf at h
  refine am_seg s_Ac_areasOf_0 (y := (4, [(3, .int (nI 0)), (2, .int (nI 0)), (0, .ref 127), (1, .int a1)], [], am_D τ)) hF t_s_Ac_areasOf_0 rfl rfl ?_
  refine am_pick [2, 3, 1, 0] rfl ?_
  exact ok_Ac_areasOf_4 hF hR hB _ _ _ _ _ h
theorem c_Ac_areasOf {a1 : Int32} {v : Int32} {τ τ' : am_T} (h : Ac_areasOf τ a1 = some (v, τ')) : am_C yX0_areasOf cX0_areasOf 4 (some .int) 0 0 [.ref 127, .int a1] (am_D τ) (some (.int v)) (am_D τ') :=
  am_enter (by decide +kernel) (Nat.le_of_ble_eq_true rfl) ⟨Nat.le_refl _, Nat.le_refl _⟩ (fun X hF hR hB => ok_Ac_areasOf hF hR hB h)

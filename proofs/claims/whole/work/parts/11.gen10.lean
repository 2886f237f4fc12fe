def s_Wo_become_41_0 : List am_Q := [(0, .aload_n 1, 0, 0, 0, .null), (1, .getfield 11, 10, 0, 54, .null), (4, .aload_n 0, 0, 0, 0, .null), (5, .getfield 11, 10, 0, 54, .null)]
theorem t_s_Wo_become_41_0 : s_Wo_become_41_0.all (am_ok 10 cX10_become) = true := by decide +kernel
def s_Wo_become_41_1 : List am_Q := [(11, .aload_n 1, 0, 0, 0, .null), (12, .getfield 15, 10, 1, 56, .null), (15, .aload_n 0, 0, 0, 0, .null), (16, .getfield 15, 10, 1, 56, .null)]
theorem t_s_Wo_become_41_1 : s_Wo_become_41_1.all (am_ok 10 cX10_become) = true := by decide +kernel
def s_Wo_become_41_2 : List am_Q := [(22, .aload_n 1, 0, 0, 0, .null), (23, .getfield 18, 10, 2, 58, .null), (26, .aload_n 0, 0, 0, 0, .null), (27, .getfield 18, 10, 2, 58, .null)]
theorem t_s_Wo_become_41_2 : s_Wo_become_41_2.all (am_ok 10 cX10_become) = true := by decide +kernel
def s_Wo_become_41_3 : List am_Q := [(33, .aload_n 1, 0, 0, 0, .null), (34, .getfield 22, 10, 3, 60, .null), (37, .aload_n 0, 0, 0, 0, .null), (38, .getfield 22, 10, 3, 60, .null)]
theorem t_s_Wo_become_41_3 : s_Wo_become_41_3.all (am_ok 10 cX10_become) = true := by decide +kernel
def s_Wo_become_41_4 : List am_Q := [(44, .aload_n 1, 0, 0, 0, .null), (45, .getfield 25, 10, 4, 61, .null), (48, .aload_n 0, 0, 0, 0, .null), (49, .getfield 25, 10, 4, 61, .null)]
theorem t_s_Wo_become_41_4 : s_Wo_become_41_4.all (am_ok 10 cX10_become) = true := by decide +kernel
def s_Wo_become_41_5 : List am_Q := [(55, .aload_n 1, 0, 0, 0, .null), (56, .getfield 28, 10, 5, 62, .null), (59, .aload_n 0, 0, 0, 0, .null), (60, .getfield 28, 10, 5, 62, .null)]
theorem t_s_Wo_become_41_5 : s_Wo_become_41_5.all (am_ok 10 cX10_become) = true := by decide +kernel
def s_Wo_become_41_6 : List am_Q := [(66, .aload_n 1, 0, 0, 0, .null), (67, .getfield 31, 10, 6, 63, .null), (70, .aload_n 0, 0, 0, 0, .null), (71, .getfield 31, 10, 6, 63, .null)]
theorem t_s_Wo_become_41_6 : s_Wo_become_41_6.all (am_ok 10 cX10_become) = true := by decide +kernel
def s_Wo_become_41_7 : List am_Q := [(77, .aload_n 1, 0, 0, 0, .null), (78, .getfield 34, 10, 7, 64, .null), (81, .aload_n 0, 0, 0, 0, .null), (82, .getfield 34, 10, 7, 64, .null)]
theorem t_s_Wo_become_41_7 : s_Wo_become_41_7.all (am_ok 10 cX10_become) = true := by decide +kernel
def s_Wo_become_41_8 : List am_Q := [(88, .aload_n 0, 0, 0, 0, .null), (89, .aload_n 1, 0, 0, 0, .null), (90, .getfield 50, 10, 8, 65, .null), (93, .putfield 50, 10, 8, 65, .null), (96, .aload_n 1, 0, 0, 0, .null), (97, .getfield 37, 10, 9, 67, .null), (100, .aload_n 0, 0, 0, 0, .null), (101, .getfield 37, 10, 9, 67, .null)]
theorem t_s_Wo_become_41_8 : s_Wo_become_41_8.all (am_ok 10 cX10_become) = true := by decide +kernel
def s_Wo_become_41_9 : List am_Q := [(107, .aload_n 1, 0, 0, 0, .null), (108, .getfield 40, 10, 10, 68, .null), (111, .aload_n 0, 0, 0, 0, .null), (112, .getfield 40, 10, 10, 68, .null)]
theorem t_s_Wo_become_41_9 : s_Wo_become_41_9.all (am_ok 10 cX10_become) = true := by decide +kernel
def s_Wo_become_41_10 : List am_Q := [(118, .aload_n 0, 0, 0, 0, .null), (119, .aload_n 1, 0, 0, 0, .null), (120, .getfield 54, 10, 11, 69, .null), (123, .putfield 54, 10, 11, 69, .null)]
theorem t_s_Wo_become_41_10 : s_Wo_become_41_10.all (am_ok 10 cX10_become) = true := by decide +kernel
def Wo_become_41 (τ : am_T) : Option (am_T) :=
  (X_copyI τ 98 42).bind (fun x1 =>
  (X_copyI x1 99 43).bind (fun x2 =>
  (X_copyZ x2 100 44).bind (fun x3 =>
  (X_copyI x3 101 45).bind (fun x4 =>
  (X_copyI x4 102 46).bind (fun x5 =>
  (X_copyI x5 103 47).bind (fun x6 =>
  (X_copyI x6 104 48).bind (fun x7 =>
  (X_copyI x7 105 49).bind (fun x8 =>
  (X_copyI (am_si x8 41 8 (x8.1 97 8)) 106 50).bind (fun x9 =>
  (X_copyI x9 107 51).bind (fun x10 =>
  some (am_si x10 41 11 (x10.1 97 11))))))))))))
set_option maxRecDepth 20000 in
theorem ok_Wo_become_41 {X : am_X} {τ τ' : am_T} (hF : am_F X "ShareHouse$Works" cX10_become 2) (hR : am_R X 2 61) (hB : am_B X none none (am_D τ')) (h : Wo_become_41 τ = some τ') : am_W X 2 (0, [(0, .ref 41), (1, .ref 97)], [], am_D τ) := by
  unfold Wo_become_41 at h
  refine am_seg s_Wo_become_41_0 (y := (8, [(0, .ref 41), (1, .ref 97)], [.ref 42, .ref 98], am_D τ)) hF t_s_Wo_become_41_0 rfl rfl ?_
  refine am_bd h (fun x1 hx h => ?_)
  refine am_callSN (As := [.ref 98, .ref 42]) (r := none) (st := []) (σ' := am_D x1) (host := "ShareHouse") hF hR d_X10_become_8 (c_X_copyI (τ' := x1) hx) (Nat.le_refl _) (Nat.le_refl _) wk_Wo_43 ws_yX11_copy wn_ShareHouse wc_yX11_copy wy_yX11_copy rfl ⟨by decide, by decide⟩ (Nat.le_of_ble_eq_true rfl) ?_
  refine am_seg s_Wo_become_41_1 (y := (19, [(0, .ref 41), (1, .ref 97)], [.ref 43, .ref 99], am_D x1)) hF t_s_Wo_become_41_1 rfl rfl ?_
  refine am_bd h (fun x2 hx h => ?_)
  refine am_callSN (As := [.ref 99, .ref 43]) (r := none) (st := []) (σ' := am_D x2) (host := "ShareHouse") hF hR d_X10_become_19 (c_X_copyI (τ' := x2) hx) (Nat.le_refl _) (Nat.le_refl _) wk_Wo_43 ws_yX11_copy wn_ShareHouse wc_yX11_copy wy_yX11_copy rfl ⟨by decide, by decide⟩ (Nat.le_of_ble_eq_true rfl) ?_
  refine am_seg s_Wo_become_41_2 (y := (30, [(0, .ref 41), (1, .ref 97)], [.ref 44, .ref 100], am_D x2)) hF t_s_Wo_become_41_2 rfl rfl ?_
  refine am_bd h (fun x3 hx h => ?_)
  refine am_callSN (As := [.ref 100, .ref 44]) (r := none) (st := []) (σ' := am_D x3) (host := "ShareHouse") hF hR d_X10_become_30 (c_X_copyZ (τ' := x3) hx) (Nat.le_refl _) (Nat.le_refl _) wk_Wo_47 ws_yX11_copy_ wn_ShareHouse wc_yX11_copy_ wy_yX11_copy_ rfl ⟨by decide, by decide⟩ (Nat.le_of_ble_eq_true rfl) ?_
  refine am_seg s_Wo_become_41_3 (y := (41, [(0, .ref 41), (1, .ref 97)], [.ref 45, .ref 101], am_D x3)) hF t_s_Wo_become_41_3 rfl rfl ?_
  refine am_bd h (fun x4 hx h => ?_)
  refine am_callSN (As := [.ref 101, .ref 45]) (r := none) (st := []) (σ' := am_D x4) (host := "ShareHouse") hF hR d_X10_become_41 (c_X_copyI (τ' := x4) hx) (Nat.le_refl _) (Nat.le_refl _) wk_Wo_43 ws_yX11_copy wn_ShareHouse wc_yX11_copy wy_yX11_copy rfl ⟨by decide, by decide⟩ (Nat.le_of_ble_eq_true rfl) ?_
  refine am_seg s_Wo_become_41_4 (y := (52, [(0, .ref 41), (1, .ref 97)], [.ref 46, .ref 102], am_D x4)) hF t_s_Wo_become_41_4 rfl rfl ?_
  refine am_bd h (fun x5 hx h => ?_)
  refine am_callSN (As := [.ref 102, .ref 46]) (r := none) (st := []) (σ' := am_D x5) (host := "ShareHouse") hF hR d_X10_become_52 (c_X_copyI (τ' := x5) hx) (Nat.le_refl _) (Nat.le_refl _) wk_Wo_43 ws_yX11_copy wn_ShareHouse wc_yX11_copy wy_yX11_copy rfl ⟨by decide, by decide⟩ (Nat.le_of_ble_eq_true rfl) ?_
  refine am_seg s_Wo_become_41_5 (y := (63, [(0, .ref 41), (1, .ref 97)], [.ref 47, .ref 103], am_D x5)) hF t_s_Wo_become_41_5 rfl rfl ?_
  refine am_bd h (fun x6 hx h => ?_)
  refine am_callSN (As := [.ref 103, .ref 47]) (r := none) (st := []) (σ' := am_D x6) (host := "ShareHouse") hF hR d_X10_become_63 (c_X_copyI (τ' := x6) hx) (Nat.le_refl _) (Nat.le_refl _) wk_Wo_43 ws_yX11_copy wn_ShareHouse wc_yX11_copy wy_yX11_copy rfl ⟨by decide, by decide⟩ (Nat.le_of_ble_eq_true rfl) ?_
  refine am_seg s_Wo_become_41_6 (y := (74, [(0, .ref 41), (1, .ref 97)], [.ref 48, .ref 104], am_D x6)) hF t_s_Wo_become_41_6 rfl rfl ?_
  refine am_bd h (fun x7 hx h => ?_)
  refine am_callSN (As := [.ref 104, .ref 48]) (r := none) (st := []) (σ' := am_D x7) (host := "ShareHouse") hF hR d_X10_become_74 (c_X_copyI (τ' := x7) hx) (Nat.le_refl _) (Nat.le_refl _) wk_Wo_43 ws_yX11_copy wn_ShareHouse wc_yX11_copy wy_yX11_copy rfl ⟨by decide, by decide⟩ (Nat.le_of_ble_eq_true rfl) ?_
  refine am_seg s_Wo_become_41_7 (y := (85, [(0, .ref 41), (1, .ref 97)], [.ref 49, .ref 105], am_D x7)) hF t_s_Wo_become_41_7 rfl rfl ?_
  refine am_bd h (fun x8 hx h => ?_)
  refine am_callSN (As := [.ref 105, .ref 49]) (r := none) (st := []) (σ' := am_D x8) (host := "ShareHouse") hF hR d_X10_become_85 (c_X_copyI (τ' := x8) hx) (Nat.le_refl _) (Nat.le_refl _) wk_Wo_43 ws_yX11_copy wn_ShareHouse wc_yX11_copy wy_yX11_copy rfl ⟨by decide, by decide⟩ (Nat.le_of_ble_eq_true rfl) ?_
  refine am_seg s_Wo_become_41_8 (y := (104, [(0, .ref 41), (1, .ref 97)], [.ref 50, .ref 106], am_D (am_si x8 41 8 (x8.1 97 8)))) hF t_s_Wo_become_41_8 rfl rfl ?_
  refine am_bd h (fun x9 hx h => ?_)
  refine am_callSN (As := [.ref 106, .ref 50]) (r := none) (st := []) (σ' := am_D x9) (host := "ShareHouse") hF hR d_X10_become_104 (c_X_copyI (τ' := x9) hx) (Nat.le_refl _) (Nat.le_refl _) wk_Wo_43 ws_yX11_copy wn_ShareHouse wc_yX11_copy wy_yX11_copy rfl ⟨by decide, by decide⟩ (Nat.le_of_ble_eq_true rfl) ?_
  refine am_seg s_Wo_become_41_9 (y := (115, [(0, .ref 41), (1, .ref 97)], [.ref 51, .ref 107], am_D x9)) hF t_s_Wo_become_41_9 rfl rfl ?_
  refine am_bd h (fun x10 hx h => ?_)
  refine am_callSN (As := [.ref 107, .ref 51]) (r := none) (st := []) (σ' := am_D x10) (host := "ShareHouse") hF hR d_X10_become_115 (c_X_copyI (τ' := x10) hx) (Nat.le_refl _) (Nat.le_refl _) wk_Wo_43 ws_yX11_copy wn_ShareHouse wc_yX11_copy wy_yX11_copy rfl ⟨by decide, by decide⟩ (Nat.le_of_ble_eq_true rfl) ?_
  refine am_seg s_Wo_become_41_10 (y := (126, [(0, .ref 41), (1, .ref 97)], [], am_D (am_si x10 41 11 (x10.1 97 11)))) hF t_s_Wo_become_41_10 rfl rfl ?_
  obtain rfl := am_one h
  exact am_vret d_X10_become_126 hF hB
theorem c_Wo_become_41 {τ τ' : am_T} (h : Wo_become_41 τ = some τ') : am_C yX10_become cX10_become 2 none 2 61 [.ref 41, .ref 97] (am_D τ) none (am_D τ') :=
  am_enter (by decide +kernel) (Nat.le_of_ble_eq_true rfl) ⟨Nat.le_refl _, Nat.le_refl _⟩ (fun X hF hR hB => ok_Wo_become_41 hF hR hB h)
def s_Re_become_52_0 : List am_Q := [(0, .aload_n 1, 0, 0, 0, .null), (1, .getfield 9, 8, 0, 71, .null), (4, .aload_n 0, 0, 0, 0, .null), (5, .getfield 9, 8, 0, 71, .null)]
theorem t_s_Re_become_52_0 : s_Re_become_52_0.all (am_ok 8 cX8_become) = true := by decide +kernel
def s_Re_become_52_1 : List am_Q := [(11, .aload_n 1, 0, 0, 0, .null), (12, .getfield 15, 8, 1, 72, .null), (15, .aload_n 0, 0, 0, 0, .null), (16, .getfield 15, 8, 1, 72, .null)]
theorem t_s_Re_become_52_1 : s_Re_become_52_1.all (am_ok 8 cX8_become) = true := by decide +kernel
def s_Re_become_52_2 : List am_Q := [(22, .aload_n 1, 0, 0, 0, .null), (23, .getfield 18, 8, 2, 73, .null), (26, .aload_n 0, 0, 0, 0, .null), (27, .getfield 18, 8, 2, 73, .null)]
theorem t_s_Re_become_52_2 : s_Re_become_52_2.all (am_ok 8 cX8_become) = true := by decide +kernel
def s_Re_become_52_3 : List am_Q := [(33, .aload_n 0, 0, 0, 0, .null), (34, .aload_n 1, 0, 0, 0, .null), (35, .getfield 28, 8, 3, 74, .null), (38, .putfield 28, 8, 3, 74, .null)]
theorem t_s_Re_become_52_3 : s_Re_become_52_3.all (am_ok 8 cX8_become) = true := by decide +kernel
def Re_become_52 (τ : am_T) : Option (am_T) :=
  (X_copyI τ 109 53).bind (fun x1 =>
  (X_copyI x1 110 54).bind (fun x2 =>
  (X_copyI x2 111 55).bind (fun x3 =>
  some (am_si x3 52 3 (x3.1 108 3)))))
set_option maxRecDepth 20000 in
theorem ok_Re_become_52 {X : am_X} {τ τ' : am_T} (hF : am_F X "ShareHouse$Reserve" cX8_become 2) (hR : am_R X 2 61) (hB : am_B X none none (am_D τ')) (h : Re_become_52 τ = some τ') : am_W X 2 (0, [(0, .ref 52), (1, .ref 108)], [], am_D τ) := by
  unfold Re_become_52 at h
  refine am_seg s_Re_become_52_0 (y := (8, [(0, .ref 52), (1, .ref 108)], [.ref 53, .ref 109], am_D τ)) hF t_s_Re_become_52_0 rfl rfl ?_
  refine am_bd h (fun x1 hx h => ?_)
  refine am_callSN (As := [.ref 109, .ref 53]) (r := none) (st := []) (σ' := am_D x1) (host := "ShareHouse") hF hR d_X8_become_8 (c_X_copyI (τ' := x1) hx) (Nat.le_refl _) (Nat.le_refl _) wk_Re_24 ws_yX11_copy wn_ShareHouse wc_yX11_copy wy_yX11_copy rfl ⟨by decide, by decide⟩ (Nat.le_of_ble_eq_true rfl) ?_
  refine am_seg s_Re_become_52_1 (y := (19, [(0, .ref 52), (1, .ref 108)], [.ref 54, .ref 110], am_D x1)) hF t_s_Re_become_52_1 rfl rfl ?_
  refine am_bd h (fun x2 hx h => ?_)
  refine am_callSN (As := [.ref 110, .ref 54]) (r := none) (st := []) (σ' := am_D x2) (host := "ShareHouse") hF hR d_X8_become_19 (c_X_copyI (τ' := x2) hx) (Nat.le_refl _) (Nat.le_refl _) wk_Re_24 ws_yX11_copy wn_ShareHouse wc_yX11_copy wy_yX11_copy rfl ⟨by decide, by decide⟩ (Nat.le_of_ble_eq_true rfl) ?_
  refine am_seg s_Re_become_52_2 (y := (30, [(0, .ref 52), (1, .ref 108)], [.ref 55, .ref 111], am_D x2)) hF t_s_Re_become_52_2 rfl rfl ?_
  refine am_bd h (fun x3 hx h => ?_)
  refine am_callSN (As := [.ref 111, .ref 55]) (r := none) (st := []) (σ' := am_D x3) (host := "ShareHouse") hF hR d_X8_become_30 (c_X_copyI (τ' := x3) hx) (Nat.le_refl _) (Nat.le_refl _) wk_Re_24 ws_yX11_copy wn_ShareHouse wc_yX11_copy wy_yX11_copy rfl ⟨by decide, by decide⟩ (Nat.le_of_ble_eq_true rfl) ?_
  refine am_seg s_Re_become_52_3 (y := (41, [(0, .ref 52), (1, .ref 108)], [], am_D (am_si x3 52 3 (x3.1 108 3)))) hF t_s_Re_become_52_3 rfl rfl ?_
  obtain rfl := am_one h
  exact am_vret d_X8_become_41 hF hB
theorem c_Re_become_52 {τ τ' : am_T} (h : Re_become_52 τ = some τ') : am_C yX8_become cX8_become 2 none 2 61 [.ref 52, .ref 108] (am_D τ) none (am_D τ') :=
  am_enter (by decide +kernel) (Nat.le_of_ble_eq_true rfl) ⟨Nat.le_refl _, Nat.le_refl _⟩ (fun X hF hR hB => ok_Re_become_52 hF hR hB h)
def s_Ho_become_1_0 : List am_Q := [(0, .aload_n 0, 0, 0, 0, .null), (1, .aload_n 1, 0, 0, 0, .null), (2, .getfield 61, 3, 0, 84, .null), (5, .putfield 61, 3, 0, 84, .null), (8, .aload_n 1, 0, 0, 0, .null), (9, .getfield 18, 3, 1, 87, .null), (12, .aload_n 0, 0, 0, 0, .null), (13, .getfield 18, 3, 1, 87, .null)]
theorem t_s_Ho_become_1_0 : s_Ho_become_1_0.all (am_ok 3 cX3_become) = true := by decide +kernel
def s_Ho_become_1_1 : List am_Q := [(19, .aload_n 1, 0, 0, 0, .null), (20, .getfield 23, 3, 2, 91, .null), (23, .aload_n 0, 0, 0, 0, .null), (24, .getfield 23, 3, 2, 91, .null)]
theorem t_s_Ho_become_1_1 : s_Ho_become_1_1.all (am_ok 3 cX3_become) = true := by decide +kernel
def s_Ho_become_1_2 : List am_Q := [(30, .aload_n 0, 0, 0, 0, .null), (31, .getfield 29, 3, 3, 94, .null), (34, .aload_n 1, 0, 0, 0, .null), (35, .getfield 29, 3, 3, 94, .null)]
theorem t_s_Ho_become_1_2 : s_Ho_become_1_2.all (am_ok 3 cX3_become) = true := by decide +kernel
def s_Ho_become_1_3 : List am_Q := [(41, .aload_n 0, 0, 0, 0, .null), (42, .getfield 36, 3, 4, 98, .null), (45, .aload_n 1, 0, 0, 0, .null), (46, .getfield 36, 3, 4, 98, .null)]
theorem t_s_Ho_become_1_3 : s_Ho_become_1_3.all (am_ok 3 cX3_become) = true := by decide +kernel
def s_Ho_become_1_4 : List am_Q := [(52, .aload_n 0, 0, 0, 0, .null), (53, .getfield 43, 3, 5, 102, .null), (56, .aload_n 1, 0, 0, 0, .null), (57, .getfield 43, 3, 5, 102, .null)]
theorem t_s_Ho_become_1_4 : s_Ho_become_1_4.all (am_ok 3 cX3_become) = true := by decide +kernel
def s_Ho_become_1_5 : List am_Q := [(63, .aload_n 0, 0, 0, 0, .null), (64, .getfield 50, 3, 6, 105, .null), (67, .aload_n 1, 0, 0, 0, .null), (68, .getfield 50, 3, 6, 105, .null)]
theorem t_s_Ho_become_1_5 : s_Ho_become_1_5.all (am_ok 3 cX3_become) = true := by decide +kernel
def s_Ho_become_1_6 : List am_Q := [(74, .aload_n 0, 0, 0, 0, .null), (75, .getfield 57, 3, 7, 107, .null), (78, .aload_n 1, 0, 0, 0, .null), (79, .getfield 57, 3, 7, 107, .null)]
theorem t_s_Ho_become_1_6 : s_Ho_become_1_6.all (am_ok 3 cX3_become) = true := by decide +kernel
def Ho_become_1 (τ : am_T) : Option (am_T) :=
  (X_copyI (am_si τ 1 0 (τ.1 57 0)) 58 2).bind (fun x1 =>
  (X_copyI x1 59 3).bind (fun x2 =>
  (Fl_become_4 x2).bind (fun x3 =>
  (Co_become_25 x3).bind (fun x4 =>
  (Ow_become_34 x4).bind (fun x5 =>
  (Wo_become_41 x5).bind (fun x6 =>
  (Re_become_52 x6).bind (fun x7 =>
  some x7)))))))
set_option maxRecDepth 20000 in
theorem ok_Ho_become_1 {X : am_X} {τ τ' : am_T} (hF : am_F X "ShareHouse$House" cX3_become 2) (hR : am_R X 4 104) (hB : am_B X none none (am_D τ')) (h : Ho_become_1 τ = some τ') : am_W X 2 (0, [(0, .ref 1), (1, .ref 57)], [], am_D τ) := by
  unfold Ho_become_1 at h
  refine am_seg s_Ho_become_1_0 (y := (16, [(0, .ref 1), (1, .ref 57)], [.ref 2, .ref 58], am_D (am_si τ 1 0 (τ.1 57 0)))) hF t_s_Ho_become_1_0 rfl rfl ?_
  refine am_bd h (fun x1 hx h => ?_)
  refine am_callSN (As := [.ref 58, .ref 2]) (r := none) (st := []) (σ' := am_D x1) (host := "ShareHouse") hF hR d_X3_become_16 (c_X_copyI (τ' := x1) hx) (Nat.le_refl _) (Nat.le_refl _) wk_Ho_65 ws_yX11_copy wn_ShareHouse wc_yX11_copy wy_yX11_copy rfl ⟨by decide, by decide⟩ (Nat.le_of_ble_eq_true rfl) ?_
  refine am_seg s_Ho_become_1_1 (y := (27, [(0, .ref 1), (1, .ref 57)], [.ref 3, .ref 59], am_D x1)) hF t_s_Ho_become_1_1 rfl rfl ?_
  refine am_bd h (fun x2 hx h => ?_)
  refine am_callSN (As := [.ref 59, .ref 3]) (r := none) (st := []) (σ' := am_D x2) (host := "ShareHouse") hF hR d_X3_become_27 (c_X_copyI (τ' := x2) hx) (Nat.le_refl _) (Nat.le_refl _) wk_Ho_65 ws_yX11_copy wn_ShareHouse wc_yX11_copy wy_yX11_copy rfl ⟨by decide, by decide⟩ (Nat.le_of_ble_eq_true rfl) ?_
  refine am_seg s_Ho_become_1_2 (y := (38, [(0, .ref 1), (1, .ref 57)], [.ref 60, .ref 4], am_D x2)) hF t_s_Ho_become_1_2 rfl rfl ?_
  refine am_bd h (fun x3 hx h => ?_)
  refine am_callV (As := [.ref 60]) (r := none) (st := []) (σ' := am_D x3) (ci := 2) hF hR d_X3_become_38 (c_Fl_become_4 (τ' := x3) hx) (Nat.le_refl _) (Nat.le_refl _) wl_Ho_69 wi_yX2_become we_yX2_become wn_ShareHouse_Flats wc_yX2_become (Nat.le_of_ble_eq_true rfl) (Nat.le_of_ble_eq_true rfl) rfl rfl wy_yX2_become rfl ⟨by decide, by decide⟩ (Nat.le_of_ble_eq_true rfl) ?_
  refine am_seg s_Ho_become_1_3 (y := (49, [(0, .ref 1), (1, .ref 57)], [.ref 81, .ref 25], am_D x3)) hF t_s_Ho_become_1_3 rfl rfl ?_
  refine am_bd h (fun x4 hx h => ?_)
  refine am_callV (As := [.ref 81]) (r := none) (st := []) (σ' := am_D x4) (ci := 1) hF hR d_X3_become_49 (c_Co_become_25 (τ' := x4) hx) (Nat.le_refl _) (Nat.le_refl _) wl_Ho_73 wi_yX1_become we_yX1_become wn_ShareHouse_Costs wc_yX1_become (Nat.le_of_ble_eq_true rfl) (Nat.le_of_ble_eq_true rfl) rfl rfl wy_yX1_become rfl ⟨by decide, by decide⟩ (Nat.le_of_ble_eq_true rfl) ?_
  refine am_seg s_Ho_become_1_4 (y := (60, [(0, .ref 1), (1, .ref 57)], [.ref 90, .ref 34], am_D x4)) hF t_s_Ho_become_1_4 rfl rfl ?_
  refine am_bd h (fun x5 hx h => ?_)
  refine am_callV (As := [.ref 90]) (r := none) (st := []) (σ' := am_D x5) (ci := 5) hF hR d_X3_become_60 (c_Ow_become_34 (τ' := x5) hx) (Nat.le_refl _) (Nat.le_refl _) wl_Ho_76 wi_yX5_become we_yX5_become wn_ShareHouse_Owners wc_yX5_become (Nat.le_of_ble_eq_true rfl) (Nat.le_of_ble_eq_true rfl) rfl rfl wy_yX5_become rfl ⟨by decide, by decide⟩ (Nat.le_of_ble_eq_true rfl) ?_
  refine am_seg s_Ho_become_1_5 (y := (71, [(0, .ref 1), (1, .ref 57)], [.ref 97, .ref 41], am_D x5)) hF t_s_Ho_become_1_5 rfl rfl ?_
  refine am_bd h (fun x6 hx h => ?_)
  refine am_callV (As := [.ref 97]) (r := none) (st := []) (σ' := am_D x6) (ci := 10) hF hR d_X3_become_71 (c_Wo_become_41 (τ' := x6) hx) (Nat.le_refl _) (Nat.le_refl _) wl_Ho_79 wi_yX10_become we_yX10_become wn_ShareHouse_Works wc_yX10_become (Nat.le_of_ble_eq_true rfl) (Nat.le_of_ble_eq_true rfl) rfl rfl wy_yX10_become rfl ⟨by decide, by decide⟩ (Nat.le_of_ble_eq_true rfl) ?_
  refine am_seg s_Ho_become_1_6 (y := (82, [(0, .ref 1), (1, .ref 57)], [.ref 108, .ref 52], am_D x6)) hF t_s_Ho_become_1_6 rfl rfl ?_
  refine am_bd h (fun x7 hx h => ?_)
  refine am_callV (As := [.ref 108]) (r := none) (st := []) (σ' := am_D x7) (ci := 8) hF hR d_X3_become_82 (c_Re_become_52 (τ' := x7) hx) (Nat.le_refl _) (Nat.le_refl _) wl_Ho_82 wi_yX8_become we_yX8_become wn_ShareHouse_Reserve wc_yX8_become (Nat.le_of_ble_eq_true rfl) (Nat.le_of_ble_eq_true rfl) rfl rfl wy_yX8_become rfl ⟨by decide, by decide⟩ (Nat.le_of_ble_eq_true rfl) ?_
  obtain rfl := am_one h
  exact am_vret d_X3_become_85 hF hB
theorem c_Ho_become_1 {τ τ' : am_T} (h : Ho_become_1 τ = some τ') : am_C yX3_become cX3_become 2 none 4 104 [.ref 1, .ref 57] (am_D τ) none (am_D τ') :=
  am_enter (by decide +kernel) (Nat.le_of_ble_eq_true rfl) ⟨Nat.le_refl _, Nat.le_refl _⟩ (fun X hF hR hB => ok_Ho_become_1 hF hR hB h)
def s_X_back_0 : List am_Q := [(0, .aload_n 0, 0, 0, 0, .null), (1, .getfield 347, 11, 2, 147, .null)]
theorem t_s_X_back_0 : s_X_back_0.all (am_ok 11 cX11_back) = true := by decide +kernel
theorem d_X11_back_4 : decode cX11_back 4 = .ok (.ifCond .ne 6, 3) := by decide +kernel
def s_X_back_1 : List am_Q := [(10, .aload_n 0, 0, 0, 0, .null), (11, .getfield 10, 11, 0, 145, .null), (14, .aload_n 0, 0, 0, 0, .null), (15, .getfield 16, 11, 1, 146, .null)]
theorem t_s_X_back_1 : s_X_back_1.all (am_ok 11 cX11_back) = true := by decide +kernel
theorem d_X11_back_18 : decode cX11_back 18 = .ok (.invokevirtual 344, 3) := by decide +kernel
def s_X_back_2 : List am_Q := [(21, .iconst 1, 0, 0, 0, .int (nI 1))]
theorem t_s_X_back_2 : s_X_back_2.all (am_ok 11 cX11_back) = true := by decide +kernel
theorem d_X11_back_22 : decode cX11_back 22 = .ok (.ireturn, 1) := by decide +kernel
def s_X_back_3 : List am_Q := [(7, .bipush (-3), 0, 0, 0, .int (-3 : Int32))]
theorem t_s_X_back_3 : s_X_back_3.all (am_ok 11 cX11_back) = true := by decide +kernel
theorem d_X11_back_9 : decode cX11_back 9 = .ok (.ireturn, 1) := by decide +kernel
def X_back (τ : am_T) : Option (Int32 × am_T) :=
  if (τ.1 0 2) = 0 then
  (some ((-3 : Int32), τ))
else
  ((Ho_become_1 τ).bind (fun x1 =>
  some ((nI 1), x1)))
set_option maxRecDepth 20000 in
theorem ok_X_back {X : am_X} {v : Int32} {τ τ' : am_T} (hF : am_F X "ShareHouse" cX11_back 1) (hR : am_R X 5 125) (hB : am_B X (some .int) (some (.int v)) (am_D τ')) (h : X_back τ = some (v, τ')) : am_W X 1 (0, [(0, .ref 0)], [], am_D τ) := by
  unfold X_back at h
  refine am_seg s_X_back_0 (y := (4, [(0, .ref 0)], [.int (τ.1 0 2)], am_D τ)) hF t_s_X_back_0 rfl rfl ?_
  refine am_ite h (fun hc h => ?_) (fun hc h => ?_)
  · refine am_if_ne_f (t := 10) d_X11_back_4 (by decide) hc hF ?_
    refine am_seg s_X_back_3 (y := (9, [(0, .ref 0)], [.int (-3 : Int32)], am_D τ)) hF t_s_X_back_3 rfl rfl ?_
    obtain ⟨rfl, rfl⟩ := am_pair h
    exact am_iret d_X11_back_9 hF hB
  · refine am_if_ne_t (t := 10) d_X11_back_4 (by decide) hc hF ?_
    refine am_seg s_X_back_1 (y := (18, [(0, .ref 0)], [.ref 57, .ref 1], am_D τ)) hF t_s_X_back_1 rfl rfl ?_
    refine am_bd h (fun x1 hx h => ?_)
    refine am_callV (As := [.ref 57]) (r := none) (st := []) (σ' := am_D x1) (ci := 3) hF hR d_X11_back_18 (c_Ho_become_1 (τ' := x1) hx) (Nat.le_refl _) (Nat.le_refl _) wl_X_344 wi_yX3_become we_yX3_become wn_ShareHouse_House wc_yX3_become (Nat.le_of_ble_eq_true rfl) (Nat.le_of_ble_eq_true rfl) rfl rfl wy_yX3_become rfl ⟨by decide, by decide⟩ (Nat.le_of_ble_eq_true rfl) ?_
    refine am_seg s_X_back_2 (y := (22, [(0, .ref 0)], [.int (nI 1)], am_D x1)) hF t_s_X_back_2 rfl rfl ?_
    obtain ⟨rfl, rfl⟩ := am_pair h
    exact am_iret d_X11_back_22 hF hB
theorem c_X_back {v : Int32} {τ τ' : am_T} (h : X_back τ = some (v, τ')) : am_C yX11_back cX11_back 1 (some .int) 5 125 [.ref 0] (am_D τ) (some (.int v)) (am_D τ') :=
  am_enter (by decide +kernel) (Nat.le_of_ble_eq_true rfl) ⟨Nat.le_refl _, Nat.le_refl _⟩ (fun X hF hR hB => ok_X_back hF hR hB h)
def s_M_in_0 : List am_Q := [(0, .iload_n 0, 0, 0, 0, .null), (1, .iload_n 1, 0, 0, 0, .null)]
theorem t_s_M_in_0 : s_M_in_0.all (am_ok 12 cX12_in) = true := by decide +kernel
theorem d_X12_in_2 : decode cX12_in 2 = .ok (.if_icmp .lt 12, 3) := by decide +kernel
def s_M_in_1 : List am_Q := [(14, .iconst 0, 0, 0, 0, .int (nI 0))]
theorem t_s_M_in_1 : s_M_in_1.all (am_ok 12 cX12_in) = true := by decide +kernel
theorem d_X12_in_15 : decode cX12_in 15 = .ok (.ireturn, 1) := by decide +kernel
def s_M_in_2 : List am_Q := [(5, .iload_n 0, 0, 0, 0, .null), (6, .iload_n 2, 0, 0, 0, .null)]
theorem t_s_M_in_2 : s_M_in_2.all (am_ok 12 cX12_in) = true := by decide +kernel
theorem d_X12_in_7 : decode cX12_in 7 = .ok (.if_icmp .gt 7, 3) := by decide +kernel
def s_M_in_3 : List am_Q := [(14, .iconst 0, 0, 0, 0, .int (nI 0))]
theorem t_s_M_in_3 : s_M_in_3.all (am_ok 12 cX12_in) = true := by decide +kernel
def s_M_in_4 : List am_Q := [(10, .iconst 1, 0, 0, 0, .int (nI 1)), (11, .goto 4, 15, 0, 0, .null)]
theorem t_s_M_in_4 : s_M_in_4.all (am_ok 12 cX12_in) = true := by decide +kernel
def M_in (τ : am_T) (a0 : Int32) (a1 : Int32) (a2 : Int32) : Option (Int32 × am_T) :=
  if a0 < a1 then
  (some ((nI 0), τ))
else
  (if a2 < a0 then
  (some ((nI 0), τ))
else
  (some ((nI 1), τ)))
set_option maxRecDepth 20000 in
theorem ok_M_in {X : am_X} {a0 : Int32} {a1 : Int32} {a2 : Int32} {v : Int32} {τ τ' : am_T} (hF : am_F X "ShareHouseModel" cX12_in 3) (hR : am_R X 0 0) (hB : am_B X (some .boolean) (some (.int v)) (am_D τ')) (h : M_in τ a0 a1 a2 = some (v, τ')) : am_W X 3 (0, [(0, .int a0), (1, .int a1), (2, .int a2)], [], am_D τ) := by
  unfold M_in at h
  refine am_seg s_M_in_0 (y := (2, [(0, .int a0), (1, .int a1), (2, .int a2)], [.int a1, .int a0], am_D τ)) hF t_s_M_in_0 rfl rfl ?_
  refine am_ite h (fun hc h => ?_) (fun hc h => ?_)
  · refine am_icmp_lt_t (t := 14) d_X12_in_2 (by decide) hc hF ?_
    refine am_seg s_M_in_1 (y := (15, [(0, .int a0), (1, .int a1), (2, .int a2)], [.int (nI 0)], am_D τ)) hF t_s_M_in_1 rfl rfl ?_
    obtain ⟨rfl, rfl⟩ := am_pair h
    exact am_zret d_X12_in_15 rfl hF hB
  · refine am_icmp_lt_f (t := 14) d_X12_in_2 (by decide) hc hF ?_
    refine am_seg s_M_in_2 (y := (7, [(0, .int a0), (1, .int a1), (2, .int a2)], [.int a2, .int a0], am_D τ)) hF t_s_M_in_2 rfl rfl ?_
    refine am_ite h (fun hc h => ?_) (fun hc h => ?_)
    · refine am_icmp_gt_t (t := 14) d_X12_in_7 (by decide) hc hF ?_
      refine am_seg s_M_in_3 (y := (15, [(0, .int a0), (1, .int a1), (2, .int a2)], [.int (nI 0)], am_D τ)) hF t_s_M_in_3 rfl rfl ?_
      obtain ⟨rfl, rfl⟩ := am_pair h
      exact am_zret d_X12_in_15 rfl hF hB
    · refine am_icmp_gt_f (t := 14) d_X12_in_7 (by decide) hc hF ?_
      refine am_seg s_M_in_4 (y := (15, [(0, .int a0), (1, .int a1), (2, .int a2)], [.int (nI 1)], am_D τ)) hF t_s_M_in_4 rfl rfl ?_
      obtain ⟨rfl, rfl⟩ := am_pair h
      exact am_zret d_X12_in_15 rfl hF hB
theorem c_M_in {a0 : Int32} {a1 : Int32} {a2 : Int32} {v : Int32} {τ τ' : am_T} (h : M_in τ a0 a1 a2 = some (v, τ')) : am_C yX12_in cX12_in 3 (some .boolean) 0 0 [.int a0, .int a1, .int a2] (am_D τ) (some (.int v)) (am_D τ') :=
  am_enter (by decide +kernel) (Nat.le_of_ble_eq_true rfl) ⟨Nat.le_refl _, Nat.le_refl _⟩ (fun X hF hR hB => ok_M_in hF hR hB h)
def s_M_flat_0 : List am_Q := [(0, .iload_n 1, 0, 0, 0, .null), (1, .iconst 0, 0, 0, 0, .int (nI 0)), (2, .bipush 9, 0, 0, 0, .int (nI 9))]
theorem t_s_M_flat_0 : s_M_flat_0.all (am_ok 12 cX12_flat) = true := by decide +kernel
theorem d_X12_flat_4 : decode cX12_flat 4 = .ok (.invokestatic 51, 3) := by decide +kernel
theorem d_X12_flat_7 : decode cX12_flat 7 = .ok (.ifCond .eq 14, 3) := by decide +kernel
def s_M_flat_1 : List am_Q := [(21, .iconst (-1), 0, 0, 0, .int (-1 : Int32))]
theorem t_s_M_flat_1 : s_M_flat_1.all (am_ok 12 cX12_flat) = true := by decide +kernel
theorem d_X12_flat_22 : decode cX12_flat 22 = .ok (.ireturn, 1) := by decide +kernel
def s_M_flat_2 : List am_Q := [(10, .iload_n 2, 0, 0, 0, .null), (11, .iconst 1, 0, 0, 0, .int (nI 1)), (12, .sipush 300, 0, 0, 0, .int (nI 300))]
theorem t_s_M_flat_2 : s_M_flat_2.all (am_ok 12 cX12_flat) = true := by decide +kernel
theorem d_X12_flat_15 : decode cX12_flat 15 = .ok (.invokestatic 51, 3) := by decide +kernel
theorem d_X12_flat_18 : decode cX12_flat 18 = .ok (.ifCond .ne 5, 3) := by decide +kernel
def s_M_flat_3 : List am_Q := [(23, .aload_n 0, 0, 0, 0, .null), (24, .getfield 7, 12, 0, 152, .null), (27, .iconst 1, 0, 0, 0, .int (nI 1))]
theorem t_s_M_flat_3 : s_M_flat_3.all (am_ok 12 cX12_flat) = true := by decide +kernel
theorem d_X12_flat_28 : decode cX12_flat 28 = .ok (.iaload, 1) := by decide +kernel
def s_M_flat_4 : List am_Q := [(29, .bipush 8, 0, 0, 0, .int (nI 8))]
theorem t_s_M_flat_4 : s_M_flat_4.all (am_ok 12 cX12_flat) = true := by decide +kernel
theorem d_X12_flat_31 : decode cX12_flat 31 = .ok (.if_icmp .ne 6, 3) := by decide +kernel
def s_M_flat_5 : List am_Q := [(37, .bipush 22, 0, 0, 0, .int (nI 22)), (39, .iconst 4, 0, 0, 0, .int (nI 4)), (40, .aload_n 0, 0, 0, 0, .null), (41, .getfield 7, 12, 0, 152, .null), (44, .iconst 1, 0, 0, 0, .int (nI 1))]
theorem t_s_M_flat_5 : s_M_flat_5.all (am_ok 12 cX12_flat) = true := by decide +kernel
theorem d_X12_flat_45 : decode cX12_flat 45 = .ok (.iaload, 1) := by decide +kernel
def s_M_flat_6 : List am_Q := [(46, .imul, 0, 0, 0, .null), (47, .iadd, 0, 0, 0, .null), (48, .istore 4, 0, 0, 0, .null), (50, .aload_n 0, 0, 0, 0, .null), (51, .getfield 7, 12, 0, 152, .null), (54, .iload 4, 0, 0, 0, .null), (56, .iload_n 1, 0, 0, 0, .null)]
theorem t_s_M_flat_6 : s_M_flat_6.all (am_ok 12 cX12_flat) = true := by decide +kernel
theorem d_X12_flat_57 : decode cX12_flat 57 = .ok (.iastore, 1) := by decide +kernel
def s_M_flat_7 : List am_Q := [(58, .aload_n 0, 0, 0, 0, .null), (59, .getfield 7, 12, 0, 152, .null), (62, .iload 4, 0, 0, 0, .null), (64, .iconst 1, 0, 0, 0, .int (nI 1)), (65, .iadd, 0, 0, 0, .null), (66, .iload_n 2, 0, 0, 0, .null)]
theorem t_s_M_flat_7 : s_M_flat_7.all (am_ok 12 cX12_flat) = true := by decide +kernel
theorem d_X12_flat_67 : decode cX12_flat 67 = .ok (.iastore, 1) := by decide +kernel
def s_M_flat_8 : List am_Q := [(68, .aload_n 0, 0, 0, 0, .null), (69, .getfield 7, 12, 0, 152, .null), (72, .iload 4, 0, 0, 0, .null), (74, .iconst 2, 0, 0, 0, .int (nI 2)), (75, .iadd, 0, 0, 0, .null), (76, .iload_n 3, 0, 0, 0, .null)]
theorem t_s_M_flat_8 : s_M_flat_8.all (am_ok 12 cX12_flat) = true := by decide +kernel
theorem d_X12_flat_77 : decode cX12_flat 77 = .ok (.ifCond .eq 7, 3) := by decide +kernel
def s_M_flat_9 : List am_Q := [(84, .iconst 0, 0, 0, 0, .int (nI 0))]
theorem t_s_M_flat_9 : s_M_flat_9.all (am_ok 12 cX12_flat) = true := by decide +kernel
theorem d_X12_flat_85 : decode cX12_flat 85 = .ok (.iastore, 1) := by decide +kernel
def s_M_flat_10 : List am_Q := [(86, .aload_n 0, 0, 0, 0, .null), (87, .getfield 7, 12, 0, 152, .null), (90, .iload 4, 0, 0, 0, .null), (92, .iconst 3, 0, 0, 0, .int (nI 3)), (93, .iadd, 0, 0, 0, .null), (94, .iconst 0, 0, 0, 0, .int (nI 0))]
theorem t_s_M_flat_10 : s_M_flat_10.all (am_ok 12 cX12_flat) = true := by decide +kernel
theorem d_X12_flat_95 : decode cX12_flat 95 = .ok (.iastore, 1) := by decide +kernel
def s_M_flat_11 : List am_Q := [(96, .aload_n 0, 0, 0, 0, .null), (97, .getfield 7, 12, 0, 152, .null), (100, .iconst 1, 0, 0, 0, .int (nI 1)), (101, .dup2, 0, 0, 0, .null)]
theorem t_s_M_flat_11 : s_M_flat_11.all (am_ok 12 cX12_flat) = true := by decide +kernel
theorem d_X12_flat_102 : decode cX12_flat 102 = .ok (.iaload, 1) := by decide +kernel
def s_M_flat_12 : List am_Q := [(103, .iconst 1, 0, 0, 0, .int (nI 1)), (104, .iadd, 0, 0, 0, .null)]
theorem t_s_M_flat_12 : s_M_flat_12.all (am_ok 12 cX12_flat) = true := by decide +kernel
theorem d_X12_flat_105 : decode cX12_flat 105 = .ok (.iastore, 1) := by decide +kernel
def s_M_flat_13 : List am_Q := [(106, .aload_n 0, 0, 0, 0, .null), (107, .getfield 7, 12, 0, 152, .null), (110, .iconst 1, 0, 0, 0, .int (nI 1))]
theorem t_s_M_flat_13 : s_M_flat_13.all (am_ok 12 cX12_flat) = true := by decide +kernel
theorem d_X12_flat_111 : decode cX12_flat 111 = .ok (.iaload, 1) := by decide +kernel
def s_M_flat_14 : List am_Q := [(112, .iconst 1, 0, 0, 0, .int (nI 1)), (113, .isub, 0, 0, 0, .null)]
theorem t_s_M_flat_14 : s_M_flat_14.all (am_ok 12 cX12_flat) = true := by decide +kernel
theorem d_X12_flat_114 : decode cX12_flat 114 = .ok (.ireturn, 1) := by decide +kernel
def s_M_flat_15 : List am_Q := [(80, .iconst 1, 0, 0, 0, .int (nI 1)), (81, .goto 4, 85, 0, 0, .null)]
theorem t_s_M_flat_15 : s_M_flat_15.all (am_ok 12 cX12_flat) = true := by decide +kernel
def s_M_flat_16 : List am_Q := [(34, .bipush (-2), 0, 0, 0, .int (-2 : Int32))]
theorem t_s_M_flat_16 : s_M_flat_16.all (am_ok 12 cX12_flat) = true := by decide +kernel
theorem d_X12_flat_36 : decode cX12_flat 36 = .ok (.ireturn, 1) := by decide +kernel
def s_M_flat_17 : List am_Q := [(21, .iconst (-1), 0, 0, 0, .int (-1 : Int32))]
theorem t_s_M_flat_17 : s_M_flat_17.all (am_ok 12 cX12_flat) = true := by decide +kernel
def M_flat_85 (τ : am_T) (a4 : Int32) (s0 : Int32) (s1 : Int32) : Option (Int32 × am_T) :=
  am_g (am_in s1 1060) (am_g (am_in (a4 + (nI 3)) 1060) (some ((((am_si (am_si (am_si τ 141 (s1.toNatClampNeg) s0) 141 ((a4 + (nI 3)).toNatClampNeg) (nI 0)) 141 1 (((am_si (am_si τ 141 (s1.toNatClampNeg) s0) 141 ((a4 + (nI 3)).toNatClampNeg) (nI 0)).1 141 1) + (nI 1))).1 141 1) - (nI 1)), (am_si (am_si (am_si τ 141 (s1.toNatClampNeg) s0) 141 ((a4 + (nI 3)).toNatClampNeg) (nI 0)) 141 1 (((am_si (am_si τ 141 (s1.toNatClampNeg) s0) 141 ((a4 + (nI 3)).toNatClampNeg) (nI 0)).1 141 1) + (nI 1))))))
set_option maxRecDepth 20000 in
theorem ok_M_flat_85 {X : am_X} {v : Int32} {τ' : am_T} (hF : am_F X "ShareHouseModel" cX12_flat 5) (hR : am_R X 1 22) (hB : am_B X (some .int) (some (.int v)) (am_D τ')) {τ : am_T} {a4 : Int32} {s0 : Int32} {s1 : Int32} (h : M_flat_85 τ a4 s0 s1 = some (v, τ')) : am_W X 5 (85, [(0, .ref 140), (4, .int a4)], [.int s0, .int s1, .ref 141], am_D τ) := by
  unfold M_flat_85 at h
  refine am_gd h (fun hi h => ?_)
  refine am_iast (n := 1060) (j := (s1.toNatClampNeg)) d_X12_flat_85 (Nat.le_of_ble_eq_true rfl) (Nat.le_of_ble_eq_true rfl) rfl hi rfl hF ?_
  refine am_seg s_M_flat_10 (y := (95, [(0, .ref 140), (4, .int a4)], [.int (nI 0), .int (a4 + (nI 3)), .ref 141], am_D (am_si τ 141 (s1.toNatClampNeg) s0))) hF t_s_M_flat_10 rfl rfl ?_
  refine am_gd h (fun hi h => ?_)
  refine am_iast (n := 1060) (j := ((a4 + (nI 3)).toNatClampNeg)) d_X12_flat_95 (Nat.le_of_ble_eq_true rfl) (Nat.le_of_ble_eq_true rfl) rfl hi rfl hF ?_
  refine am_seg s_M_flat_11 (y := (102, [(0, .ref 140), (4, .int a4)], [.int (nI 1), .ref 141, .int (nI 1), .ref 141], am_D (am_si (am_si τ 141 (s1.toNatClampNeg) s0) 141 ((a4 + (nI 3)).toNatClampNeg) (nI 0)))) hF t_s_M_flat_11 rfl rfl ?_
  refine am_iald (n := 1060) (j := 1) d_X12_flat_102 (Nat.le_of_ble_eq_true rfl) (Nat.le_of_ble_eq_true rfl) rfl (by decide) rfl hF ?_
  refine am_seg s_M_flat_12 (y := (105, [(0, .ref 140), (4, .int a4)], [.int (((am_si (am_si τ 141 (s1.toNatClampNeg) s0) 141 ((a4 + (nI 3)).toNatClampNeg) (nI 0)).1 141 1) + (nI 1)), .int (nI 1), .ref 141], am_D (am_si (am_si τ 141 (s1.toNatClampNeg) s0) 141 ((a4 + (nI 3)).toNatClampNeg) (nI 0)))) hF t_s_M_flat_12 rfl rfl ?_
  refine am_iast (n := 1060) (j := 1) d_X12_flat_105 (Nat.le_of_ble_eq_true rfl) (Nat.le_of_ble_eq_true rfl) rfl (by decide) rfl hF ?_
  refine am_seg s_M_flat_13 (y := (111, [(0, .ref 140), (4, .int a4)], [.int (nI 1), .ref 141], am_D (am_si (am_si (am_si τ 141 (s1.toNatClampNeg) s0) 141 ((a4 + (nI 3)).toNatClampNeg) (nI 0)) 141 1 (((am_si (am_si τ 141 (s1.toNatClampNeg) s0) 141 ((a4 + (nI 3)).toNatClampNeg) (nI 0)).1 141 1) + (nI 1))))) hF t_s_M_flat_13 rfl rfl ?_
  refine am_iald (n := 1060) (j := 1) d_X12_flat_111 (Nat.le_of_ble_eq_true rfl) (Nat.le_of_ble_eq_true rfl) rfl (by decide) rfl hF ?_
  refine am_seg s_M_flat_14 (y := (114, [(0, .ref 140), (4, .int a4)], [.int (((am_si (am_si (am_si τ 141 (s1.toNatClampNeg) s0) 141 ((a4 + (nI 3)).toNatClampNeg) (nI 0)) 141 1 (((am_si (am_si τ 141 (s1.toNatClampNeg) s0) 141 ((a4 + (nI 3)).toNatClampNeg) (nI 0)).1 141 1) + (nI 1))).1 141 1) - (nI 1))], am_D (am_si (am_si (am_si τ 141 (s1.toNatClampNeg) s0) 141 ((a4 + (nI 3)).toNatClampNeg) (nI 0)) 141 1 (((am_si (am_si τ 141 (s1.toNatClampNeg) s0) 141 ((a4 + (nI 3)).toNatClampNeg) (nI 0)).1 141 1) + (nI 1))))) hF t_s_M_flat_14 rfl rfl ?_
  obtain ⟨rfl, rfl⟩ := am_pair h
  exact am_iret d_X12_flat_114 hF hB
def M_flat (τ : am_T) (a1 : Int32) (a2 : Int32) (a3 : Int32) : Option (Int32 × am_T) :=
  (M_in τ a1 (nI 0) (nI 9)).bind (fun x1 =>
  if x1.1 = 0 then
  (some ((-1 : Int32), x1.2))
else
  ((M_in x1.2 a2 (nI 1) (nI 300)).bind (fun x2 =>
  if x2.1 = 0 then
  (some ((-1 : Int32), x2.2))
else
  (if (x2.2.1 141 1) = (nI 8) then
  (some ((-2 : Int32), x2.2))
else
  (am_g (am_in ((nI 22) + ((nI 4) * (x2.2.1 141 1))) 1060) (am_g (am_in (((nI 22) + ((nI 4) * (x2.2.1 141 1))) + (nI 1)) 1060) (if a3 = 0 then
  (M_flat_85 (am_si (am_si x2.2 141 (((nI 22) + ((nI 4) * (x2.2.1 141 1))).toNatClampNeg) a1) 141 ((((nI 22) + ((nI 4) * (x2.2.1 141 1))) + (nI 1)).toNatClampNeg) a2) ((nI 22) + ((nI 4) * (x2.2.1 141 1))) (nI 0) (((nI 22) + ((nI 4) * (x2.2.1 141 1))) + (nI 2)))
else
  (M_flat_85 (am_si (am_si x2.2 141 (((nI 22) + ((nI 4) * (x2.2.1 141 1))).toNatClampNeg) a1) 141 ((((nI 22) + ((nI 4) * (x2.2.1 141 1))) + (nI 1)).toNatClampNeg) a2) ((nI 22) + ((nI 4) * (x2.2.1 141 1))) (nI 1) (((nI 22) + ((nI 4) * (x2.2.1 141 1))) + (nI 2))))))))))
set_option maxRecDepth 20000 in
theorem ok_M_flat {X : am_X} {a1 : Int32} {a2 : Int32} {a3 : Int32} {v : Int32} {τ τ' : am_T} (hF : am_F X "ShareHouseModel" cX12_flat 5) (hR : am_R X 1 22) (hB : am_B X (some .int) (some (.int v)) (am_D τ')) (h : M_flat τ a1 a2 a3 = some (v, τ')) : am_W X 5 (0, [(0, .ref 140), (1, .int a1), (2, .int a2), (3, .int a3)], [], am_D τ) := by
  unfold M_flat at h
  refine am_seg s_M_flat_0 (y := (4, [(0, .ref 140), (1, .int a1), (2, .int a2), (3, .int a3)], [.int (nI 9), .int (nI 0), .int a1], am_D τ)) hF t_s_M_flat_0 rfl rfl ?_
  refine am_bd h (fun x1 hx h => ?_)
  refine am_callS (As := [.int a1, .int (nI 0), .int (nI 9)]) (r := (some (.int x1.1))) (st := []) (σ' := am_D x1.2) hF hR d_X12_flat_4 (c_M_in (τ' := x1.2) hx) (Nat.le_refl _) (Nat.le_refl _) wl_M_51 ws_yX12_in wn_ShareHouseModel wc_yX12_in wy_yX12_in rfl ⟨by decide, by decide⟩ (Nat.le_of_ble_eq_true rfl) ?_
  refine am_ite h (fun hc h => ?_) (fun hc h => ?_)
  · refine am_if_eq_t (t := 21) d_X12_flat_7 (by decide) hc hF ?_
    refine am_seg s_M_flat_1 (y := (22, [(0, .ref 140), (1, .int a1), (2, .int a2), (3, .int a3)], [.int (-1 : Int32)], am_D x1.2)) hF t_s_M_flat_1 rfl rfl ?_
    obtain ⟨rfl, rfl⟩ := am_pair h
    exact am_iret d_X12_flat_22 hF hB
  · refine am_if_eq_f (t := 21) d_X12_flat_7 (by decide) hc hF ?_
    refine am_seg s_M_flat_2 (y := (15, [(0, .ref 140), (1, .int a1), (2, .int a2), (3, .int a3)], [.int (nI 300), .int (nI 1), .int a2], am_D x1.2)) hF t_s_M_flat_2 rfl rfl ?_
    refine am_bd h (fun x2 hx h => ?_)
    refine am_callS (As := [.int a2, .int (nI 1), .int (nI 300)]) (r := (some (.int x2.1))) (st := []) (σ' := am_D x2.2) hF hR d_X12_flat_15 (c_M_in (τ' := x2.2) hx) (Nat.le_refl _) (Nat.le_refl _) wl_M_51 ws_yX12_in wn_ShareHouseModel wc_yX12_in wy_yX12_in rfl ⟨by decide, by decide⟩ (Nat.le_of_ble_eq_true rfl) ?_
    refine am_ite h (fun hc h => ?_) (fun hc h => ?_)
    · refine am_if_ne_f (t := 23) d_X12_flat_18 (by decide) hc hF ?_
      refine am_seg s_M_flat_17 (y := (22, [(0, .ref 140), (1, .int a1), (2, .int a2), (3, .int a3)], [.int (-1 : Int32)], am_D x2.2)) hF t_s_M_flat_17 rfl rfl ?_
      obtain ⟨rfl, rfl⟩ := am_pair h
      exact am_iret d_X12_flat_22 hF hB
    · refine am_if_ne_t (t := 23) d_X12_flat_18 (by decide) hc hF ?_
      refine am_seg s_M_flat_3 (y := (28, [(0, .ref 140), (1, .int a1), (2, .int a2), (3, .int a3)], [.int (nI 1), .ref 141], am_D x2.2)) hF t_s_M_flat_3 rfl rfl ?_
      refine am_iald (n := 1060) (j := 1) d_X12_flat_28 (Nat.le_of_ble_eq_true rfl) (Nat.le_of_ble_eq_true rfl) rfl (by decide) rfl hF ?_
      refine am_seg s_M_flat_4 (y := (31, [(0, .ref 140), (1, .int a1), (2, .int a2), (3, .int a3)], [.int (nI 8), .int (x2.2.1 141 1)], am_D x2.2)) hF t_s_M_flat_4 rfl rfl ?_
      refine am_ite h (fun hc h => ?_) (fun hc h => ?_)
      · refine am_icmp_ne_f (t := 37) d_X12_flat_31 (by decide) hc hF ?_
        refine am_seg s_M_flat_16 (y := (36, [(0, .ref 140), (1, .int a1), (2, .int a2), (3, .int a3)], [.int (-2 : Int32)], am_D x2.2)) hF t_s_M_flat_16 rfl rfl ?_
        obtain ⟨rfl, rfl⟩ := am_pair h
        exact am_iret d_X12_flat_36 hF hB
      · refine am_icmp_ne_t (t := 37) d_X12_flat_31 (by decide) hc hF ?_
        refine am_seg s_M_flat_5 (y := (45, [(0, .ref 140), (1, .int a1), (2, .int a2), (3, .int a3)], [.int (nI 1), .ref 141, .int (nI 4), .int (nI 22)], am_D x2.2)) hF t_s_M_flat_5 rfl rfl ?_
        refine am_iald (n := 1060) (j := 1) d_X12_flat_45 (Nat.le_of_ble_eq_true rfl) (Nat.le_of_ble_eq_true rfl) rfl (by decide) rfl hF ?_
        refine am_seg s_M_flat_6 (y := (57, [(4, .int ((nI 22) + ((nI 4) * (x2.2.1 141 1)))), (0, .ref 140), (1, .int a1), (2, .int a2), (3, .int a3)], [.int a1, .int ((nI 22) + ((nI 4) * (x2.2.1 141 1))), .ref 141], am_D x2.2)) hF t_s_M_flat_6 rfl rfl ?_
        refine am_gd h (fun hi h => ?_)
        refine am_iast (n := 1060) (j := (((nI 22) + ((nI 4) * (x2.2.1 141 1))).toNatClampNeg)) d_X12_flat_57 (Nat.le_of_ble_eq_true rfl) (Nat.le_of_ble_eq_true rfl) rfl hi rfl hF ?_
        refine am_seg s_M_flat_7 (y := (67, [(4, .int ((nI 22) + ((nI 4) * (x2.2.1 141 1)))), (0, .ref 140), (1, .int a1), (2, .int a2), (3, .int a3)], [.int a2, .int (((nI 22) + ((nI 4) * (x2.2.1 141 1))) + (nI 1)), .ref 141], am_D (am_si x2.2 141 (((nI 22) + ((nI 4) * (x2.2.1 141 1))).toNatClampNeg) a1))) hF t_s_M_flat_7 rfl rfl ?_
        refine am_gd h (fun hi h => ?_)
        refine am_iast (n := 1060) (j := ((((nI 22) + ((nI 4) * (x2.2.1 141 1))) + (nI 1)).toNatClampNeg)) d_X12_flat_67 (Nat.le_of_ble_eq_true rfl) (Nat.le_of_ble_eq_true rfl) rfl hi rfl hF ?_
        refine am_seg s_M_flat_8 (y := (77, [(4, .int ((nI 22) + ((nI 4) * (x2.2.1 141 1)))), (0, .ref 140), (1, .int a1), (2, .int a2), (3, .int a3)], [.int a3, .int (((nI 22) + ((nI 4) * (x2.2.1 141 1))) + (nI 2)), .ref 141], am_D (am_si (am_si x2.2 141 (((nI 22) + ((nI 4) * (x2.2.1 141 1))).toNatClampNeg) a1) 141 ((((nI 22) + ((nI 4) * (x2.2.1 141 1))) + (nI 1)).toNatClampNeg) a2))) hF t_s_M_flat_8 rfl rfl ?_
        refine am_ite h (fun hc h => ?_) (fun hc h => ?_)
        · refine am_if_eq_t (t := 84) d_X12_flat_77 (by decide) hc hF ?_
          refine am_seg s_M_flat_9 (y := (85, [(4, .int ((nI 22) + ((nI 4) * (x2.2.1 141 1)))), (0, .ref 140), (1, .int a1), (2, .int a2), (3, .int a3)], [.int (nI 0), .int (((nI 22) + ((nI 4) * (x2.2.1 141 1))) + (nI 2)), .ref 141], am_D (am_si (am_si x2.2 141 (((nI 22) + ((nI 4) * (x2.2.1 141 1))).toNatClampNeg) a1) 141 ((((nI 22) + ((nI 4) * (x2.2.1 141 1))) + (nI 1)).toNatClampNeg) a2))) hF t_s_M_flat_9 rfl rfl ?_
          refine am_pick [1, 0] rfl ?_
          exact ok_M_flat_85 hF hR hB h
        · refine am_if_eq_f (t := 84) d_X12_flat_77 (by decide) hc hF ?_
          refine am_seg s_M_flat_15 (y := (85, [(4, .int ((nI 22) + ((nI 4) * (x2.2.1 141 1)))), (0, .ref 140), (1, .int a1), (2, .int a2), (3, .int a3)], [.int (nI 1), .int (((nI 22) + ((nI 4) * (x2.2.1 141 1))) + (nI 2)), .ref 141], am_D (am_si (am_si x2.2 141 (((nI 22) + ((nI 4) * (x2.2.1 141 1))).toNatClampNeg) a1) 141 ((((nI 22) + ((nI 4) * (x2.2.1 141 1))) + (nI 1)).toNatClampNeg) a2))) hF t_s_M_flat_15 rfl rfl ?_
          refine am_pick [1, 0] rfl ?_
          exact ok_M_flat_85 hF hR hB h
theorem c_M_flat {a1 : Int32} {a2 : Int32} {a3 : Int32} {v : Int32} {τ τ' : am_T} (h : M_flat τ a1 a2 a3 = some (v, τ')) : am_C yX12_flat cX12_flat 5 (some .int) 1 22 [.ref 140, .int a1, .int a2, .int a3] (am_D τ) (some (.int v)) (am_D τ') :=
  am_enter (by decide +kernel) (Nat.le_of_ble_eq_true rfl) ⟨Nat.le_refl _, Nat.le_refl _⟩ (fun X hF hR hB => ok_M_flat hF hR hB h)
def s_M_days_0 : List am_Q := [(0, .iload_n 1, 0, 0, 0, .null), (1, .iconst 1, 0, 0, 0, .int (nI 1)), (2, .bipush 100, 0, 0, 0, .int (nI 100))]
theorem t_s_M_days_0 : s_M_days_0.all (am_ok 12 cX12_days) = true := by decide +kernel
theorem d_X12_days_4 : decode cX12_days 4 = .ok (.invokestatic 51, 3) := by decide +kernel
theorem d_X12_days_7 : decode cX12_days 7 = .ok (.ifCond .ne 5, 3) := by decide +kernel
def s_M_days_1 : List am_Q := [(12, .aload_n 0, 0, 0, 0, .null), (13, .getfield 7, 12, 0, 152, .null), (16, .iconst 0, 0, 0, 0, .int (nI 0))]
theorem t_s_M_days_1 : s_M_days_1.all (am_ok 12 cX12_days) = true := by decide +kernel
theorem d_X12_days_17 : decode cX12_days 17 = .ok (.iaload, 1) := by decide +kernel
def s_M_days_2 : List am_Q := [(18, .iload_n 1, 0, 0, 0, .null), (19, .iadd, 0, 0, 0, .null), (20, .sipush 900, 0, 0, 0, .int (nI 900))]
theorem t_s_M_days_2 : s_M_days_2.all (am_ok 12 cX12_days) = true := by decide +kernel
theorem d_X12_days_23 : decode cX12_days 23 = .ok (.if_icmp .le 6, 3) := by decide +kernel
def s_M_days_3 : List am_Q := [(29, .aload_n 0, 0, 0, 0, .null), (30, .getfield 7, 12, 0, 152, .null), (33, .iconst 0, 0, 0, 0, .int (nI 0)), (34, .dup2, 0, 0, 0, .null)]
theorem t_s_M_days_3 : s_M_days_3.all (am_ok 12 cX12_days) = true := by decide +kernel
theorem d_X12_days_35 : decode cX12_days 35 = .ok (.iaload, 1) := by decide +kernel
def s_M_days_4 : List am_Q := [(36, .iload_n 1, 0, 0, 0, .null), (37, .iadd, 0, 0, 0, .null)]
theorem t_s_M_days_4 : s_M_days_4.all (am_ok 12 cX12_days) = true := by decide +kernel
theorem d_X12_days_38 : decode cX12_days 38 = .ok (.iastore, 1) := by decide +kernel
def s_M_days_5 : List am_Q := [(39, .aload_n 0, 0, 0, 0, .null), (40, .getfield 7, 12, 0, 152, .null), (43, .iconst 0, 0, 0, 0, .int (nI 0))]
theorem t_s_M_days_5 : s_M_days_5.all (am_ok 12 cX12_days) = true := by decide +kernel
theorem d_X12_days_44 : decode cX12_days 44 = .ok (.iaload, 1) := by decide +kernel
theorem d_X12_days_45 : decode cX12_days 45 = .ok (.ireturn, 1) := by decide +kernel
def s_M_days_6 : List am_Q := [(26, .bipush (-4), 0, 0, 0, .int (-4 : Int32))]
theorem t_s_M_days_6 : s_M_days_6.all (am_ok 12 cX12_days) = true := by decide +kernel
theorem d_X12_days_28 : decode cX12_days 28 = .ok (.ireturn, 1) := by decide +kernel
def s_M_days_7 : List am_Q := [(10, .iconst (-1), 0, 0, 0, .int (-1 : Int32))]
theorem t_s_M_days_7 : s_M_days_7.all (am_ok 12 cX12_days) = true := by decide +kernel
theorem d_X12_days_11 : decode cX12_days 11 = .ok (.ireturn, 1) := by decide +kernel
def M_days (τ : am_T) (a1 : Int32) : Option (Int32 × am_T) :=
  (M_in τ a1 (nI 1) (nI 100)).bind (fun x1 =>
  if x1.1 = 0 then
  (some ((-1 : Int32), x1.2))
else
  (if ((x1.2.1 141 0) + a1) ≤ (nI 900) then
  (some (((am_si x1.2 141 0 ((x1.2.1 141 0) + a1)).1 141 0), (am_si x1.2 141 0 ((x1.2.1 141 0) + a1))))
else
  (some ((-4 : Int32), x1.2))))
set_option maxRecDepth 20000 in
theorem ok_M_days {X : am_X} {a1 : Int32} {v : Int32} {τ τ' : am_T} (hF : am_F X "ShareHouseModel" cX12_days 2) (hR : am_R X 1 22) (hB : am_B X (some .int) (some (.int v)) (am_D τ')) (h : M_days τ a1 = some (v, τ')) : am_W X 2 (0, [(0, .ref 140), (1, .int a1)], [], am_D τ) := by
  unfold M_days at h
  refine am_seg s_M_days_0 (y := (4, [(0, .ref 140), (1, .int a1)], [.int (nI 100), .int (nI 1), .int a1], am_D τ)) hF t_s_M_days_0 rfl rfl ?_
  refine am_bd h (fun x1 hx h => ?_)
  refine am_callS (As := [.int a1, .int (nI 1), .int (nI 100)]) (r := (some (.int x1.1))) (st := []) (σ' := am_D x1.2) hF hR d_X12_days_4 (c_M_in (τ' := x1.2) hx) (Nat.le_refl _) (Nat.le_refl _) wl_M_51 ws_yX12_in wn_ShareHouseModel wc_yX12_in wy_yX12_in rfl ⟨by decide, by decide⟩ (Nat.le_of_ble_eq_true rfl) ?_
  refine am_ite h (fun hc h => ?_) (fun hc h => ?_)
  · refine am_if_ne_f (t := 12) d_X12_days_7 (by decide) hc hF ?_
    refine am_seg s_M_days_7 (y := (11, [(0, .ref 140), (1, .int a1)], [.int (-1 : Int32)], am_D x1.2)) hF t_s_M_days_7 rfl rfl ?_
    obtain ⟨rfl, rfl⟩ := am_pair h
    exact am_iret d_X12_days_11 hF hB
  · refine am_if_ne_t (t := 12) d_X12_days_7 (by decide) hc hF ?_
    refine am_seg s_M_days_1 (y := (17, [(0, .ref 140), (1, .int a1)], [.int (nI 0), .ref 141], am_D x1.2)) hF t_s_M_days_1 rfl rfl ?_
    refine am_iald (n := 1060) (j := 0) d_X12_days_17 (Nat.le_of_ble_eq_true rfl) (Nat.le_of_ble_eq_true rfl) rfl (by decide) rfl hF ?_
    refine am_seg s_M_days_2 (y := (23, [(0, .ref 140), (1, .int a1)], [.int (nI 900), .int ((x1.2.1 141 0) + a1)], am_D x1.2)) hF t_s_M_days_2 rfl rfl ?_
    refine am_ite h (fun hc h => ?_) (fun hc h => ?_)
    · refine am_icmp_le_t (t := 29) d_X12_days_23 (by decide) hc hF ?_
      refine am_seg s_M_days_3 (y := (35, [(0, .ref 140), (1, .int a1)], [.int (nI 0), .ref 141, .int (nI 0), .ref 141], am_D x1.2)) hF t_s_M_days_3 rfl rfl ?_
      refine am_iald (n := 1060) (j := 0) d_X12_days_35 (Nat.le_of_ble_eq_true rfl) (Nat.le_of_ble_eq_true rfl) rfl (by decide) rfl hF ?_
      refine am_seg s_M_days_4 (y := (38, [(0, .ref 140), (1, .int a1)], [.int ((x1.2.1 141 0) + a1), .int (nI 0), .ref 141], am_D x1.2)) hF t_s_M_days_4 rfl rfl ?_
      refine am_iast (n := 1060) (j := 0) d_X12_days_38 (Nat.le_of_ble_eq_true rfl) (Nat.le_of_ble_eq_true rfl) rfl (by decide) rfl hF ?_
      refine am_seg s_M_days_5 (y := (44, [(0, .ref 140), (1, .int a1)], [.int (nI 0), .ref 141], am_D (am_si x1.2 141 0 ((x1.2.1 141 0) + a1)))) hF t_s_M_days_5 rfl rfl ?_
      refine am_iald (n := 1060) (j := 0) d_X12_days_44 (Nat.le_of_ble_eq_true rfl) (Nat.le_of_ble_eq_true rfl) rfl (by decide) rfl hF ?_
      obtain ⟨rfl, rfl⟩ := am_pair h
      exact am_iret d_X12_days_45 hF hB
    · refine am_icmp_le_f (t := 29) d_X12_days_23 (by decide) hc hF ?_
      refine am_seg s_M_days_6 (y := (28, [(0, .ref 140), (1, .int a1)], [.int (-4 : Int32)], am_D x1.2)) hF t_s_M_days_6 rfl rfl ?_
      obtain ⟨rfl, rfl⟩ := am_pair h
      exact am_iret d_X12_days_28 hF hB
theorem c_M_days {a1 : Int32} {v : Int32} {τ τ' : am_T} (h : M_days τ a1 = some (v, τ')) : am_C yX12_days cX12_days 2 (some .int) 1 22 [.ref 140, .int a1] (am_D τ) (some (.int v)) (am_D τ') :=
  am_enter (by decide +kernel) (Nat.le_of_ble_eq_true rfl) ⟨Nat.le_refl _, Nat.le_refl _⟩ (fun X hF hR hB => ok_M_days hF hR hB h)
def s_M_feed_0 : List am_Q := [(0, .iload_n 3, 0, 0, 0, .null), (1, .iconst 1, 0, 0, 0, .int (nI 1)), (2, .bipush 8, 0, 0, 0, .int (nI 8))]
theorem t_s_M_feed_0 : s_M_feed_0.all (am_ok 12 cX12_feed) = true := by decide +kernel
theorem d_X12_feed_4 : decode cX12_feed 4 = .ok (.invokestatic 51, 3) := by decide +kernel
theorem d_X12_feed_7 : decode cX12_feed 7 = .ok (.ifCond .ne 5, 3) := by decide +kernel
def s_M_feed_1 : List am_Q := [(12, .aload_n 0, 0, 0, 0, .null), (13, .getfield 55, 12, 4, 156, .null), (16, .iload_n 3, 0, 0, 0, .null), (17, .iadd, 0, 0, 0, .null), (18, .sipush 200, 0, 0, 0, .int (nI 200))]
theorem t_s_M_feed_1 : s_M_feed_1.all (am_ok 12 cX12_feed) = true := by decide +kernel
theorem d_X12_feed_21 : decode cX12_feed 21 = .ok (.if_icmp .le 6, 3) := by decide +kernel
def s_M_feed_2 : List am_Q := [(27, .iconst 0, 0, 0, 0, .int (nI 0)), (28, .istore 4, 0, 0, 0, .null)]
theorem t_s_M_feed_2 : s_M_feed_2.all (am_ok 12 cX12_feed) = true := by decide +kernel
def s_M_feed_3 : List am_Q := [(30, .iload 4, 0, 0, 0, .null), (32, .iload_n 3, 0, 0, 0, .null)]
theorem t_s_M_feed_3 : s_M_feed_3.all (am_ok 12 cX12_feed) = true := by decide +kernel
theorem d_X12_feed_33 : decode cX12_feed 33 = .ok (.if_icmp .ge 40, 3) := by decide +kernel
def s_M_feed_4 : List am_Q := [(73, .aload_n 0, 0, 0, 0, .null), (74, .getfield 55, 12, 4, 156, .null)]
theorem t_s_M_feed_4 : s_M_feed_4.all (am_ok 12 cX12_feed) = true := by decide +kernel
theorem d_X12_feed_77 : decode cX12_feed 77 = .ok (.ireturn, 1) := by decide +kernel
def s_M_feed_5 : List am_Q := [(36, .aload_n 0, 0, 0, 0, .null), (37, .getfield 16, 12, 3, 155, .null), (40, .aload_n 0, 0, 0, 0, .null), (41, .getfield 55, 12, 4, 156, .null), (44, .lload_n 1, 0, 0, 0, .null), (45, .bipush 8, 0, 0, 0, .int (nI 8)), (47, .iload 4, 0, 0, 0, .null), (49, .imul, 0, 0, 0, .null), (50, .lshr, 0, 0, 0, .null), (51, .ldc2_w 58, 0, 0, 8, .long (lN 255)), (54, .land, 0, 0, 0, .null), (55, .l2i, 0, 0, 0, .null)]
theorem t_s_M_feed_5 : s_M_feed_5.all (am_ok 12 cX12_feed) = true := by decide +kernel
theorem d_X12_feed_56 : decode cX12_feed 56 = .ok (.iastore, 1) := by decide +kernel
def s_M_feed_6 : List am_Q := [(57, .aload_n 0, 0, 0, 0, .null), (58, .dup, 0, 0, 0, .null), (59, .getfield 55, 12, 4, 156, .null), (62, .iconst 1, 0, 0, 0, .int (nI 1)), (63, .iadd, 0, 0, 0, .null), (64, .putfield 55, 12, 4, 156, .null), (67, .iinc 4 1, 0, 0, 0, .int (nI 1)), (70, .goto (-40), 30, 0, 0, .null)]
theorem t_s_M_feed_6 : s_M_feed_6.all (am_ok 12 cX12_feed) = true := by decide +kernel
def s_M_feed_7 : List am_Q := [(24, .bipush (-2), 0, 0, 0, .int (-2 : Int32))]
theorem t_s_M_feed_7 : s_M_feed_7.all (am_ok 12 cX12_feed) = true := by decide +kernel
theorem d_X12_feed_26 : decode cX12_feed 26 = .ok (.ireturn, 1) := by decide +kernel
def s_M_feed_8 : List am_Q := [(10, .iconst (-1), 0, 0, 0, .int (-1 : Int32))]
theorem t_s_M_feed_8 : s_M_feed_8.all (am_ok 12 cX12_feed) = true := by decide +kernel
theorem d_X12_feed_11 : decode cX12_feed 11 = .ok (.ireturn, 1) := by decide +kernel
def M_feed_30 : Nat → am_T → Int64 → Int32 → Int32 → Option (Int32 × am_T)
  | 0, _, _, _, _ => none
  | n + 1, τ, a1, a3, a4 =>
    if a3 ≤ a4 then
  (some ((τ.1 140 4), τ))
else
  (am_g (am_in (τ.1 140 4) 200) ((M_feed_30 n) (am_si (am_si τ 143 ((τ.1 140 4).toNatClampNeg) (Int64.toInt32 ((a1 >>> (Int32.toInt64 ((nI 8) * a4) &&& 63)) &&& (lN 255)))) 140 4 (((am_si τ 143 ((τ.1 140 4).toNatClampNeg) (Int64.toInt32 ((a1 >>> (Int32.toInt64 ((nI 8) * a4) &&& 63)) &&& (lN 255)))).1 140 4) + (nI 1))) a1 a3 (a4 + (nI 1))))
set_option maxRecDepth 20000 in
theorem ok_M_feed_30 {X : am_X} {v : Int32} {τ' : am_T} (hF : am_F X "ShareHouseModel" cX12_feed 5) (hR : am_R X 1 22) (hB : am_B X (some .int) (some (.int v)) (am_D τ')) : ∀ (n : Nat) (τ : am_T) (a1 : Int64) (a3 : Int32) (a4 : Int32), M_feed_30 n τ a1 a3 a4 = some (v, τ') → am_W X 5 (30, [(0, .ref 140), (1, .long a1), (3, .int a3), (4, .int a4)], [], am_D τ) := by
  intro n
  induction n with
  | zero => intro τ a1 a3 a4 h; unfold M_feed_30 at h; cases h
  | succ n ih =>
    intro τ a1 a3 a4 h
    unfold M_feed_30 at h
    refine am_seg s_M_feed_3 (y := (33, [(0, .ref 140), (1, .long a1), (3, .int a3), (4, .int a4)], [.int a3, .int a4], am_D τ)) hF t_s_M_feed_3 rfl rfl ?_
    refine am_ite h (fun hc h => ?_) (fun hc h => ?_)
    · refine am_icmp_ge_t (t := 73) d_X12_feed_33 (by decide) hc hF ?_
      refine am_seg s_M_feed_4 (y := (77, [(0, .ref 140), (1, .long a1), (3, .int a3), (4, .int a4)], [.int (τ.1 140 4)], am_D τ)) hF t_s_M_feed_4 rfl rfl ?_
      obtain ⟨rfl, rfl⟩ := am_pair h
      exact am_iret d_X12_feed_77 hF hB
    · refine am_icmp_ge_f (t := 73) d_X12_feed_33 (by decide) hc hF ?_
      refine am_seg s_M_feed_5 (y := (56, [(0, .ref 140), (1, .long a1), (3, .int a3), (4, .int a4)], [.int (Int64.toInt32 ((a1 >>> (Int32.toInt64 ((nI 8) * a4) &&& 63)) &&& (lN 255))), .int (τ.1 140 4), .ref 143], am_D τ)) hF t_s_M_feed_5 rfl rfl ?_
      refine am_gd h (fun hi h => ?_)
      refine am_iast (n := 200) (j := ((τ.1 140 4).toNatClampNeg)) d_X12_feed_56 (Nat.le_of_ble_eq_true rfl) (Nat.le_of_ble_eq_true rfl) rfl hi rfl hF ?_
      refine am_seg s_M_feed_6 (y := (30, [(4, .int (a4 + (nI 1))), (0, .ref 140), (1, .long a1), (3, .int a3)], [], am_D (am_si (am_si τ 143 ((τ.1 140 4).toNatClampNeg) (Int64.toInt32 ((a1 >>> (Int32.toInt64 ((nI 8) * a4) &&& 63)) &&& (lN 255)))) 140 4 (((am_si τ 143 ((τ.1 140 4).toNatClampNeg) (Int64.toInt32 ((a1 >>> (Int32.toInt64 ((nI 8) * a4) &&& 63)) &&& (lN 255)))).1 140 4) + (nI 1))))) hF t_s_M_feed_6 rfl rfl ?_
      refine am_pick [1, 2, 3, 0] rfl ?_
      exact ih _ _ _ _ h
def M_feed (τ : am_T) (a1 : Int64) (a3 : Int32) : Option (Int32 × am_T) :=
  (M_in τ a3 (nI 1) (nI 8)).bind (fun x1 =>
  if x1.1 = 0 then
  (some ((-1 : Int32), x1.2))
else
  (if ((x1.2.1 140 4) + a3) ≤ (nI 200) then
  (M_feed_30 5000 x1.2 a1 a3 (nI 0))
else
  (some ((-2 : Int32), x1.2))))
set_option maxRecDepth 20000 in
theorem ok_M_feed {X : am_X} {a1 : Int64} {a3 : Int32} {v : Int32} {τ τ' : am_T} (hF : am_F X "ShareHouseModel" cX12_feed 5) (hR : am_R X 1 22) (hB : am_B X (some .int) (some (.int v)) (am_D τ')) (h : M_feed τ a1 a3 = some (v, τ')) : am_W X 5 (0, [(0, .ref 140), (1, .long a1), (3, .int a3)], [], am_D τ) := by
  unfold M_feed at h
  refine am_seg s_M_feed_0 (y := (4, [(0, .ref 140), (1, .long a1), (3, .int a3)], [.int (nI 8), .int (nI 1), .int a3], am_D τ)) hF t_s_M_feed_0 rfl rfl ?_
  refine am_bd h (fun x1 hx h => ?_)
  refine am_callS (As := [.int a3, .int (nI 1), .int (nI 8)]) (r := (some (.int x1.1))) (st := []) (σ' := am_D x1.2) hF hR d_X12_feed_4 (c_M_in (τ' := x1.2) hx) (Nat.le_refl _) (Nat.le_refl _) wl_M_51 ws_yX12_in wn_ShareHouseModel wc_yX12_in wy_yX12_in rfl ⟨by decide, by decide⟩ (Nat.le_of_ble_eq_true rfl) ?_
  refine am_ite h (fun hc h => ?_) (fun hc h => ?_)
  · refine am_if_ne_f (t := 12) d_X12_feed_7 (by decide) hc hF ?_
    refine am_seg s_M_feed_8 (y := (11, [(0, .ref 140), (1, .long a1), (3, .int a3)], [.int (-1 : Int32)], am_D x1.2)) hF t_s_M_feed_8 rfl rfl ?_
    obtain ⟨rfl, rfl⟩ := am_pair h
    exact am_iret d_X12_feed_11 hF hB
  · refine am_if_ne_t (t := 12) d_X12_feed_7 (by decide) hc hF ?_
    refine am_seg s_M_feed_1 (y := (21, [(0, .ref 140), (1, .long a1), (3, .int a3)], [.int (nI 200), .int ((x1.2.1 140 4) + a3)], am_D x1.2)) hF t_s_M_feed_1 rfl rfl ?_
    refine am_ite h (fun hc h => ?_) (fun hc h => ?_)
    · refine am_icmp_le_t (t := 27) d_X12_feed_21 (by decide) hc hF ?_
      refine am_seg s_M_feed_2 (y := (30, [(4, .int (nI 0)), (0, .ref 140), (1, .long a1), (3, .int a3)], [], am_D x1.2)) hF t_s_M_feed_2 rfl rfl ?_
      refine am_pick [1, 2, 3, 0] rfl ?_
      exact ok_M_feed_30 hF hR hB _ _ _ _ _ h
    · refine am_icmp_le_f (t := 27) d_X12_feed_21 (by decide) hc hF ?_
      refine am_seg s_M_feed_7 (y := (26, [(0, .ref 140), (1, .long a1), (3, .int a3)], [.int (-2 : Int32)], am_D x1.2)) hF t_s_M_feed_7 rfl rfl ?_
      obtain ⟨rfl, rfl⟩ := am_pair h
      exact am_iret d_X12_feed_26 hF hB
theorem c_M_feed {a1 : Int64} {a3 : Int32} {v : Int32} {τ τ' : am_T} (h : M_feed τ a1 a3 = some (v, τ')) : am_C yX12_feed cX12_feed 5 (some .int) 1 22 [.ref 140, .long a1, .int a3] (am_D τ) (some (.int v)) (am_D τ') :=
  am_enter (by decide +kernel) (Nat.le_of_ble_eq_true rfl) ⟨Nat.le_refl _, Nat.le_refl _⟩ (fun X hF hR hB => ok_M_feed hF hR hB h)
def s_M_isFlat_0 : List am_Q := [(0, .iload_n 1, 0, 0, 0, .null), (1, .iconst 0, 0, 0, 0, .int (nI 0)), (2, .aload_n 0, 0, 0, 0, .null), (3, .getfield 7, 12, 0, 152, .null), (6, .iconst 1, 0, 0, 0, .int (nI 1))]
theorem t_s_M_isFlat_0 : s_M_isFlat_0.all (am_ok 12 cX12_isFlat) = true := by decide +kernel
theorem d_X12_isFlat_7 : decode cX12_isFlat 7 = .ok (.iaload, 1) := by decide +kernel
def s_M_isFlat_1 : List am_Q := [(8, .iconst 1, 0, 0, 0, .int (nI 1)), (9, .isub, 0, 0, 0, .null)]
theorem t_s_M_isFlat_1 : s_M_isFlat_1.all (am_ok 12 cX12_isFlat) = true := by decide +kernel
theorem d_X12_isFlat_10 : decode cX12_isFlat 10 = .ok (.invokestatic 51, 3) := by decide +kernel
theorem d_X12_isFlat_13 : decode cX12_isFlat 13 = .ok (.ireturn, 1) := by decide +kernel
def M_isFlat (τ : am_T) (a1 : Int32) : Option (Int32 × am_T) :=
  (M_in τ a1 (nI 0) ((τ.1 141 1) - (nI 1))).bind (fun x1 =>
  am_g (am_z01 x1.1) (some (x1.1, x1.2)))
set_option maxRecDepth 20000 in
theorem ok_M_isFlat {X : am_X} {a1 : Int32} {v : Int32} {τ τ' : am_T} (hF : am_F X "ShareHouseModel" cX12_isFlat 2) (hR : am_R X 1 22) (hB : am_B X (some .boolean) (some (.int v)) (am_D τ')) (h : M_isFlat τ a1 = some (v, τ')) : am_W X 2 (0, [(0, .ref 140), (1, .int a1)], [], am_D τ) := by
  unfold M_isFlat at h
  refine am_seg s_M_isFlat_0 (y := (7, [(0, .ref 140), (1, .int a1)], [.int (nI 1), .ref 141, .int (nI 0), .int a1], am_D τ)) hF t_s_M_isFlat_0 rfl rfl ?_
  refine am_iald (n := 1060) (j := 1) d_X12_isFlat_7 (Nat.le_of_ble_eq_true rfl) (Nat.le_of_ble_eq_true rfl) rfl (by decide) rfl hF ?_
  refine am_seg s_M_isFlat_1 (y := (10, [(0, .ref 140), (1, .int a1)], [.int ((τ.1 141 1) - (nI 1)), .int (nI 0), .int a1], am_D τ)) hF t_s_M_isFlat_1 rfl rfl ?_
  refine am_bd h (fun x1 hx h => ?_)
  refine am_callS (As := [.int a1, .int (nI 0), .int ((τ.1 141 1) - (nI 1))]) (r := (some (.int x1.1))) (st := []) (σ' := am_D x1.2) hF hR d_X12_isFlat_10 (c_M_in (τ' := x1.2) hx) (Nat.le_refl _) (Nat.le_refl _) wl_M_51 ws_yX12_in wn_ShareHouseModel wc_yX12_in wy_yX12_in rfl ⟨by decide, by decide⟩ (Nat.le_of_ble_eq_true rfl) ?_
  refine am_gd h (fun hz h => ?_)
  obtain ⟨rfl, rfl⟩ := am_pair h
  exact am_zret d_X12_isFlat_13 (am_z01_n hz) hF hB
theorem c_M_isFlat {a1 : Int32} {v : Int32} {τ τ' : am_T} (h : M_isFlat τ a1 = some (v, τ')) : am_C yX12_isFlat cX12_isFlat 2 (some .boolean) 1 22 [.ref 140, .int a1] (am_D τ) (some (.int v)) (am_D τ') :=
  am_enter (by decide +kernel) (Nat.le_of_ble_eq_true rfl) ⟨Nat.le_refl _, Nat.le_refl _⟩ (fun X hF hR hB => ok_M_isFlat hF hR hB h)
def s_M_isLetter_0 : List am_Q := [(0, .iload_n 1, 0, 0, 0, .null), (1, .aload_n 0, 0, 0, 0, .null), (2, .getfield 55, 12, 4, 156, .null)]
theorem t_s_M_isLetter_0 : s_M_isLetter_0.all (am_ok 12 cX12_isLetter) = true := by decide +kernel
theorem d_X12_isLetter_5 : decode cX12_isLetter 5 = .ok (.if_icmp .ge 23, 3) := by decide +kernel
def s_M_isLetter_1 : List am_Q := [(28, .iconst 0, 0, 0, 0, .int (nI 0))]
theorem t_s_M_isLetter_1 : s_M_isLetter_1.all (am_ok 12 cX12_isLetter) = true := by decide +kernel
theorem d_X12_isLetter_29 : decode cX12_isLetter 29 = .ok (.ireturn, 1) := by decide +kernel
def s_M_isLetter_2 : List am_Q := [(8, .aload_n 0, 0, 0, 0, .null), (9, .getfield 16, 12, 3, 155, .null), (12, .iload_n 1, 0, 0, 0, .null)]
theorem t_s_M_isLetter_2 : s_M_isLetter_2.all (am_ok 12 cX12_isLetter) = true := by decide +kernel
theorem d_X12_isLetter_13 : decode cX12_isLetter 13 = .ok (.iaload, 1) := by decide +kernel
def s_M_isLetter_3 : List am_Q := [(14, .bipush 97, 0, 0, 0, .int (nI 97)), (16, .bipush 122, 0, 0, 0, .int (nI 122))]
theorem t_s_M_isLetter_3 : s_M_isLetter_3.all (am_ok 12 cX12_isLetter) = true := by decide +kernel
theorem d_X12_isLetter_18 : decode cX12_isLetter 18 = .ok (.invokestatic 51, 3) := by decide +kernel
theorem d_X12_isLetter_21 : decode cX12_isLetter 21 = .ok (.ifCond .eq 7, 3) := by decide +kernel
def s_M_isLetter_4 : List am_Q := [(28, .iconst 0, 0, 0, 0, .int (nI 0))]
theorem t_s_M_isLetter_4 : s_M_isLetter_4.all (am_ok 12 cX12_isLetter) = true := by decide +kernel
def s_M_isLetter_5 : List am_Q := [(24, .iconst 1, 0, 0, 0, .int (nI 1)), (25, .goto 4, 29, 0, 0, .null)]
theorem t_s_M_isLetter_5 : s_M_isLetter_5.all (am_ok 12 cX12_isLetter) = true := by decide +kernel
def M_isLetter (τ : am_T) (a1 : Int32) : Option (Int32 × am_T) :=
  if (τ.1 140 4) ≤ a1 then
  (some ((nI 0), τ))
else
  (am_g (am_in a1 200) ((M_in τ (τ.1 143 (a1.toNatClampNeg)) (nI 97) (nI 122)).bind (fun x1 =>
  if x1.1 = 0 then
  (some ((nI 0), x1.2))
else
  (some ((nI 1), x1.2)))))
set_option maxRecDepth 20000 in
theorem ok_M_isLetter {X : am_X} {a1 : Int32} {v : Int32} {τ τ' : am_T} (hF : am_F X "ShareHouseModel" cX12_isLetter 2) (hR : am_R X 1 22) (hB : am_B X (some .boolean) (some (.int v)) (am_D τ')) (h : M_isLetter τ a1 = some (v, τ')) : am_W X 2 (0, [(0, .ref 140), (1, .int a1)], [], am_D τ) := by
  unfold M_isLetter at h
  refine am_seg s_M_isLetter_0 (y := (5, [(0, .ref 140), (1, .int a1)], [.int (τ.1 140 4), .int a1], am_D τ)) hF t_s_M_isLetter_0 rfl rfl ?_
  refine am_ite h (fun hc h => ?_) (fun hc h => ?_)
  · refine am_icmp_ge_t (t := 28) d_X12_isLetter_5 (by decide) hc hF ?_
    refine am_seg s_M_isLetter_1 (y := (29, [(0, .ref 140), (1, .int a1)], [.int (nI 0)], am_D τ)) hF t_s_M_isLetter_1 rfl rfl ?_
    obtain ⟨rfl, rfl⟩ := am_pair h
    exact am_zret d_X12_isLetter_29 rfl hF hB
  · refine am_icmp_ge_f (t := 28) d_X12_isLetter_5 (by decide) hc hF ?_
    refine am_seg s_M_isLetter_2 (y := (13, [(0, .ref 140), (1, .int a1)], [.int a1, .ref 143], am_D τ)) hF t_s_M_isLetter_2 rfl rfl ?_
    refine am_gd h (fun hi h => ?_)
    refine am_iald (n := 200) (j := (a1.toNatClampNeg)) d_X12_isLetter_13 (Nat.le_of_ble_eq_true rfl) (Nat.le_of_ble_eq_true rfl) rfl hi rfl hF ?_
    refine am_seg s_M_isLetter_3 (y := (18, [(0, .ref 140), (1, .int a1)], [.int (nI 122), .int (nI 97), .int (τ.1 143 (a1.toNatClampNeg))], am_D τ)) hF t_s_M_isLetter_3 rfl rfl ?_
    refine am_bd h (fun x1 hx h => ?_)
    refine am_callS (As := [.int (τ.1 143 (a1.toNatClampNeg)), .int (nI 97), .int (nI 122)]) (r := (some (.int x1.1))) (st := []) (σ' := am_D x1.2) hF hR d_X12_isLetter_18 (c_M_in (τ' := x1.2) hx) (Nat.le_refl _) (Nat.le_refl _) wl_M_51 ws_yX12_in wn_ShareHouseModel wc_yX12_in wy_yX12_in rfl ⟨by decide, by decide⟩ (Nat.le_of_ble_eq_true rfl) ?_
    refine am_ite h (fun hc h => ?_) (fun hc h => ?_)
    · refine am_if_eq_t (t := 28) d_X12_isLetter_21 (by decide) hc hF ?_
      refine am_seg s_M_isLetter_4 (y := (29, [(0, .ref 140), (1, .int a1)], [.int (nI 0)], am_D x1.2)) hF t_s_M_isLetter_4 rfl rfl ?_
      obtain ⟨rfl, rfl⟩ := am_pair h
      exact am_zret d_X12_isLetter_29 rfl hF hB
    · refine am_if_eq_f (t := 28) d_X12_isLetter_21 (by decide) hc hF ?_
      refine am_seg s_M_isLetter_5 (y := (29, [(0, .ref 140), (1, .int a1)], [.int (nI 1)], am_D x1.2)) hF t_s_M_isLetter_5 rfl rfl ?_
      obtain ⟨rfl, rfl⟩ := am_pair h
      exact am_zret d_X12_isLetter_29 rfl hF hB
theorem c_M_isLetter {a1 : Int32} {v : Int32} {τ τ' : am_T} (h : M_isLetter τ a1 = some (v, τ')) : am_C yX12_isLetter cX12_isLetter 2 (some .boolean) 1 22 [.ref 140, .int a1] (am_D τ) (some (.int v)) (am_D τ') :=
  am_enter (by decide +kernel) (Nat.le_of_ble_eq_true rfl) ⟨Nat.le_refl _, Nat.le_refl _⟩ (fun X hF hR hB => ok_M_isLetter hF hR hB h)
def s_M_isDigit_0 : List am_Q := [(0, .iload_n 1, 0, 0, 0, .null), (1, .aload_n 0, 0, 0, 0, .null), (2, .getfield 55, 12, 4, 156, .null)]
theorem t_s_M_isDigit_0 : s_M_isDigit_0.all (am_ok 12 cX12_isDigit) = true := by decide +kernel
theorem d_X12_isDigit_5 : decode cX12_isDigit 5 = .ok (.if_icmp .ge 23, 3) := by decide +kernel
def s_M_isDigit_1 : List am_Q := [(28, .iconst 0, 0, 0, 0, .int (nI 0))]
theorem t_s_M_isDigit_1 : s_M_isDigit_1.all (am_ok 12 cX12_isDigit) = true := by decide +kernel
theorem d_X12_isDigit_29 : decode cX12_isDigit 29 = .ok (.ireturn, 1) := by decide +kernel
def s_M_isDigit_2 : List am_Q := [(8, .aload_n 0, 0, 0, 0, .null), (9, .getfield 16, 12, 3, 155, .null), (12, .iload_n 1, 0, 0, 0, .null)]
theorem t_s_M_isDigit_2 : s_M_isDigit_2.all (am_ok 12 cX12_isDigit) = true := by decide +kernel
theorem d_X12_isDigit_13 : decode cX12_isDigit 13 = .ok (.iaload, 1) := by decide +kernel
def s_M_isDigit_3 : List am_Q := [(14, .bipush 48, 0, 0, 0, .int (nI 48)), (16, .bipush 57, 0, 0, 0, .int (nI 57))]
theorem t_s_M_isDigit_3 : s_M_isDigit_3.all (am_ok 12 cX12_isDigit) = true := by decide +kernel
theorem d_X12_isDigit_18 : decode cX12_isDigit 18 = .ok (.invokestatic 51, 3) := by decide +kernel
theorem d_X12_isDigit_21 : decode cX12_isDigit 21 = .ok (.ifCond .eq 7, 3) := by decide +kernel
def s_M_isDigit_4 : List am_Q := [(28, .iconst 0, 0, 0, 0, .int (nI 0))]
theorem t_s_M_isDigit_4 : s_M_isDigit_4.all (am_ok 12 cX12_isDigit) = true := by decide +kernel
def s_M_isDigit_5 : List am_Q := [(24, .iconst 1, 0, 0, 0, .int (nI 1)), (25, .goto 4, 29, 0, 0, .null)]
theorem t_s_M_isDigit_5 : s_M_isDigit_5.all (am_ok 12 cX12_isDigit) = true := by decide +kernel
def M_isDigit (τ : am_T) (a1 : Int32) : Option (Int32 × am_T) :=
  if (τ.1 140 4) ≤ a1 then
  (some ((nI 0), τ))
else
  (am_g (am_in a1 200) ((M_in τ (τ.1 143 (a1.toNatClampNeg)) (nI 48) (nI 57)).bind (fun x1 =>
  if x1.1 = 0 then
  (some ((nI 0), x1.2))
else
  (some ((nI 1), x1.2)))))
set_option maxRecDepth 20000 in
theorem ok_M_isDigit {X : am_X} {a1 : Int32} {v : Int32} {τ τ' : am_T} (hF : am_F X "ShareHouseModel" cX12_isDigit 2) (hR : am_R X 1 22) (hB : am_B X (some .boolean) (some (.int v)) (am_D τ')) (h : M_isDigit τ a1 = some (v, τ')) : am_W X 2 (0, [(0, .ref 140), (1, .int a1)], [], am_D τ) := by
  unfold M_isDigit at h
  refine am_seg s_M_isDigit_0 (y := (5, [(0, .ref 140), (1, .int a1)], [.int (τ.1 140 4), .int a1], am_D τ)) hF t_s_M_isDigit_0 rfl rfl ?_
  refine am_ite h (fun hc h => ?_) (fun hc h => ?_)
  · refine am_icmp_ge_t (t := 28) d_X12_isDigit_5 (by decide) hc hF ?_
    refine am_seg s_M_isDigit_1 (y := (29, [(0, .ref 140), (1, .int a1)], [.int (nI 0)], am_D τ)) hF t_s_M_isDigit_1 rfl rfl ?_
    obtain ⟨rfl, rfl⟩ := am_pair h
    exact am_zret d_X12_isDigit_29 rfl hF hB
  · refine am_icmp_ge_f (t := 28) d_X12_isDigit_5 (by decide) hc hF ?_
    refine am_seg s_M_isDigit_2 (y := (13, [(0, .ref 140), (1, .int a1)], [.int a1, .ref 143], am_D τ)) hF t_s_M_isDigit_2 rfl rfl ?_
    refine am_gd h (fun hi h => ?_)
    refine am_iald (n := 200) (j := (a1.toNatClampNeg)) d_X12_isDigit_13 (Nat.le_of_ble_eq_true rfl) (Nat.le_of_ble_eq_true rfl) rfl hi rfl hF ?_
    refine am_seg s_M_isDigit_3 (y := (18, [(0, .ref 140), (1, .int a1)], [.int (nI 57), .int (nI 48), .int (τ.1 143 (a1.toNatClampNeg))], am_D τ)) hF t_s_M_isDigit_3 rfl rfl ?_
    refine am_bd h (fun x1 hx h => ?_)
    refine am_callS (As := [.int (τ.1 143 (a1.toNatClampNeg)), .int (nI 48), .int (nI 57)]) (r := (some (.int x1.1))) (st := []) (σ' := am_D x1.2) hF hR d_X12_isDigit_18 (c_M_in (τ' := x1.2) hx) (Nat.le_refl _) (Nat.le_refl _) wl_M_51 ws_yX12_in wn_ShareHouseModel wc_yX12_in wy_yX12_in rfl ⟨by decide, by decide⟩ (Nat.le_of_ble_eq_true rfl) ?_
    refine am_ite h (fun hc h => ?_) (fun hc h => ?_)
    · refine am_if_eq_t (t := 28) d_X12_isDigit_21 (by decide) hc hF ?_
      refine am_seg s_M_isDigit_4 (y := (29, [(0, .ref 140), (1, .int a1)], [.int (nI 0)], am_D x1.2)) hF t_s_M_isDigit_4 rfl rfl ?_
      obtain ⟨rfl, rfl⟩ := am_pair h
      exact am_zret d_X12_isDigit_29 rfl hF hB
    · refine am_if_eq_f (t := 28) d_X12_isDigit_21 (by decide) hc hF ?_
      refine am_seg s_M_isDigit_5 (y := (29, [(0, .ref 140), (1, .int a1)], [.int (nI 1)], am_D x1.2)) hF t_s_M_isDigit_5 rfl rfl ?_
      obtain ⟨rfl, rfl⟩ := am_pair h
      exact am_zret d_X12_isDigit_29 rfl hF hB
theorem c_M_isDigit {a1 : Int32} {v : Int32} {τ τ' : am_T} (h : M_isDigit τ a1 = some (v, τ')) : am_C yX12_isDigit cX12_isDigit 2 (some .boolean) 1 22 [.ref 140, .int a1] (am_D τ) (some (.int v)) (am_D τ') :=
  am_enter (by decide +kernel) (Nat.le_of_ble_eq_true rfl) ⟨Nat.le_refl _, Nat.le_refl _⟩ (fun X hF hR hB => ok_M_isDigit hF hR hB h)
def s_M_next_0 : List am_Q := [(0, .aload_n 0, 0, 0, 0, .null), (1, .aload_n 0, 0, 0, 0, .null), (2, .getfield 60, 12, 6, 158, .null), (5, .putfield 63, 12, 5, 157, .null)]
theorem t_s_M_next_0 : s_M_next_0.all (am_ok 12 cX12_next) = true := by decide +kernel
def s_M_next_1 : List am_Q := [(8, .aload_n 0, 0, 0, 0, .null), (9, .getfield 63, 12, 5, 157, .null), (12, .aload_n 0, 0, 0, 0, .null), (13, .getfield 55, 12, 4, 156, .null)]
theorem t_s_M_next_1 : s_M_next_1.all (am_ok 12 cX12_next) = true := by decide +kernel
theorem d_X12_next_16 : decode cX12_next 16 = .ok (.if_icmp .ge 30, 3) := by decide +kernel
def s_M_next_2 : List am_Q := [(46, .aload_n 0, 0, 0, 0, .null), (47, .aload_n 0, 0, 0, 0, .null), (48, .getfield 63, 12, 5, 157, .null), (51, .aload_n 0, 0, 0, 0, .null), (52, .getfield 55, 12, 4, 156, .null)]
theorem t_s_M_next_2 : s_M_next_2.all (am_ok 12 cX12_next) = true := by decide +kernel
theorem d_X12_next_55 : decode cX12_next 55 = .ok (.if_icmp .ge 12, 3) := by decide +kernel
def s_M_next_3 : List am_Q := [(67, .aload_n 0, 0, 0, 0, .null), (68, .getfield 63, 12, 5, 157, .null)]
theorem t_s_M_next_3 : s_M_next_3.all (am_ok 12 cX12_next) = true := by decide +kernel
def s_M_next_4 : List am_Q := [(71, .putfield 60, 12, 6, 158, .null), (74, .aload_n 0, 0, 0, 0, .null), (75, .aload_n 0, 0, 0, 0, .null), (76, .getfield 63, 12, 5, 157, .null)]
theorem t_s_M_next_4 : s_M_next_4.all (am_ok 12 cX12_next) = true := by decide +kernel
theorem d_X12_next_79 : decode cX12_next 79 = .ok (.invokevirtual 66, 3) := by decide +kernel
def s_M_next_5 : List am_Q := [(82, .istore_n 1, 0, 0, 0, .null), (83, .aload_n 0, 0, 0, 0, .null), (84, .aload_n 0, 0, 0, 0, .null), (85, .getfield 63, 12, 5, 157, .null)]
theorem t_s_M_next_5 : s_M_next_5.all (am_ok 12 cX12_next) = true := by decide +kernel
theorem d_X12_next_88 : decode cX12_next 88 = .ok (.invokevirtual 70, 3) := by decide +kernel
def s_M_next_6 : List am_Q := [(91, .istore_n 2, 0, 0, 0, .null)]
theorem t_s_M_next_6 : s_M_next_6.all (am_ok 12 cX12_next) = true := by decide +kernel
def s_M_next_7 : List am_Q := [(92, .iload_n 1, 0, 0, 0, .null)]
theorem t_s_M_next_7 : s_M_next_7.all (am_ok 12 cX12_next) = true := by decide +kernel
theorem d_X12_next_93 : decode cX12_next 93 = .ok (.ifCond .eq 14, 3) := by decide +kernel
def s_M_next_8 : List am_Q := [(107, .iload_n 2, 0, 0, 0, .null)]
theorem t_s_M_next_8 : s_M_next_8.all (am_ok 12 cX12_next) = true := by decide +kernel
theorem d_X12_next_108 : decode cX12_next 108 = .ok (.ifCond .eq 27, 3) := by decide +kernel
theorem d_X12_next_135 : decode cX12_next 135 = .ok (.return_, 1) := by decide +kernel
def s_M_next_9 : List am_Q := [(111, .aload_n 0, 0, 0, 0, .null), (112, .aload_n 0, 0, 0, 0, .null), (113, .getfield 60, 12, 6, 158, .null)]
theorem t_s_M_next_9 : s_M_next_9.all (am_ok 12 cX12_next) = true := by decide +kernel
theorem d_X12_next_116 : decode cX12_next 116 = .ok (.invokevirtual 70, 3) := by decide +kernel
theorem d_X12_next_119 : decode cX12_next 119 = .ok (.ifCond .eq 16, 3) := by decide +kernel
def s_M_next_10 : List am_Q := [(122, .aload_n 0, 0, 0, 0, .null), (123, .dup, 0, 0, 0, .null), (124, .getfield 60, 12, 6, 158, .null), (127, .iconst 1, 0, 0, 0, .int (nI 1)), (128, .iadd, 0, 0, 0, .null), (129, .putfield 60, 12, 6, 158, .null), (132, .goto (-40), 92, 0, 0, .null)]
theorem t_s_M_next_10 : s_M_next_10.all (am_ok 12 cX12_next) = true := by decide +kernel
def s_M_next_11 : List am_Q := [(96, .aload_n 0, 0, 0, 0, .null), (97, .aload_n 0, 0, 0, 0, .null), (98, .getfield 60, 12, 6, 158, .null)]
theorem t_s_M_next_11 : s_M_next_11.all (am_ok 12 cX12_next) = true := by decide +kernel
theorem d_X12_next_101 : decode cX12_next 101 = .ok (.invokevirtual 66, 3) := by decide +kernel
theorem d_X12_next_104 : decode cX12_next 104 = .ok (.ifCond .ne 18, 3) := by decide +kernel
def s_M_next_12 : List am_Q := [(58, .aload_n 0, 0, 0, 0, .null), (59, .getfield 63, 12, 5, 157, .null), (62, .iconst 1, 0, 0, 0, .int (nI 1)), (63, .iadd, 0, 0, 0, .null), (64, .goto 7, 71, 0, 0, .null)]
theorem t_s_M_next_12 : s_M_next_12.all (am_ok 12 cX12_next) = true := by decide +kernel
def s_M_next_13 : List am_Q := [(19, .aload_n 0, 0, 0, 0, .null), (20, .getfield 16, 12, 3, 155, .null), (23, .aload_n 0, 0, 0, 0, .null), (24, .getfield 63, 12, 5, 157, .null)]
theorem t_s_M_next_13 : s_M_next_13.all (am_ok 12 cX12_next) = true := by decide +kernel
theorem d_X12_next_27 : decode cX12_next 27 = .ok (.iaload, 1) := by decide +kernel
def s_M_next_14 : List am_Q := [(28, .bipush 32, 0, 0, 0, .int (nI 32))]
theorem t_s_M_next_14 : s_M_next_14.all (am_ok 12 cX12_next) = true := by decide +kernel
theorem d_X12_next_30 : decode cX12_next 30 = .ok (.if_icmp .ne 16, 3) := by decide +kernel
def s_M_next_15 : List am_Q := [(33, .aload_n 0, 0, 0, 0, .null), (34, .dup, 0, 0, 0, .null), (35, .getfield 63, 12, 5, 157, .null), (38, .iconst 1, 0, 0, 0, .int (nI 1)), (39, .iadd, 0, 0, 0, .null), (40, .putfield 63, 12, 5, 157, .null), (43, .goto (-35), 8, 0, 0, .null)]
theorem t_s_M_next_15 : s_M_next_15.all (am_ok 12 cX12_next) = true := by decide +kernel
def M_next_122 (k92 : am_T → Int32 → Int32 → Option (am_T)) (τ : am_T) (a1 : Int32) (a2 : Int32) : Option (am_T) :=
  k92 (am_si τ 140 6 ((τ.1 140 6) + (nI 1))) a1 a2
set_option maxRecDepth 20000 in
theorem ok_M_next_122 {X : am_X} {τ' : am_T} (hF : am_F X "ShareHouseModel" cX12_next 3) (hR : am_R X 2 43) (hB : am_B X none none (am_D τ')) {k92 : am_T → Int32 → Int32 → Option (am_T)} (hk92 : ∀ (τ : am_T) (a1 : Int32) (a2 : Int32), k92 τ a1 a2 = some τ' → am_W X 3 (92, [(0, .ref 140), (1, .int a1), (2, .int a2)], [], am_D τ)) {τ : am_T} {a1 : Int32} {a2 : Int32} (h : M_next_122 k92 τ a1 a2 = some τ') : am_W X 3 (122, [(0, .ref 140), (1, .int a1), (2, .int a2)], [], am_D τ) := by
  unfold M_next_122 at h
  refine am_seg s_M_next_10 (y := (92, [(0, .ref 140), (1, .int a1), (2, .int a2)], [], am_D (am_si τ 140 6 ((τ.1 140 6) + (nI 1))))) hF t_s_M_next_10 rfl rfl ?_
  exact hk92 _ _ _ h
def M_next_107 (k92 : am_T → Int32 → Int32 → Option (am_T)) (τ : am_T) (a1 : Int32) (a2 : Int32) : Option (am_T) :=
  if a2 = 0 then
  (some τ)
else
  ((M_isDigit τ (τ.1 140 6)).bind (fun x3 =>
  if x3.1 = 0 then
  (some x3.2)
else
  (M_next_122 k92 x3.2 a1 a2)))
set_option maxRecDepth 20000 in
theorem ok_M_next_107 {X : am_X} {τ' : am_T} (hF : am_F X "ShareHouseModel" cX12_next 3) (hR : am_R X 2 43) (hB : am_B X none none (am_D τ')) {k92 : am_T → Int32 → Int32 → Option (am_T)} (hk92 : ∀ (τ : am_T) (a1 : Int32) (a2 : Int32), k92 τ a1 a2 = some τ' → am_W X 3 (92, [(0, .ref 140), (1, .int a1), (2, .int a2)], [], am_D τ)) {τ : am_T} {a1 : Int32} {a2 : Int32} (h : M_next_107 k92 τ a1 a2 = some τ') : am_W X 3 (107, [(0, .ref 140), (1, .int a1), (2, .int a2)], [], am_D τ) := by
  unfold M_next_107 at h
  refine am_seg s_M_next_8 (y := (108, [(0, .ref 140), (1, .int a1), (2, .int a2)], [.int a2], am_D τ)) hF t_s_M_next_8 rfl rfl ?_
  refine am_ite h (fun hc h => ?_) (fun hc h => ?_)
  · refine am_if_eq_t (t := 135) d_X12_next_108 (by decide) hc hF ?_
    obtain rfl := am_one h
    exact am_vret d_X12_next_135 hF hB
  · refine am_if_eq_f (t := 135) d_X12_next_108 (by decide) hc hF ?_
    refine am_seg s_M_next_9 (y := (116, [(0, .ref 140), (1, .int a1), (2, .int a2)], [.int (τ.1 140 6), .ref 140], am_D τ)) hF t_s_M_next_9 rfl rfl ?_
    refine am_bd h (fun x3 hx h => ?_)
    refine am_callV (As := [.int (τ.1 140 6)]) (r := (some (.int x3.1))) (st := []) (σ' := am_D x3.2) (ci := 12) hF hR d_X12_next_116 (c_M_isDigit (τ' := x3.2) hx) (Nat.le_refl _) (Nat.le_refl _) wl_M_70 wi_yX12_isDigit we_yX12_isDigit wn_ShareHouseModel wc_yX12_isDigit (Nat.le_of_ble_eq_true rfl) (Nat.le_of_ble_eq_true rfl) rfl rfl wy_yX12_isDigit rfl ⟨by decide, by decide⟩ (Nat.le_of_ble_eq_true rfl) ?_
    refine am_ite h (fun hc h => ?_) (fun hc h => ?_)
    · refine am_if_eq_t (t := 135) d_X12_next_119 (by decide) hc hF ?_
      obtain rfl := am_one h
      exact am_vret d_X12_next_135 hF hB
    · refine am_if_eq_f (t := 135) d_X12_next_119 (by decide) hc hF ?_
      exact ok_M_next_122 hF hR hB hk92 h
def M_next_92 : Nat → am_T → Int32 → Int32 → Option (am_T)
  | 0, _, _, _ => none
  | n + 1, τ, a1, a2 =>
    if a1 = 0 then
  (M_next_107 (M_next_92 n) τ a1 a2)
else
  ((M_isLetter τ (τ.1 140 6)).bind (fun x4 =>
  if x4.1 = 0 then
  (M_next_107 (M_next_92 n) x4.2 a1 a2)
else
  (M_next_122 (M_next_92 n) x4.2 a1 a2)))
set_option maxRecDepth 20000 in
theorem ok_M_next_92 {X : am_X} {τ' : am_T} (hF : am_F X "ShareHouseModel" cX12_next 3) (hR : am_R X 2 43) (hB : am_B X none none (am_D τ')) : ∀ (n : Nat) (τ : am_T) (a1 : Int32) (a2 : Int32), M_next_92 n τ a1 a2 = some τ' → am_W X 3 (92, [(0, .ref 140), (1, .int a1), (2, .int a2)], [], am_D τ) := by
  intro n
  induction n with
  | zero => intro τ a1 a2 h; unfold M_next_92 at h; cases h
  | succ n ih =>
    intro τ a1 a2 h
    unfold M_next_92 at h
    refine am_seg s_M_next_7 (y := (93, [(0, .ref 140), (1, .int a1), (2, .int a2)], [.int a1], am_D τ)) hF t_s_M_next_7 rfl rfl ?_
    refine am_ite h (fun hc h => ?_) (fun hc h => ?_)
    · refine am_if_eq_t (t := 107) d_X12_next_93 (by decide) hc hF ?_
      exact ok_M_next_107 hF hR hB ih h
    · refine am_if_eq_f (t := 107) d_X12_next_93 (by decide) hc hF ?_
      refine am_seg s_M_next_11 (y := (101, [(0, .ref 140), (1, .int a1), (2, .int a2)], [.int (τ.1 140 6), .ref 140], am_D τ)) hF t_s_M_next_11 rfl rfl ?_
      refine am_bd h (fun x4 hx h => ?_)
      refine am_callV (As := [.int (τ.1 140 6)]) (r := (some (.int x4.1))) (st := []) (σ' := am_D x4.2) (ci := 12) hF hR d_X12_next_101 (c_M_isLetter (τ' := x4.2) hx) (Nat.le_refl _) (Nat.le_refl _) wl_M_66 wi_yX12_isLetter we_yX12_isLetter wn_ShareHouseModel wc_yX12_isLetter (Nat.le_of_ble_eq_true rfl) (Nat.le_of_ble_eq_true rfl) rfl rfl wy_yX12_isLetter rfl ⟨by decide, by decide⟩ (Nat.le_of_ble_eq_true rfl) ?_
      refine am_ite h (fun hc h => ?_) (fun hc h => ?_)
      · refine am_if_ne_f (t := 122) d_X12_next_104 (by decide) hc hF ?_
        exact ok_M_next_107 hF hR hB ih h
      · refine am_if_ne_t (t := 122) d_X12_next_104 (by decide) hc hF ?_
        exact ok_M_next_122 hF hR hB ih h
def M_next_71 (τ : am_T) (s0 : Int32) : Option (am_T) :=
  (M_isLetter (am_si τ 140 6 s0) ((am_si τ 140 6 s0).1 140 5)).bind (fun x1 =>
  (M_isDigit x1.2 (x1.2.1 140 5)).bind (fun x2 =>
  M_next_92 5000 x2.2 x1.1 x2.1))
set_option maxRecDepth 20000 in
theorem ok_M_next_71 {X : am_X} {τ' : am_T} (hF : am_F X "ShareHouseModel" cX12_next 3) (hR : am_R X 2 43) (hB : am_B X none none (am_D τ')) {τ : am_T} {s0 : Int32} (h : M_next_71 τ s0 = some τ') : am_W X 3 (71, [(0, .ref 140)], [.int s0, .ref 140], am_D τ) := by
  unfold M_next_71 at h
  refine am_seg s_M_next_4 (y := (79, [(0, .ref 140)], [.int ((am_si τ 140 6 s0).1 140 5), .ref 140], am_D (am_si τ 140 6 s0))) hF t_s_M_next_4 rfl rfl ?_
  refine am_bd h (fun x1 hx h => ?_)
  refine am_callV (As := [.int ((am_si τ 140 6 s0).1 140 5)]) (r := (some (.int x1.1))) (st := []) (σ' := am_D x1.2) (ci := 12) hF hR d_X12_next_79 (c_M_isLetter (τ' := x1.2) hx) (Nat.le_refl _) (Nat.le_refl _) wl_M_66 wi_yX12_isLetter we_yX12_isLetter wn_ShareHouseModel wc_yX12_isLetter (Nat.le_of_ble_eq_true rfl) (Nat.le_of_ble_eq_true rfl) rfl rfl wy_yX12_isLetter rfl ⟨by decide, by decide⟩ (Nat.le_of_ble_eq_true rfl) ?_
  refine am_seg s_M_next_5 (y := (88, [(1, .int x1.1), (0, .ref 140)], [.int (x1.2.1 140 5), .ref 140], am_D x1.2)) hF t_s_M_next_5 rfl rfl ?_
  refine am_bd h (fun x2 hx h => ?_)
  refine am_callV (As := [.int (x1.2.1 140 5)]) (r := (some (.int x2.1))) (st := []) (σ' := am_D x2.2) (ci := 12) hF hR d_X12_next_88 (c_M_isDigit (τ' := x2.2) hx) (Nat.le_refl _) (Nat.le_refl _) wl_M_70 wi_yX12_isDigit we_yX12_isDigit wn_ShareHouseModel wc_yX12_isDigit (Nat.le_of_ble_eq_true rfl) (Nat.le_of_ble_eq_true rfl) rfl rfl wy_yX12_isDigit rfl ⟨by decide, by decide⟩ (Nat.le_of_ble_eq_true rfl) ?_
  refine am_seg s_M_next_6 (y := (92, [(2, .int x2.1), (1, .int x1.1), (0, .ref 140)], [], am_D x2.2)) hF t_s_M_next_6 rfl rfl ?_
  refine am_pick [2, 1, 0] rfl ?_
  exact ok_M_next_92 hF hR hB _ _ _ _ h
def M_next_46 (τ : am_T) : Option (am_T) :=
  if (τ.1 140 4) ≤ (τ.1 140 5) then
  (M_next_71 τ (τ.1 140 5))
else
  (M_next_71 τ ((τ.1 140 5) + (nI 1)))
set_option maxRecDepth 20000 in
theorem ok_M_next_46 {X : am_X} {τ' : am_T} (hF : am_F X "ShareHouseModel" cX12_next 3) (hR : am_R X 2 43) (hB : am_B X none none (am_D τ')) {τ : am_T} (h : M_next_46 τ = some τ') : am_W X 3 (46, [(0, .ref 140)], [], am_D τ) := by
  unfold M_next_46 at h
  refine am_seg s_M_next_2 (y := (55, [(0, .ref 140)], [.int (τ.1 140 4), .int (τ.1 140 5), .ref 140], am_D τ)) hF t_s_M_next_2 rfl rfl ?_
  refine am_ite h (fun hc h => ?_) (fun hc h => ?_)
  · refine am_icmp_ge_t (t := 67) d_X12_next_55 (by decide) hc hF ?_
    refine am_seg s_M_next_3 (y := (71, [(0, .ref 140)], [.int (τ.1 140 5), .ref 140], am_D τ)) hF t_s_M_next_3 rfl rfl ?_
    exact ok_M_next_71 hF hR hB h
  · refine am_icmp_ge_f (t := 67) d_X12_next_55 (by decide) hc hF ?_
    refine am_seg s_M_next_12 (y := (71, [(0, .ref 140)], [.int ((τ.1 140 5) + (nI 1)), .ref 140], am_D τ)) hF t_s_M_next_12 rfl rfl ?_
    exact ok_M_next_71 hF hR hB h
def M_next_8 : Nat → am_T → Option (am_T)
  | 0, _ => none
  | n + 1, τ =>
    if (τ.1 140 4) ≤ (τ.1 140 5) then
  (M_next_46 τ)
else
  (am_g (am_in (τ.1 140 5) 200) (if (τ.1 143 ((τ.1 140 5).toNatClampNeg)) = (nI 32) then
  ((M_next_8 n) (am_si τ 140 5 ((τ.1 140 5) + (nI 1))))
else
  (M_next_46 τ)))
set_option maxRecDepth 20000 in
theorem ok_M_next_8 {X : am_X} {τ' : am_T} (hF : am_F X "ShareHouseModel" cX12_next 3) (hR : am_R X 2 43) (hB : am_B X none none (am_D τ')) : ∀ (n : Nat) (τ : am_T), M_next_8 n τ = some τ' → am_W X 3 (8, [(0, .ref 140)], [], am_D τ) := by
  intro n
  induction n with
  | zero => intro τ h; unfold M_next_8 at h; cases h
  | succ n ih =>
    intro τ h
    unfold M_next_8 at h
    refine am_seg s_M_next_1 (y := (16, [(0, .ref 140)], [.int (τ.1 140 4), .int (τ.1 140 5)], am_D τ)) hF t_s_M_next_1 rfl rfl ?_
    refine am_ite h (fun hc h => ?_) (fun hc h => ?_)
    · refine am_icmp_ge_t (t := 46) d_X12_next_16 (by decide) hc hF ?_
      exact ok_M_next_46 hF hR hB h
    · refine am_icmp_ge_f (t := 46) d_X12_next_16 (by decide) hc hF ?_
      refine am_seg s_M_next_13 (y := (27, [(0, .ref 140)], [.int (τ.1 140 5), .ref 143], am_D τ)) hF t_s_M_next_13 rfl rfl ?_
      refine am_gd h (fun hi h => ?_)
      refine am_iald (n := 200) (j := ((τ.1 140 5).toNatClampNeg)) d_X12_next_27 (Nat.le_of_ble_eq_true rfl) (Nat.le_of_ble_eq_true rfl) rfl hi rfl hF ?_
      refine am_seg s_M_next_14 (y := (30, [(0, .ref 140)], [.int (nI 32), .int (τ.1 143 ((τ.1 140 5).toNatClampNeg))], am_D τ)) hF t_s_M_next_14 rfl rfl ?_
      refine am_ite h (fun hc h => ?_) (fun hc h => ?_)
      · refine am_icmp_ne_f (t := 46) d_X12_next_30 (by decide) hc hF ?_
        refine am_seg s_M_next_15 (y := (8, [(0, .ref 140)], [], am_D (am_si τ 140 5 ((τ.1 140 5) + (nI 1))))) hF t_s_M_next_15 rfl rfl ?_
        exact ih _ h
      · refine am_icmp_ne_t (t := 46) d_X12_next_30 (by decide) hc hF ?_
        exact ok_M_next_46 hF hR hB h
def M_next (τ : am_T) : Option (am_T) :=
  M_next_8 5000 (am_si τ 140 5 (τ.1 140 6))
set_option maxRecDepth 20000 in
theorem ok_M_next {X : am_X} {τ τ' : am_T} (hF : am_F X "ShareHouseModel" cX12_next 3) (hR : am_R X 2 43) (hB : am_B X none none (am_D τ')) (h : M_next τ = some τ') : am_W X 3 (0, [(0, .ref 140)], [], am_D τ) := by
  unfold M_next at h
  refine am_seg s_M_next_0 (y := (8, [(0, .ref 140)], [], am_D (am_si τ 140 5 (τ.1 140 6)))) hF t_s_M_next_0 rfl rfl ?_
  exact ok_M_next_8 hF hR hB _ _ h
theorem c_M_next {τ τ' : am_T} (h : M_next τ = some τ') : am_C yX12_next cX12_next 3 none 2 43 [.ref 140] (am_D τ) none (am_D τ') :=
  am_enter (by decide +kernel) (Nat.le_of_ble_eq_true rfl) ⟨Nat.le_refl _, Nat.le_refl _⟩ (fun X hF hR hB => ok_M_next hF hR hB h)
def s_M_isName_0 : List am_Q := [(0, .aload_n 0, 0, 0, 0, .null), (1, .getfield 60, 12, 6, 158, .null), (4, .aload_n 0, 0, 0, 0, .null), (5, .getfield 63, 12, 5, 157, .null), (8, .isub, 0, 0, 0, .null), (9, .iload_n 3, 0, 0, 0, .null)]
theorem t_s_M_isName_0 : s_M_isName_0.all (am_ok 12 cX12_isName) = true := by decide +kernel
theorem d_X12_isName_10 : decode cX12_isName 10 = .ok (.if_icmp .ne 7, 3) := by decide +kernel
def s_M_isName_1 : List am_Q := [(17, .iconst 0, 0, 0, 0, .int (nI 0)), (18, .istore 4, 0, 0, 0, .null), (20, .iconst 0, 0, 0, 0, .int (nI 0)), (21, .istore 5, 0, 0, 0, .null)]
theorem t_s_M_isName_1 : s_M_isName_1.all (am_ok 12 cX12_isName) = true := by decide +kernel
def s_M_isName_2 : List am_Q := [(23, .iload 5, 0, 0, 0, .null), (25, .iload_n 3, 0, 0, 0, .null)]
theorem t_s_M_isName_2 : s_M_isName_2.all (am_ok 12 cX12_isName) = true := by decide +kernel
theorem d_X12_isName_26 : decode cX12_isName 26 = .ok (.if_icmp .ge 52, 3) := by decide +kernel
def s_M_isName_3 : List am_Q := [(78, .iload 4, 0, 0, 0, .null)]
theorem t_s_M_isName_3 : s_M_isName_3.all (am_ok 12 cX12_isName) = true := by decide +kernel
theorem d_X12_isName_80 : decode cX12_isName 80 = .ok (.ireturn, 1) := by decide +kernel
def s_M_isName_4 : List am_Q := [(29, .iload 4, 0, 0, 0, .null)]
theorem t_s_M_isName_4 : s_M_isName_4.all (am_ok 12 cX12_isName) = true := by decide +kernel
theorem d_X12_isName_31 : decode cX12_isName 31 = .ok (.ifCond .eq 47, 3) := by decide +kernel
def s_M_isName_5 : List am_Q := [(78, .iload 4, 0, 0, 0, .null)]
theorem t_s_M_isName_5 : s_M_isName_5.all (am_ok 12 cX12_isName) = true := by decide +kernel
def s_M_isName_6 : List am_Q := [(34, .aload_n 0, 0, 0, 0, .null), (35, .getfield 16, 12, 3, 155, .null), (38, .aload_n 0, 0, 0, 0, .null), (39, .getfield 63, 12, 5, 157, .null), (42, .iload 5, 0, 0, 0, .null), (44, .iadd, 0, 0, 0, .null)]
theorem t_s_M_isName_6 : s_M_isName_6.all (am_ok 12 cX12_isName) = true := by decide +kernel
theorem d_X12_isName_45 : decode cX12_isName 45 = .ok (.iaload, 1) := by decide +kernel
def s_M_isName_7 : List am_Q := [(46, .lload_n 1, 0, 0, 0, .null), (47, .bipush 8, 0, 0, 0, .int (nI 8)), (49, .iload_n 3, 0, 0, 0, .null), (50, .iconst 1, 0, 0, 0, .int (nI 1)), (51, .isub, 0, 0, 0, .null), (52, .iload 5, 0, 0, 0, .null), (54, .isub, 0, 0, 0, .null), (55, .imul, 0, 0, 0, .null), (56, .lshr, 0, 0, 0, .null), (57, .ldc2_w 58, 0, 0, 8, .long (lN 255)), (60, .land, 0, 0, 0, .null), (61, .l2i, 0, 0, 0, .null)]
theorem t_s_M_isName_7 : s_M_isName_7.all (am_ok 12 cX12_isName) = true := by decide +kernel
theorem d_X12_isName_62 : decode cX12_isName 62 = .ok (.if_icmp .ne 7, 3) := by decide +kernel
def s_M_isName_8 : List am_Q := [(69, .iconst 0, 0, 0, 0, .int (nI 0)), (70, .istore 4, 0, 0, 0, .null), (72, .iinc 5 1, 0, 0, 0, .int (nI 1)), (75, .goto (-52), 23, 0, 0, .null)]
theorem t_s_M_isName_8 : s_M_isName_8.all (am_ok 12 cX12_isName) = true := by decide +kernel
def s_M_isName_9 : List am_Q := [(65, .iconst 1, 0, 0, 0, .int (nI 1)), (66, .goto 4, 70, 0, 0, .null), (70, .istore 4, 0, 0, 0, .null), (72, .iinc 5 1, 0, 0, 0, .int (nI 1)), (75, .goto (-52), 23, 0, 0, .null)]
theorem t_s_M_isName_9 : s_M_isName_9.all (am_ok 12 cX12_isName) = true := by decide +kernel
def s_M_isName_10 : List am_Q := [(13, .iconst 1, 0, 0, 0, .int (nI 1)), (14, .goto 4, 18, 0, 0, .null), (18, .istore 4, 0, 0, 0, .null), (20, .iconst 0, 0, 0, 0, .int (nI 0)), (21, .istore 5, 0, 0, 0, .null)]
theorem t_s_M_isName_10 : s_M_isName_10.all (am_ok 12 cX12_isName) = true := by decide +kernel
def M_isName_23 : Nat → am_T → Int64 → Int32 → Int32 → Int32 → Option (Int32 × am_T)
  | 0, _, _, _, _, _ => none
  | n + 1, τ, a1, a3, a4, a5 =>
    if a3 ≤ a5 then
  (am_g (am_z01 a4) (some (a4, τ)))
else
  (if a4 = 0 then
  (am_g (am_z01 a4) (some (a4, τ)))
else
  (am_g (am_in ((τ.1 140 5) + a5) 200) (if (τ.1 143 (((τ.1 140 5) + a5).toNatClampNeg)) = (Int64.toInt32 ((a1 >>> (Int32.toInt64 ((nI 8) * ((a3 - (nI 1)) - a5)) &&& 63)) &&& (lN 255))) then
  ((M_isName_23 n) τ a1 a3 (nI 1) (a5 + (nI 1)))
else
  ((M_isName_23 n) τ a1 a3 (nI 0) (a5 + (nI 1))))))
set_option maxRecDepth 20000 in
theorem ok_M_isName_23 {X : am_X} {v : Int32} {τ' : am_T} (hF : am_F X "ShareHouseModel" cX12_isName 6) (hR : am_R X 0 0) (hB : am_B X (some .boolean) (some (.int v)) (am_D τ')) : ∀ (n : Nat) (τ : am_T) (a1 : Int64) (a3 : Int32) (a4 : Int32) (a5 : Int32), M_isName_23 n τ a1 a3 a4 a5 = some (v, τ') → am_W X 6 (23, [(0, .ref 140), (1, .long a1), (3, .int a3), (4, .int a4), (5, .int a5)], [], am_D τ) := by
  intro n
  induction n with
  | zero => intro τ a1 a3 a4 a5 h; unfold M_isName_23 at h; cases h
  | succ n ih =>
    intro τ a1 a3 a4 a5 h
    unfold M_isName_23 at h
    refine am_seg s_M_isName_2 (y := (26, [(0, .ref 140), (1, .long a1), (3, .int a3), (4, .int a4), (5, .int a5)], [.int a3, .int a5], am_D τ)) hF t_s_M_isName_2 rfl rfl ?_
    refine am_ite h (fun hc h => ?_) (fun hc h => ?_)
    · refine am_icmp_ge_t (t := 78) d_X12_isName_26 (by decide) hc hF ?_
      refine am_seg s_M_isName_3 (y := (80, [(0, .ref 140), (1, .long a1), (3, .int a3), (4, .int a4), (5, .int a5)], [.int a4], am_D τ)) hF t_s_M_isName_3 rfl rfl ?_
      refine am_gd h (fun hz h => ?_)
      obtain ⟨rfl, rfl⟩ := am_pair h
      exact am_zret d_X12_isName_80 (am_z01_n hz) hF hB
    · refine am_icmp_ge_f (t := 78) d_X12_isName_26 (by decide) hc hF ?_
      refine am_seg s_M_isName_4 (y := (31, [(0, .ref 140), (1, .long a1), (3, .int a3), (4, .int a4), (5, .int a5)], [.int a4], am_D τ)) hF t_s_M_isName_4 rfl rfl ?_
      refine am_ite h (fun hc h => ?_) (fun hc h => ?_)
      · refine am_if_eq_t (t := 78) d_X12_isName_31 (by decide) hc hF ?_
        refine am_seg s_M_isName_5 (y := (80, [(0, .ref 140), (1, .long a1), (3, .int a3), (4, .int a4), (5, .int a5)], [.int a4], am_D τ)) hF t_s_M_isName_5 rfl rfl ?_
        refine am_gd h (fun hz h => ?_)
        obtain ⟨rfl, rfl⟩ := am_pair h
        exact am_zret d_X12_isName_80 (am_z01_n hz) hF hB
      · refine am_if_eq_f (t := 78) d_X12_isName_31 (by decide) hc hF ?_
        refine am_seg s_M_isName_6 (y := (45, [(0, .ref 140), (1, .long a1), (3, .int a3), (4, .int a4), (5, .int a5)], [.int ((τ.1 140 5) + a5), .ref 143], am_D τ)) hF t_s_M_isName_6 rfl rfl ?_
        refine am_gd h (fun hi h => ?_)
        refine am_iald (n := 200) (j := (((τ.1 140 5) + a5).toNatClampNeg)) d_X12_isName_45 (Nat.le_of_ble_eq_true rfl) (Nat.le_of_ble_eq_true rfl) rfl hi rfl hF ?_
        refine am_seg s_M_isName_7 (y := (62, [(0, .ref 140), (1, .long a1), (3, .int a3), (4, .int a4), (5, .int a5)], [.int (Int64.toInt32 ((a1 >>> (Int32.toInt64 ((nI 8) * ((a3 - (nI 1)) - a5)) &&& 63)) &&& (lN 255))), .int (τ.1 143 (((τ.1 140 5) + a5).toNatClampNeg))], am_D τ)) hF t_s_M_isName_7 rfl rfl ?_
        refine am_ite h (fun hc h => ?_) (fun hc h => ?_)
        · refine am_icmp_ne_f (t := 69) d_X12_isName_62 (by decide) hc hF ?_
          refine am_seg s_M_isName_9 (y := (23, [(5, .int (a5 + (nI 1))), (4, .int (nI 1)), (0, .ref 140), (1, .long a1), (3, .int a3)], [], am_D τ)) hF t_s_M_isName_9 rfl rfl ?_
          refine am_pick [2, 3, 4, 1, 0] rfl ?_
          exact ih _ _ _ _ _ h
        · refine am_icmp_ne_t (t := 69) d_X12_isName_62 (by decide) hc hF ?_
          refine am_seg s_M_isName_8 (y := (23, [(5, .int (a5 + (nI 1))), (4, .int (nI 0)), (0, .ref 140), (1, .long a1), (3, .int a3)], [], am_D τ)) hF t_s_M_isName_8 rfl rfl ?_
          refine am_pick [2, 3, 4, 1, 0] rfl ?_
          exact ih _ _ _ _ _ h
def M_isName (τ : am_T) (a1 : Int64) (a3 : Int32) : Option (Int32 × am_T) :=
  if ((τ.1 140 6) - (τ.1 140 5)) = a3 then
  (M_isName_23 5000 τ a1 a3 (nI 1) (nI 0))
else
  (M_isName_23 5000 τ a1 a3 (nI 0) (nI 0))
set_option maxRecDepth 20000 in
theorem ok_M_isName {X : am_X} {a1 : Int64} {a3 : Int32} {v : Int32} {τ τ' : am_T} (hF : am_F X "ShareHouseModel" cX12_isName 6) (hR : am_R X 0 0) (hB : am_B X (some .boolean) (some (.int v)) (am_D τ')) (h : M_isName τ a1 a3 = some (v, τ')) : am_W X 6 (0, [(0, .ref 140), (1, .long a1), (3, .int a3)], [], am_D τ) := by
  unfold M_isName at h
  refine am_seg s_M_isName_0 (y := (10, [(0, .ref 140), (1, .long a1), (3, .int a3)], [.int a3, .int ((τ.1 140 6) - (τ.1 140 5))], am_D τ)) hF t_s_M_isName_0 rfl rfl ?_
  refine am_ite h (fun hc h => ?_) (fun hc h => ?_)
  · refine am_icmp_ne_f (t := 17) d_X12_isName_10 (by decide) hc hF ?_
    refine am_seg s_M_isName_10 (y := (23, [(5, .int (nI 0)), (4, .int (nI 1)), (0, .ref 140), (1, .long a1), (3, .int a3)], [], am_D τ)) hF t_s_M_isName_10 rfl rfl ?_
    refine am_pick [2, 3, 4, 1, 0] rfl ?_
    exact ok_M_isName_23 hF hR hB _ _ _ _ _ _ h
  · refine am_icmp_ne_t (t := 17) d_X12_isName_10 (by decide) hc hF ?_
    refine am_seg s_M_isName_1 (y := (23, [(5, .int (nI 0)), (4, .int (nI 0)), (0, .ref 140), (1, .long a1), (3, .int a3)], [], am_D τ)) hF t_s_M_isName_1 rfl rfl ?_
    refine am_pick [2, 3, 4, 1, 0] rfl ?_
    exact ok_M_isName_23 hF hR hB _ _ _ _ _ _ h
theorem c_M_isName {a1 : Int64} {a3 : Int32} {v : Int32} {τ τ' : am_T} (h : M_isName τ a1 a3 = some (v, τ')) : am_C yX12_isName cX12_isName 6 (some .boolean) 0 0 [.ref 140, .long a1, .int a3] (am_D τ) (some (.int v)) (am_D τ') :=
  am_enter (by decide +kernel) (Nat.le_of_ble_eq_true rfl) ⟨Nat.le_refl _, Nat.le_refl _⟩ (fun X hF hR hB => ok_M_isName hF hR hB h)
def s_M_may_0 : List am_Q := [(0, .aload_n 0, 0, 0, 0, .null), (1, .lload_n 1, 0, 0, 0, .null), (2, .iload_n 3, 0, 0, 0, .null)]
theorem t_s_M_may_0 : s_M_may_0.all (am_ok 12 cX12_may) = true := by decide +kernel
theorem d_X12_may_3 : decode cX12_may 3 = .ok (.invokevirtual 76, 3) := by decide +kernel
def s_M_may_1 : List am_Q := [(6, .istore 4, 0, 0, 0, .null), (8, .iload 4, 0, 0, 0, .null)]
theorem t_s_M_may_1 : s_M_may_1.all (am_ok 12 cX12_may) = true := by decide +kernel
theorem d_X12_may_10 : decode cX12_may 10 = .ok (.ifCond .eq 7, 3) := by decide +kernel
def s_M_may_2 : List am_Q := [(17, .iload 4, 0, 0, 0, .null)]
theorem t_s_M_may_2 : s_M_may_2.all (am_ok 12 cX12_may) = true := by decide +kernel
theorem d_X12_may_19 : decode cX12_may 19 = .ok (.ireturn, 1) := by decide +kernel
def s_M_may_3 : List am_Q := [(13, .aload_n 0, 0, 0, 0, .null)]
theorem t_s_M_may_3 : s_M_may_3.all (am_ok 12 cX12_may) = true := by decide +kernel
theorem d_X12_may_14 : decode cX12_may 14 = .ok (.invokevirtual 80, 3) := by decide +kernel
def s_M_may_4 : List am_Q := [(17, .iload 4, 0, 0, 0, .null)]
theorem t_s_M_may_4 : s_M_may_4.all (am_ok 12 cX12_may) = true := by decide +kernel
def M_may (τ : am_T) (a1 : Int64) (a3 : Int32) : Option (Int32 × am_T) :=
  (M_isName τ a1 a3).bind (fun x1 =>
  if x1.1 = 0 then
  (am_g (am_z01 x1.1) (some (x1.1, x1.2)))
else
  ((M_next x1.2).bind (fun x2 =>
  am_g (am_z01 x1.1) (some (x1.1, x2)))))
set_option maxRecDepth 20000 in
theorem ok_M_may {X : am_X} {a1 : Int64} {a3 : Int32} {v : Int32} {τ τ' : am_T} (hF : am_F X "ShareHouseModel" cX12_may 5) (hR : am_R X 3 65) (hB : am_B X (some .boolean) (some (.int v)) (am_D τ')) (h : M_may τ a1 a3 = some (v, τ')) : am_W X 5 (0, [(0, .ref 140), (1, .long a1), (3, .int a3)], [], am_D τ) := by
  unfold M_may at h
  refine am_seg s_M_may_0 (y := (3, [(0, .ref 140), (1, .long a1), (3, .int a3)], [.int a3, .long a1, .ref 140], am_D τ)) hF t_s_M_may_0 rfl rfl ?_
  refine am_bd h (fun x1 hx h => ?_)
  refine am_callV (As := [.long a1, .int a3]) (r := (some (.int x1.1))) (st := []) (σ' := am_D x1.2) (ci := 12) hF hR d_X12_may_3 (c_M_isName (τ' := x1.2) hx) (Nat.le_refl _) (Nat.le_refl _) wl_M_76 wi_yX12_isName we_yX12_isName wn_ShareHouseModel wc_yX12_isName (Nat.le_of_ble_eq_true rfl) (Nat.le_of_ble_eq_true rfl) rfl rfl wy_yX12_isName rfl ⟨by decide, by decide⟩ (Nat.le_of_ble_eq_true rfl) ?_
  refine am_seg s_M_may_1 (y := (10, [(4, .int x1.1), (0, .ref 140), (1, .long a1), (3, .int a3)], [.int x1.1], am_D x1.2)) hF t_s_M_may_1 rfl rfl ?_
  refine am_ite h (fun hc h => ?_) (fun hc h => ?_)
  · refine am_if_eq_t (t := 17) d_X12_may_10 (by decide) hc hF ?_
    refine am_seg s_M_may_2 (y := (19, [(4, .int x1.1), (0, .ref 140), (1, .long a1), (3, .int a3)], [.int x1.1], am_D x1.2)) hF t_s_M_may_2 rfl rfl ?_
    refine am_gd h (fun hz h => ?_)
    obtain ⟨rfl, rfl⟩ := am_pair h
    exact am_zret d_X12_may_19 (am_z01_n hz) hF hB
  · refine am_if_eq_f (t := 17) d_X12_may_10 (by decide) hc hF ?_
    refine am_seg s_M_may_3 (y := (14, [(4, .int x1.1), (0, .ref 140), (1, .long a1), (3, .int a3)], [.ref 140], am_D x1.2)) hF t_s_M_may_3 rfl rfl ?_
    refine am_bd h (fun x2 hx h => ?_)
    refine am_callV (As := []) (r := none) (st := []) (σ' := am_D x2) (ci := 12) hF hR d_X12_may_14 (c_M_next (τ' := x2) hx) (Nat.le_refl _) (Nat.le_refl _) wl_M_80 wi_yX12_next we_yX12_next wn_ShareHouseModel wc_yX12_next (Nat.le_of_ble_eq_true rfl) (Nat.le_of_ble_eq_true rfl) rfl rfl wy_yX12_next rfl ⟨by decide, by decide⟩ (Nat.le_of_ble_eq_true rfl) ?_
    refine am_seg s_M_may_4 (y := (19, [(4, .int x1.1), (0, .ref 140), (1, .long a1), (3, .int a3)], [.int x1.1], am_D x2)) hF t_s_M_may_4 rfl rfl ?_
    refine am_gd h (fun hz h => ?_)
    obtain ⟨rfl, rfl⟩ := am_pair h
    exact am_zret d_X12_may_19 (am_z01_n hz) hF hB
theorem c_M_may {a1 : Int64} {a3 : Int32} {v : Int32} {τ τ' : am_T} (h : M_may τ a1 a3 = some (v, τ')) : am_C yX12_may cX12_may 5 (some .boolean) 3 65 [.ref 140, .long a1, .int a3] (am_D τ) (some (.int v)) (am_D τ') :=
  am_enter (by decide +kernel) (Nat.le_of_ble_eq_true rfl) ⟨Nat.le_refl _, Nat.le_refl _⟩ (fun X hF hR hB => ok_M_may hF hR hB h)

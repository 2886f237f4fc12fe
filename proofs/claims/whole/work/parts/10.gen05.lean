def s_Ow_addPayment_0 : List am_Q := [(0, .aload_n 0, 0, 0, 0, .null), (1, .getfield 38, 5, 7, 51, .null), (4, .bipush 20, 0, 0, 0, .int (nI 20))]
theorem t_s_Ow_addPayment_0 : s_Ow_addPayment_0.all (am_ok 5 cX5_addPayment) = true := by decide +kernel
theorem d_X5_addPayment_6 : decode cX5_addPayment 6 = .ok (.if_icmp .lt 6, 3) := by decide +kernel
def s_Ow_addPayment_1 : List am_Q := [(12, .aload_n 0, 0, 0, 0, .null), (13, .getfield 21, 5, 4, 45, .null), (16, .aload_n 0, 0, 0, 0, .null), (17, .getfield 38, 5, 7, 51, .null), (20, .iload_n 1, 0, 0, 0, .null)]
theorem t_s_Ow_addPayment_1 : s_Ow_addPayment_1.all (am_ok 5 cX5_addPayment) = true := by decide +kernel
theorem d_X5_addPayment_21 : decode cX5_addPayment 21 = .ok (.iastore, 1) := by decide +kernel
def s_Ow_addPayment_2 : List am_Q := [(22, .aload_n 0, 0, 0, 0, .null), (23, .getfield 24, 5, 5, 47, .null), (26, .aload_n 0, 0, 0, 0, .null), (27, .getfield 38, 5, 7, 51, .null), (30, .iload_n 2, 0, 0, 0, .null)]
theorem t_s_Ow_addPayment_2 : s_Ow_addPayment_2.all (am_ok 5 cX5_addPayment) = true := by decide +kernel
theorem d_X5_addPayment_31 : decode cX5_addPayment 31 = .ok (.iastore, 1) := by decide +kernel
def s_Ow_addPayment_3 : List am_Q := [(32, .aload_n 0, 0, 0, 0, .null), (33, .getfield 27, 5, 6, 49, .null), (36, .aload_n 0, 0, 0, 0, .null), (37, .getfield 38, 5, 7, 51, .null), (40, .iload_n 3, 0, 0, 0, .null)]
theorem t_s_Ow_addPayment_3 : s_Ow_addPayment_3.all (am_ok 5 cX5_addPayment) = true := by decide +kernel
theorem d_X5_addPayment_41 : decode cX5_addPayment 41 = .ok (.iastore, 1) := by decide +kernel
def s_Ow_addPayment_4 : List am_Q := [(42, .aload_n 0, 0, 0, 0, .null), (43, .dup, 0, 0, 0, .null), (44, .getfield 38, 5, 7, 51, .null), (47, .iconst 1, 0, 0, 0, .int (nI 1)), (48, .iadd, 0, 0, 0, .null), (49, .putfield 38, 5, 7, 51, .null), (52, .aload_n 0, 0, 0, 0, .null), (53, .getfield 38, 5, 7, 51, .null)]
theorem t_s_Ow_addPayment_4 : s_Ow_addPayment_4.all (am_ok 5 cX5_addPayment) = true := by decide +kernel
theorem d_X5_addPayment_56 : decode cX5_addPayment 56 = .ok (.ireturn, 1) := by decide +kernel
def s_Ow_addPayment_5 : List am_Q := [(9, .bipush (-2), 0, 0, 0, .int (-2 : Int32))]
theorem t_s_Ow_addPayment_5 : s_Ow_addPayment_5.all (am_ok 5 cX5_addPayment) = true := by decide +kernel
theorem d_X5_addPayment_11 : decode cX5_addPayment 11 = .ok (.ireturn, 1) := by decide +kernel
def Ow_addPayment (τ : am_T) (a1 : Int32) (a2 : Int32) (a3 : Int32) : Option (Int32 × am_T) :=
  if (τ.1 34 7) < (nI 20) then
  (am_g (am_in (τ.1 34 7) 20) (am_g (am_in ((am_si τ 38 ((τ.1 34 7).toNatClampNeg) a1).1 34 7) 20) (am_g (am_in ((am_si (am_si τ 38 ((τ.1 34 7).toNatClampNeg) a1) 39 (((am_si τ 38 ((τ.1 34 7).toNatClampNeg) a1).1 34 7).toNatClampNeg) a2).1 34 7) 20) (some (((am_si (am_si (am_si (am_si τ 38 ((τ.1 34 7).toNatClampNeg) a1) 39 (((am_si τ 38 ((τ.1 34 7).toNatClampNeg) a1).1 34 7).toNatClampNeg) a2) 40 (((am_si (am_si τ 38 ((τ.1 34 7).toNatClampNeg) a1) 39 (((am_si τ 38 ((τ.1 34 7).toNatClampNeg) a1).1 34 7).toNatClampNeg) a2).1 34 7).toNatClampNeg) a3) 34 7 (((am_si (am_si (am_si τ 38 ((τ.1 34 7).toNatClampNeg) a1) 39 (((am_si τ 38 ((τ.1 34 7).toNatClampNeg) a1).1 34 7).toNatClampNeg) a2) 40 (((am_si (am_si τ 38 ((τ.1 34 7).toNatClampNeg) a1) 39 (((am_si τ 38 ((τ.1 34 7).toNatClampNeg) a1).1 34 7).toNatClampNeg) a2).1 34 7).toNatClampNeg) a3).1 34 7) + (nI 1))).1 34 7), (am_si (am_si (am_si (am_si τ 38 ((τ.1 34 7).toNatClampNeg) a1) 39 (((am_si τ 38 ((τ.1 34 7).toNatClampNeg) a1).1 34 7).toNatClampNeg) a2) 40 (((am_si (am_si τ 38 ((τ.1 34 7).toNatClampNeg) a1) 39 (((am_si τ 38 ((τ.1 34 7).toNatClampNeg) a1).1 34 7).toNatClampNeg) a2).1 34 7).toNatClampNeg) a3) 34 7 (((am_si (am_si (am_si τ 38 ((τ.1 34 7).toNatClampNeg) a1) 39 (((am_si τ 38 ((τ.1 34 7).toNatClampNeg) a1).1 34 7).toNatClampNeg) a2) 40 (((am_si (am_si τ 38 ((τ.1 34 7).toNatClampNeg) a1) 39 (((am_si τ 38 ((τ.1 34 7).toNatClampNeg) a1).1 34 7).toNatClampNeg) a2).1 34 7).toNatClampNeg) a3).1 34 7) + (nI 1))))))))
else
  (some ((-2 : Int32), τ))
set_option maxRecDepth 20000 in
theorem ok_Ow_addPayment {X : am_X} {a1 : Int32} {a2 : Int32} {a3 : Int32} {v : Int32} {τ τ' : am_T} (hF : am_F X "ShareHouse$Owners" cX5_addPayment 4) (hR : am_R X 0 0) (hB : am_B X (some .int) (some (.int v)) (am_D τ')) (h : Ow_addPayment τ a1 a2 a3 = some (v, τ')) : am_W X 4 (0, [(0, .ref 34), (1, .int a1), (2, .int a2), (3, .int a3)], [], am_D τ) := by
  unfold Ow_addPayment at h
  refine am_seg s_Ow_addPayment_0 (y := (6, [(0, .ref 34), (1, .int a1), (2, .int a2), (3, .int a3)], [.int (nI 20), .int (τ.1 34 7)], am_D τ)) hF t_s_Ow_addPayment_0 rfl rfl ?_
  refine am_ite h (fun hc h => ?_) (fun hc h => ?_)
  · refine am_icmp_lt_t (t := 12) d_X5_addPayment_6 (by decide) hc hF ?_
    refine am_seg s_Ow_addPayment_1 (y := (21, [(0, .ref 34), (1, .int a1), (2, .int a2), (3, .int a3)], [.int a1, .int (τ.1 34 7), .ref 38], am_D τ)) hF t_s_Ow_addPayment_1 rfl rfl ?_
    refine am_gd h (fun hi h => ?_)
    refine am_iast (n := 20) (j := ((τ.1 34 7).toNatClampNeg)) d_X5_addPayment_21 (Nat.le_of_ble_eq_true rfl) (Nat.le_of_ble_eq_true rfl) rfl hi rfl hF ?_
    refine am_seg s_Ow_addPayment_2 (y := (31, [(0, .ref 34), (1, .int a1), (2, .int a2), (3, .int a3)], [.int a2, .int ((am_si τ 38 ((τ.1 34 7).toNatClampNeg) a1).1 34 7), .ref 39], am_D (am_si τ 38 ((τ.1 34 7).toNatClampNeg) a1))) hF t_s_Ow_addPayment_2 rfl rfl ?_
    refine am_gd h (fun hi h => ?_)
    refine am_iast (n := 20) (j := (((am_si τ 38 ((τ.1 34 7).toNatClampNeg) a1).1 34 7).toNatClampNeg)) d_X5_addPayment_31 (Nat.le_of_ble_eq_true rfl) (Nat.le_of_ble_eq_true rfl) rfl hi rfl hF ?_
    refine am_seg s_Ow_addPayment_3 (y := (41, [(0, .ref 34), (1, .int a1), (2, .int a2), (3, .int a3)], [.int a3, .int ((am_si (am_si τ 38 ((τ.1 34 7).toNatClampNeg) a1) 39 (((am_si τ 38 ((τ.1 34 7).toNatClampNeg) a1).1 34 7).toNatClampNeg) a2).1 34 7), .ref 40], am_D (am_si (am_si τ 38 ((τ.1 34 7).toNatClampNeg) a1) 39 (((am_si τ 38 ((τ.1 34 7).toNatClampNeg) a1).1 34 7).toNatClampNeg) a2))) hF t_s_Ow_addPayment_3 rfl rfl ?_
    refine am_gd h (fun hi h => ?_)
    refine am_iast (n := 20) (j := (((am_si (am_si τ 38 ((τ.1 34 7).toNatClampNeg) a1) 39 (((am_si τ 38 ((τ.1 34 7).toNatClampNeg) a1).1 34 7).toNatClampNeg) a2).1 34 7).toNatClampNeg)) d_X5_addPayment_41 (Nat.le_of_ble_eq_true rfl) (Nat.le_of_ble_eq_true rfl) rfl hi rfl hF ?_
    refine am_seg s_Ow_addPayment_4 (y := (56, [(0, .ref 34), (1, .int a1), (2, .int a2), (3, .int a3)], [.int ((am_si (am_si (am_si (am_si τ 38 ((τ.1 34 7).toNatClampNeg) a1) 39 (((am_si τ 38 ((τ.1 34 7).toNatClampNeg) a1).1 34 7).toNatClampNeg) a2) 40 (((am_si (am_si τ 38 ((τ.1 34 7).toNatClampNeg) a1) 39 (((am_si τ 38 ((τ.1 34 7).toNatClampNeg) a1).1 34 7).toNatClampNeg) a2).1 34 7).toNatClampNeg) a3) 34 7 (((am_si (am_si (am_si τ 38 ((τ.1 34 7).toNatClampNeg) a1) 39 (((am_si τ 38 ((τ.1 34 7).toNatClampNeg) a1).1 34 7).toNatClampNeg) a2) 40 (((am_si (am_si τ 38 ((τ.1 34 7).toNatClampNeg) a1) 39 (((am_si τ 38 ((τ.1 34 7).toNatClampNeg) a1).1 34 7).toNatClampNeg) a2).1 34 7).toNatClampNeg) a3).1 34 7) + (nI 1))).1 34 7)], am_D (am_si (am_si (am_si (am_si τ 38 ((τ.1 34 7).toNatClampNeg) a1) 39 (((am_si τ 38 ((τ.1 34 7).toNatClampNeg) a1).1 34 7).toNatClampNeg) a2) 40 (((am_si (am_si τ 38 ((τ.1 34 7).toNatClampNeg) a1) 39 (((am_si τ 38 ((τ.1 34 7).toNatClampNeg) a1).1 34 7).toNatClampNeg) a2).1 34 7).toNatClampNeg) a3) 34 7 (((am_si (am_si (am_si τ 38 ((τ.1 34 7).toNatClampNeg) a1) 39 (((am_si τ 38 ((τ.1 34 7).toNatClampNeg) a1).1 34 7).toNatClampNeg) a2) 40 (((am_si (am_si τ 38 ((τ.1 34 7).toNatClampNeg) a1) 39 (((am_si τ 38 ((τ.1 34 7).toNatClampNeg) a1).1 34 7).toNatClampNeg) a2).1 34 7).toNatClampNeg) a3).1 34 7) + (nI 1))))) hF t_s_Ow_addPayment_4 rfl rfl ?_
    obtain ⟨rfl, rfl⟩ := am_pair h
    exact am_iret d_X5_addPayment_56 hF hB
  · refine am_icmp_lt_f (t := 12) d_X5_addPayment_6 (by decide) hc hF ?_
    refine am_seg s_Ow_addPayment_5 (y := (11, [(0, .ref 34), (1, .int a1), (2, .int a2), (3, .int a3)], [.int (-2 : Int32)], am_D τ)) hF t_s_Ow_addPayment_5 rfl rfl ?_
    obtain ⟨rfl, rfl⟩ := am_pair h
    exact am_iret d_X5_addPayment_11 hF hB
theorem c_Ow_addPayment {a1 : Int32} {a2 : Int32} {a3 : Int32} {v : Int32} {τ τ' : am_T} (h : Ow_addPayment τ a1 a2 a3 = some (v, τ')) : am_C yX5_addPayment cX5_addPayment 4 (some .int) 0 0 [.ref 34, .int a1, .int a2, .int a3] (am_D τ) (some (.int v)) (am_D τ') :=
  am_enter (by decide +kernel) (Nat.le_of_ble_eq_true rfl) ⟨Nat.le_refl _, Nat.le_refl _⟩ (fun X hF hR hB => ok_Ow_addPayment hF hR hB h)
def s_X_pay_0 : List am_Q := [(0, .iload_n 1, 0, 0, 0, .null)]
theorem t_s_X_pay_0 : s_X_pay_0.all (am_ok 11 cX11_pay) = true := by decide +kernel
theorem d_X11_pay_1 : decode cX11_pay 1 = .ok (.invokestatic 210, 3) := by decide +kernel
theorem d_X11_pay_4 : decode cX11_pay 4 = .ok (.ifCond .eq 13, 3) := by decide +kernel
def s_X_pay_1 : List am_Q := [(17, .iconst (-1), 0, 0, 0, .int (-1 : Int32))]
theorem t_s_X_pay_1 : s_X_pay_1.all (am_ok 11 cX11_pay) = true := by decide +kernel
theorem d_X11_pay_18 : decode cX11_pay 18 = .ok (.ireturn, 1) := by decide +kernel
def s_X_pay_2 : List am_Q := [(7, .iload_n 2, 0, 0, 0, .null), (8, .iconst 1, 0, 0, 0, .int (nI 1)), (9, .ldc 156, 0, 0, 1, .int (nI 99999))]
theorem t_s_X_pay_2 : s_X_pay_2.all (am_ok 11 cX11_pay) = true := by decide +kernel
theorem d_X11_pay_11 : decode cX11_pay 11 = .ok (.invokestatic 47, 3) := by decide +kernel
theorem d_X11_pay_14 : decode cX11_pay 14 = .ok (.ifCond .ne 5, 3) := by decide +kernel
def s_X_pay_3 : List am_Q := [(19, .aload_n 0, 0, 0, 0, .null), (20, .getfield 10, 11, 0, 145, .null), (23, .getfield 213, 3, 5, 104, .null), (26, .iload_n 1, 0, 0, 0, .null), (27, .iload_n 2, 0, 0, 0, .null), (28, .aload_n 0, 0, 0, 0, .null), (29, .getfield 10, 11, 0, 145, .null), (32, .getfield 61, 3, 0, 85, .null)]
theorem t_s_X_pay_3 : s_X_pay_3.all (am_ok 11 cX11_pay) = true := by decide +kernel
theorem d_X11_pay_35 : decode cX11_pay 35 = .ok (.invokevirtual 226, 3) := by decide +kernel
theorem d_X11_pay_38 : decode cX11_pay 38 = .ok (.ireturn, 1) := by decide +kernel
def s_X_pay_4 : List am_Q := [(17, .iconst (-1), 0, 0, 0, .int (-1 : Int32))]
theorem t_s_X_pay_4 : s_X_pay_4.all (am_ok 11 cX11_pay) = true := by decide +kernel
def X_pay (τ : am_T) (a1 : Int32) (a2 : Int32) : Option (Int32 × am_T) :=
  (X_isOwner τ a1).bind (fun x1 =>
  if x1.1 = 0 then
  (some ((-1 : Int32), x1.2))
else
  ((X_within x1.2 a2 (nI 1) (nI 99999)).bind (fun x2 =>
  if x2.1 = 0 then
  (some ((-1 : Int32), x2.2))
else
  ((Ow_addPayment x2.2 a1 a2 (x2.2.1 1 0)).bind (fun x3 =>
  some (x3.1, x3.2))))))
set_option maxRecDepth 20000 in
theorem ok_X_pay {X : am_X} {a1 : Int32} {a2 : Int32} {v : Int32} {τ τ' : am_T} (hF : am_F X "ShareHouse" cX11_pay 3) (hR : am_R X 2 42) (hB : am_B X (some .int) (some (.int v)) (am_D τ')) (h : X_pay τ a1 a2 = some (v, τ')) : am_W X 3 (0, [(0, .ref 0), (1, .int a1), (2, .int a2)], [], am_D τ) := by
  unfold X_pay at h
  refine am_seg s_X_pay_0 (y := (1, [(0, .ref 0), (1, .int a1), (2, .int a2)], [.int a1], am_D τ)) hF t_s_X_pay_0 rfl rfl ?_
  refine am_bd h (fun x1 hx h => ?_)
  refine am_callS (As := [.int a1]) (r := (some (.int x1.1))) (st := []) (σ' := am_D x1.2) hF hR d_X11_pay_1 (c_X_isOwner (τ' := x1.2) hx) (Nat.le_refl _) (Nat.le_refl _) wl_X_210 ws_yX11_isOwner wn_ShareHouse wc_yX11_isOwner wy_yX11_isOwner rfl ⟨by decide, by decide⟩ (Nat.le_of_ble_eq_true rfl) ?_
  refine am_ite h (fun hc h => ?_) (fun hc h => ?_)
  · refine am_if_eq_t (t := 17) d_X11_pay_4 (by decide) hc hF ?_
    refine am_seg s_X_pay_1 (y := (18, [(0, .ref 0), (1, .int a1), (2, .int a2)], [.int (-1 : Int32)], am_D x1.2)) hF t_s_X_pay_1 rfl rfl ?_
    obtain ⟨rfl, rfl⟩ := am_pair h
    exact am_iret d_X11_pay_18 hF hB
  · refine am_if_eq_f (t := 17) d_X11_pay_4 (by decide) hc hF ?_
    refine am_seg s_X_pay_2 (y := (11, [(0, .ref 0), (1, .int a1), (2, .int a2)], [.int (nI 99999), .int (nI 1), .int a2], am_D x1.2)) hF t_s_X_pay_2 rfl rfl ?_
    refine am_bd h (fun x2 hx h => ?_)
    refine am_callS (As := [.int a2, .int (nI 1), .int (nI 99999)]) (r := (some (.int x2.1))) (st := []) (σ' := am_D x2.2) hF hR d_X11_pay_11 (c_X_within (τ' := x2.2) hx) (Nat.le_refl _) (Nat.le_refl _) wl_X_47 ws_yX11_within wn_ShareHouse wc_yX11_within wy_yX11_within rfl ⟨by decide, by decide⟩ (Nat.le_of_ble_eq_true rfl) ?_
    refine am_ite h (fun hc h => ?_) (fun hc h => ?_)
    · refine am_if_ne_f (t := 19) d_X11_pay_14 (by decide) hc hF ?_
      refine am_seg s_X_pay_4 (y := (18, [(0, .ref 0), (1, .int a1), (2, .int a2)], [.int (-1 : Int32)], am_D x2.2)) hF t_s_X_pay_4 rfl rfl ?_
      obtain ⟨rfl, rfl⟩ := am_pair h
      exact am_iret d_X11_pay_18 hF hB
    · refine am_if_ne_t (t := 19) d_X11_pay_14 (by decide) hc hF ?_
      refine am_seg s_X_pay_3 (y := (35, [(0, .ref 0), (1, .int a1), (2, .int a2)], [.int (x2.2.1 1 0), .int a2, .int a1, .ref 34], am_D x2.2)) hF t_s_X_pay_3 rfl rfl ?_
      refine am_bd h (fun x3 hx h => ?_)
      refine am_callV (As := [.int a1, .int a2, .int (x2.2.1 1 0)]) (r := (some (.int x3.1))) (st := []) (σ' := am_D x3.2) (ci := 5) hF hR d_X11_pay_35 (c_Ow_addPayment (τ' := x3.2) hx) (Nat.le_refl _) (Nat.le_refl _) wl_X_226 wi_yX5_addPayment we_yX5_addPayment wn_ShareHouse_Owners wc_yX5_addPayment (Nat.le_of_ble_eq_true rfl) (Nat.le_of_ble_eq_true rfl) rfl rfl wy_yX5_addPayment rfl ⟨by decide, by decide⟩ (Nat.le_of_ble_eq_true rfl) ?_
      obtain ⟨rfl, rfl⟩ := am_pair h
      exact am_iret d_X11_pay_38 hF hB
theorem c_X_pay {a1 : Int32} {a2 : Int32} {v : Int32} {τ τ' : am_T} (h : X_pay τ a1 a2 = some (v, τ')) : am_C yX11_pay cX11_pay 3 (some .int) 2 42 [.ref 0, .int a1, .int a2] (am_D τ) (some (.int v)) (am_D τ') :=
  am_enter (by decide +kernel) (Nat.le_of_ble_eq_true rfl) ⟨Nat.le_refl _, Nat.le_refl _⟩ (fun X hF hR hB => ok_X_pay hF hR hB h)
def s_Ac_addParts_0 : List am_Q := [(0, .iconst 0, 0, 0, 0, .int (nI 0)), (1, .istore 4, 0, 0, 0, .null)]
theorem t_s_Ac_addParts_0 : s_Ac_addParts_0.all (am_ok 0 cX0_addParts) = true := by decide +kernel
def s_Ac_addParts_1 : List am_Q := [(3, .iload 4, 0, 0, 0, .null), (5, .aload_n 1, 0, 0, 0, .null), (6, .getfield 58, 3, 3, 96, .null), (9, .getfield 62, 2, 4, 17, .null)]
theorem t_s_Ac_addParts_1 : s_Ac_addParts_1.all (am_ok 0 cX0_addParts) = true := by decide +kernel
theorem d_X0_addParts_12 : decode cX0_addParts 12 = .ok (.if_icmp .ge 56, 3) := by decide +kernel
theorem d_X0_addParts_68 : decode cX0_addParts 68 = .ok (.return_, 1) := by decide +kernel
def s_Ac_addParts_2 : List am_Q := [(15, .aload_n 1, 0, 0, 0, .null), (16, .getfield 65, 3, 5, 103, .null), (19, .iload 4, 0, 0, 0, .null), (21, .aload_n 1, 0, 0, 0, .null), (22, .getfield 32, 3, 4, 99, .null), (25, .getfield 69, 1, 1, 23, .null), (28, .iload_n 3, 0, 0, 0, .null)]
theorem t_s_Ac_addParts_2 : s_Ac_addParts_2.all (am_ok 0 cX0_addParts) = true := by decide +kernel
theorem d_X0_addParts_29 : decode cX0_addParts 29 = .ok (.iaload, 1) := by decide +kernel
theorem d_X0_addParts_30 : decode cX0_addParts 30 = .ok (.invokevirtual 72, 3) := by decide +kernel
def s_Ac_addParts_3 : List am_Q := [(33, .istore 5, 0, 0, 0, .null), (35, .iload 5, 0, 0, 0, .null)]
theorem t_s_Ac_addParts_3 : s_Ac_addParts_3.all (am_ok 0 cX0_addParts) = true := by decide +kernel
theorem d_X0_addParts_37 : decode cX0_addParts 37 = .ok (.invokestatic 78, 3) := by decide +kernel
theorem d_X0_addParts_40 : decode cX0_addParts 40 = .ok (.ifCond .eq 22, 3) := by decide +kernel
def s_Ac_addParts_4 : List am_Q := [(62, .iinc 4 1, 0, 0, 0, .int (nI 1)), (65, .goto (-62), 3, 0, 0, .null)]
theorem t_s_Ac_addParts_4 : s_Ac_addParts_4.all (am_ok 0 cX0_addParts) = true := by decide +kernel
def s_Ac_addParts_5 : List am_Q := [(43, .aload_n 0, 0, 0, 0, .null), (44, .getfield 11, 0, 0, 141, .null), (47, .iload 5, 0, 0, 0, .null)]
theorem t_s_Ac_addParts_5 : s_Ac_addParts_5.all (am_ok 0 cX0_addParts) = true := by decide +kernel
theorem d_X0_addParts_49 : decode cX0_addParts 49 = .ok (.aaload, 1) := by decide +kernel
def s_Ac_addParts_6 : List am_Q := [(50, .iload_n 3, 0, 0, 0, .null), (51, .dup2, 0, 0, 0, .null)]
theorem t_s_Ac_addParts_6 : s_Ac_addParts_6.all (am_ok 0 cX0_addParts) = true := by decide +kernel
theorem d_X0_addParts_52 : decode cX0_addParts 52 = .ok (.iaload, 1) := by decide +kernel
def s_Ac_addParts_7 : List am_Q := [(53, .aload_n 2, 0, 0, 0, .null), (54, .getfield 82, 6, 4, 135, .null), (57, .iload 4, 0, 0, 0, .null)]
theorem t_s_Ac_addParts_7 : s_Ac_addParts_7.all (am_ok 0 cX0_addParts) = true := by decide +kernel
theorem d_X0_addParts_59 : decode cX0_addParts 59 = .ok (.iaload, 1) := by decide +kernel
def s_Ac_addParts_8 : List am_Q := [(60, .iadd, 0, 0, 0, .null)]
theorem t_s_Ac_addParts_8 : s_Ac_addParts_8.all (am_ok 0 cX0_addParts) = true := by decide +kernel
theorem d_X0_addParts_61 : decode cX0_addParts 61 = .ok (.iastore, 1) := by decide +kernel
def s_Ac_addParts_9 : List am_Q := [(62, .iinc 4 1, 0, 0, 0, .int (nI 1)), (65, .goto (-62), 3, 0, 0, .null)]
theorem t_s_Ac_addParts_9 : s_Ac_addParts_9.all (am_ok 0 cX0_addParts) = true := by decide +kernel
def Ac_addParts_3 : Nat → am_T → Int32 → Int32 → Option (am_T)
  | 0, _, _, _ => none
  | n + 1, τ, a3, a4 =>
    if (τ.1 4 4) ≤ a4 then
  (some τ)
else
  (am_g (am_in a3 20) ((Ow_ownerOn τ a4 (τ.1 27 (a3.toNatClampNeg))).bind (fun x1 =>
  (X_isOwner x1.2 x1.1).bind (fun x2 =>
  if x2.1 = 0 then
  ((Ac_addParts_3 n) x2.2 a3 (a4 + (nI 1)))
else
  (am_g (am_in x1.1 8) ((am_RF 128 (x1.1.toNatClampNeg)).bind (fun q3 =>
  am_g (am_isI q3) (am_g (am_in a3 (am_sh q3).2) (am_g (am_in a4 8) (am_g (am_isI q3) (am_g (am_in a3 (am_sh q3).2) ((Ac_addParts_3 n) (am_si x2.2 q3 (a3.toNatClampNeg) ((x2.2.1 q3 (a3.toNatClampNeg)) + (x2.2.1 126 (a4.toNatClampNeg)))) a3 (a4 + (nI 1))))))))))))))
set_option maxRecDepth 20000 in
theorem ok_Ac_addParts_3 {X : am_X} {τ' : am_T} (hF : am_F X "ShareHouse$Accounts" cX0_addParts 6) (hR : am_R X 2 47) (hB : am_B X none none (am_D τ')) : ∀ (n : Nat) (τ : am_T) (a3 : Int32) (a4 : Int32), Ac_addParts_3 n τ a3 a4 = some τ' → am_W X 6 (3, [(0, .ref 127), (1, .ref 1), (2, .ref 121), (3, .int a3), (4, .int a4)], [], am_D τ) := by
  intro n
  induction n with
  | zero => intro τ a3 a4 h; unfold Ac_addParts_3 at h; cases h
  | succ n ih =>
    intro τ a3 a4 h
    unfold Ac_addParts_3 at h
    refine am_seg s_Ac_addParts_1 (y := (12, [(0, .ref 127), (1, .ref 1), (2, .ref 121), (3, .int a3), (4, .int a4)], [.int (τ.1 4 4), .int a4], am_D τ)) hF t_s_Ac_addParts_1 rfl rfl ?_
    refine am_ite h (fun hc h => ?_) (fun hc h => ?_)
    · refine am_icmp_ge_t (t := 68) d_X0_addParts_12 (by decide) hc hF ?_
      obtain rfl := am_one h
      exact am_vret d_X0_addParts_68 hF hB
    · refine am_icmp_ge_f (t := 68) d_X0_addParts_12 (by decide) hc hF ?_
      refine am_seg s_Ac_addParts_2 (y := (29, [(0, .ref 127), (1, .ref 1), (2, .ref 121), (3, .int a3), (4, .int a4)], [.int a3, .ref 27, .int a4, .ref 34], am_D τ)) hF t_s_Ac_addParts_2 rfl rfl ?_
      refine am_gd h (fun hi h => ?_)
      refine am_iald (n := 20) (j := (a3.toNatClampNeg)) d_X0_addParts_29 (Nat.le_of_ble_eq_true rfl) (Nat.le_of_ble_eq_true rfl) rfl hi rfl hF ?_
      refine am_bd h (fun x1 hx h => ?_)
      refine am_callV (As := [.int a4, .int (τ.1 27 (a3.toNatClampNeg))]) (r := (some (.int x1.1))) (st := []) (σ' := am_D x1.2) (ci := 5) hF hR d_X0_addParts_30 (c_Ow_ownerOn (τ' := x1.2) hx) (Nat.le_refl _) (Nat.le_refl _) wl_Ac_72 wi_yX5_ownerOn we_yX5_ownerOn wn_ShareHouse_Owners wc_yX5_ownerOn (Nat.le_of_ble_eq_true rfl) (Nat.le_of_ble_eq_true rfl) rfl rfl wy_yX5_ownerOn rfl ⟨by decide, by decide⟩ (Nat.le_of_ble_eq_true rfl) ?_
      refine am_seg s_Ac_addParts_3 (y := (37, [(5, .int x1.1), (0, .ref 127), (1, .ref 1), (2, .ref 121), (3, .int a3), (4, .int a4)], [.int x1.1], am_D x1.2)) hF t_s_Ac_addParts_3 rfl rfl ?_
      refine am_bd h (fun x2 hx h => ?_)
      refine am_callSN (As := [.int x1.1]) (r := (some (.int x2.1))) (st := []) (σ' := am_D x2.2) (host := "ShareHouse") hF hR d_X0_addParts_37 (c_X_isOwner (τ' := x2.2) hx) (Nat.le_refl _) (Nat.le_refl _) wk_Ac_78 ws_yX11_isOwner wn_ShareHouse wc_yX11_isOwner wy_yX11_isOwner rfl ⟨by decide, by decide⟩ (Nat.le_of_ble_eq_true rfl) ?_
      refine am_ite h (fun hc h => ?_) (fun hc h => ?_)
      · refine am_if_eq_t (t := 62) d_X0_addParts_40 (by decide) hc hF ?_
        refine am_seg s_Ac_addParts_4 (y := (3, [(4, .int (a4 + (nI 1))), (5, .int x1.1), (0, .ref 127), (1, .ref 1), (2, .ref 121), (3, .int a3)], [], am_D x2.2)) hF t_s_Ac_addParts_4 rfl rfl ?_
        refine am_pick [2, 3, 4, 5, 0] rfl ?_
        exact ih _ _ _ h
      · refine am_if_eq_f (t := 62) d_X0_addParts_40 (by decide) hc hF ?_
        refine am_seg s_Ac_addParts_5 (y := (49, [(5, .int x1.1), (0, .ref 127), (1, .ref 1), (2, .ref 121), (3, .int a3), (4, .int a4)], [.int x1.1, .ref 128], am_D x2.2)) hF t_s_Ac_addParts_5 rfl rfl ?_
        refine am_gd h (fun hi h => ?_)
        refine am_bd h (fun q3 hq h => ?_)
        refine am_rald (n := 8) (j := (x1.1.toNatClampNeg)) (q := q3) d_X0_addParts_49 (Nat.le_of_ble_eq_true rfl) (Nat.le_of_ble_eq_true rfl) rfl hi rfl hq hF ?_
        refine am_seg s_Ac_addParts_6 (y := (52, [(5, .int x1.1), (0, .ref 127), (1, .ref 1), (2, .ref 121), (3, .int a3), (4, .int a4)], [.int a3, .ref q3, .int a3, .ref q3], am_D x2.2)) hF t_s_Ac_addParts_6 rfl rfl ?_
        refine am_gd h (fun hg h => ?_)
        refine am_gd h (fun hi h => ?_)
        refine am_iald (n := (am_sh q3).2) (j := (a3.toNatClampNeg)) d_X0_addParts_52 (am_isI_of hg).1 (am_isI_of hg).2.1 (am_isI_of hg).2.2 hi rfl hF ?_
        refine am_seg s_Ac_addParts_7 (y := (59, [(5, .int x1.1), (0, .ref 127), (1, .ref 1), (2, .ref 121), (3, .int a3), (4, .int a4)], [.int a4, .ref 126, .int (x2.2.1 q3 (a3.toNatClampNeg)), .int a3, .ref q3], am_D x2.2)) hF t_s_Ac_addParts_7 rfl rfl ?_
        refine am_gd h (fun hi h => ?_)
        refine am_iald (n := 8) (j := (a4.toNatClampNeg)) d_X0_addParts_59 (Nat.le_of_ble_eq_true rfl) (Nat.le_of_ble_eq_true rfl) rfl hi rfl hF ?_
        refine am_seg s_Ac_addParts_8 (y := (61, [(5, .int x1.1), (0, .ref 127), (1, .ref 1), (2, .ref 121), (3, .int a3), (4, .int a4)], [.int ((x2.2.1 q3 (a3.toNatClampNeg)) + (x2.2.1 126 (a4.toNatClampNeg))), .int a3, .ref q3], am_D x2.2)) hF t_s_Ac_addParts_8 rfl rfl ?_
        refine am_gd h (fun hg h => ?_)
        refine am_gd h (fun hi h => ?_)
        refine am_iast (n := (am_sh q3).2) (j := (a3.toNatClampNeg)) d_X0_addParts_61 (am_isI_of hg).1 (am_isI_of hg).2.1 (am_isI_of hg).2.2 hi rfl hF ?_
        refine am_seg s_Ac_addParts_9 (y := (3, [(4, .int (a4 + (nI 1))), (5, .int x1.1), (0, .ref 127), (1, .ref 1), (2, .ref 121), (3, .int a3)], [], am_D (am_si x2.2 q3 (a3.toNatClampNeg) ((x2.2.1 q3 (a3.toNatClampNeg)) + (x2.2.1 126 (a4.toNatClampNeg)))))) hF t_s_Ac_addParts_9 rfl rfl ?_
        refine am_pick [2, 3, 4, 5, 0] rfl ?_
        exact ih _ _ _ h
def Ac_addParts (τ : am_T) (a3 : Int32) : Option (am_T) :=
  Ac_addParts_3 5000 τ a3 (nI 0)
set_option maxRecDepth 20000 in
theorem ok_Ac_addParts {X : am_X} {a3 : Int32} {τ τ' : am_T} (hF : am_F X "ShareHouse$Accounts" cX0_addParts 6) (hR : am_R X 2 47) (hB : am_B X none none (am_D τ')) (h : Ac_addParts τ a3 = some τ') : am_W X 6 (0, [(0, .ref 127), (1, .ref 1), (2, .ref 121), (3, .int a3)], [], am_D τ) := by
  unfold Ac_addParts at h
  refine am_seg s_Ac_addParts_0 (y := (3, [(4, .int (nI 0)), (0, .ref 127), (1, .ref 1), (2, .ref 121), (3, .int a3)], [], am_D τ)) hF t_s_Ac_addParts_0 rfl rfl ?_
  refine am_pick [1, 2, 3, 4, 0] rfl ?_
  exact ok_Ac_addParts_3 hF hR hB _ _ _ _ h
theorem c_Ac_addParts {a3 : Int32} {τ τ' : am_T} (h : Ac_addParts τ a3 = some τ') : am_C yX0_addParts cX0_addParts 6 none 2 47 [.ref 127, .ref 1, .ref 121, .int a3] (am_D τ) none (am_D τ') :=
  am_enter (by decide +kernel) (Nat.le_of_ble_eq_true rfl) ⟨Nat.le_refl _, Nat.le_refl _⟩ (fun X hF hR hB => ok_Ac_addParts hF hR hB h)
def s_JA_fill_0 : List am_Q := [(0, .iconst 0, 0, 0, 0, .int (nI 0)), (1, .istore_n 2, 0, 0, 0, .null), (2, .aload_n 0, 0, 0, 0, .null)]
theorem t_s_JA_fill_0 : s_JA_fill_0.all (am_ok 14 cJ7_fill_53178) = true := by decide +kernel
theorem d_J7_fill_53178_3 : decode cJ7_fill_53178 3 = .ok (.arraylength, 1) := by decide +kernel
def s_JA_fill_1 : List am_Q := [(4, .istore_n 3, 0, 0, 0, .null)]
theorem t_s_JA_fill_1 : s_JA_fill_1.all (am_ok 14 cJ7_fill_53178) = true := by decide +kernel
def s_JA_fill_2 : List am_Q := [(5, .iload_n 2, 0, 0, 0, .null), (6, .iload_n 3, 0, 0, 0, .null)]
theorem t_s_JA_fill_2 : s_JA_fill_2.all (am_ok 14 cJ7_fill_53178) = true := by decide +kernel
theorem d_J7_fill_53178_7 : decode cJ7_fill_53178 7 = .ok (.if_icmp .ge 13, 3) := by decide +kernel
theorem d_J7_fill_53178_20 : decode cJ7_fill_53178 20 = .ok (.return_, 1) := by decide +kernel
def s_JA_fill_3 : List am_Q := [(10, .aload_n 0, 0, 0, 0, .null), (11, .iload_n 2, 0, 0, 0, .null), (12, .iload_n 1, 0, 0, 0, .null)]
theorem t_s_JA_fill_3 : s_JA_fill_3.all (am_ok 14 cJ7_fill_53178) = true := by decide +kernel
theorem d_J7_fill_53178_13 : decode cJ7_fill_53178 13 = .ok (.iastore, 1) := by decide +kernel
def s_JA_fill_4 : List am_Q := [(14, .iinc 2 1, 0, 0, 0, .int (nI 1)), (17, .goto (-12), 5, 0, 0, .null)]
theorem t_s_JA_fill_4 : s_JA_fill_4.all (am_ok 14 cJ7_fill_53178) = true := by decide +kernel
def JA_fill_5 : Nat → am_T → Nat → Int32 → Int32 → Int32 → Option (am_T)
  | 0, _, _, _, _, _ => none
  | n + 1, τ, a0, a1, a2, a3 =>
    if a3 ≤ a2 then
  (some τ)
else
  (am_g (am_isI a0) (am_g (am_in a2 (am_sh a0).2) ((JA_fill_5 n) (am_si τ a0 (a2.toNatClampNeg) a1) a0 a1 (a2 + (nI 1)) a3)))
set_option maxRecDepth 20000 in
theorem ok_JA_fill_5 {X : am_X} {τ' : am_T} (hF : am_F X "java/util/Arrays" cJ7_fill_53178 4) (hR : am_R X 0 0) (hB : am_B X none none (am_D τ')) : ∀ (n : Nat) (τ : am_T) (a0 : Nat) (a1 : Int32) (a2 : Int32) (a3 : Int32), JA_fill_5 n τ a0 a1 a2 a3 = some τ' → am_W X 4 (5, [(0, .ref a0), (1, .int a1), (2, .int a2), (3, .int a3)], [], am_D τ) := by
  intro n
  induction n with
  | zero => intro τ a0 a1 a2 a3 h; unfold JA_fill_5 at h; cases h
  | succ n ih =>
    intro τ a0 a1 a2 a3 h
    unfold JA_fill_5 at h
    refine am_seg s_JA_fill_2 (y := (7, [(0, .ref a0), (1, .int a1), (2, .int a2), (3, .int a3)], [.int a3, .int a2], am_D τ)) hF t_s_JA_fill_2 rfl rfl ?_
    refine am_ite h (fun hc h => ?_) (fun hc h => ?_)
    · refine am_icmp_ge_t (t := 20) d_J7_fill_53178_7 (by decide) hc hF ?_
      obtain rfl := am_one h
      exact am_vret d_J7_fill_53178_20 hF hB
    · refine am_icmp_ge_f (t := 20) d_J7_fill_53178_7 (by decide) hc hF ?_
      refine am_seg s_JA_fill_3 (y := (13, [(0, .ref a0), (1, .int a1), (2, .int a2), (3, .int a3)], [.int a1, .int a2, .ref a0], am_D τ)) hF t_s_JA_fill_3 rfl rfl ?_
      refine am_gd h (fun hg h => ?_)
      refine am_gd h (fun hi h => ?_)
      refine am_iast (n := (am_sh a0).2) (j := (a2.toNatClampNeg)) d_J7_fill_53178_13 (am_isI_of hg).1 (am_isI_of hg).2.1 (am_isI_of hg).2.2 hi rfl hF ?_
      refine am_seg s_JA_fill_4 (y := (5, [(2, .int (a2 + (nI 1))), (0, .ref a0), (1, .int a1), (3, .int a3)], [], am_D (am_si τ a0 (a2.toNatClampNeg) a1))) hF t_s_JA_fill_4 rfl rfl ?_
      refine am_pick [1, 2, 0, 3] rfl ?_
      exact ih _ _ _ _ _ h
def JA_fill (τ : am_T) (a0 : Nat) (a1 : Int32) : Option (am_T) :=
  am_g (am_isI a0) (JA_fill_5 5000 τ a0 a1 (nI 0) (Int32.ofNat (am_sh a0).2))
set_option maxRecDepth 20000 in
theorem ok_JA_fill {X : am_X} {a0 : Nat} {a1 : Int32} {τ τ' : am_T} (hF : am_F X "java/util/Arrays" cJ7_fill_53178 4) (hR : am_R X 0 0) (hB : am_B X none none (am_D τ')) (h : JA_fill τ a0 a1 = some τ') : am_W X 4 (0, [(0, .ref a0), (1, .int a1)], [], am_D τ) := by
  unfold JA_fill at h
  refine am_seg s_JA_fill_0 (y := (3, [(2, .int (nI 0)), (0, .ref a0), (1, .int a1)], [.ref a0], am_D τ)) hF t_s_JA_fill_0 rfl rfl ?_
  refine am_gd h (fun hg h => ?_)
  refine am_alen d_J7_fill_53178_3 (am_isI_of hg).1 (am_isI_of hg).2.1 (am_isI_of hg).2.2 (by decide) (by decide) hF ?_
  refine am_seg s_JA_fill_1 (y := (5, [(3, .int (Int32.ofNat (am_sh a0).2)), (2, .int (nI 0)), (0, .ref a0), (1, .int a1)], [], am_D τ)) hF t_s_JA_fill_1 rfl rfl ?_
  refine am_pick [2, 3, 1, 0] rfl ?_
  exact ok_JA_fill_5 hF hR hB _ _ _ _ _ _ h
theorem c_JA_fill {a0 : Nat} {a1 : Int32} {τ τ' : am_T} (h : JA_fill τ a0 a1 = some τ') : am_C yJ7_fill_53178 cJ7_fill_53178 4 none 0 0 [.ref a0, .int a1] (am_D τ) none (am_D τ') :=
  am_enter (by decide +kernel) (Nat.le_of_ble_eq_true rfl) ⟨Nat.le_refl _, Nat.le_refl _⟩ (fun X hF hR hB => ok_JA_fill hF hR hB h)
def s_Ac_reckon_0 : List am_Q := [(0, .iconst 0, 0, 0, 0, .int (nI 0)), (1, .istore 4, 0, 0, 0, .null)]
theorem t_s_Ac_reckon_0 : s_Ac_reckon_0.all (am_ok 0 cX0_reckon) = true := by decide +kernel
def s_Ac_reckon_1 : List am_Q := [(3, .iload 4, 0, 0, 0, .null), (5, .bipush 8, 0, 0, 0, .int (nI 8))]
theorem t_s_Ac_reckon_1 : s_Ac_reckon_1.all (am_ok 0 cX0_reckon) = true := by decide +kernel
theorem d_X0_reckon_7 : decode cX0_reckon 7 = .ok (.if_icmp .ge 20, 3) := by decide +kernel
def s_Ac_reckon_2 : List am_Q := [(27, .iconst 0, 0, 0, 0, .int (nI 0)), (28, .istore 4, 0, 0, 0, .null)]
theorem t_s_Ac_reckon_2 : s_Ac_reckon_2.all (am_ok 0 cX0_reckon) = true := by decide +kernel
def s_Ac_reckon_3 : List am_Q := [(30, .iload 4, 0, 0, 0, .null), (32, .aload_n 1, 0, 0, 0, .null), (33, .getfield 32, 3, 4, 99, .null), (36, .getfield 38, 1, 5, 32, .null)]
theorem t_s_Ac_reckon_3 : s_Ac_reckon_3.all (am_ok 0 cX0_reckon) = true := by decide +kernel
theorem d_X0_reckon_39 : decode cX0_reckon 39 = .ok (.if_icmp .ge 38, 3) := by decide +kernel
theorem d_X0_reckon_77 : decode cX0_reckon 77 = .ok (.return_, 1) := by decide +kernel
def s_Ac_reckon_4 : List am_Q := [(42, .aload_n 1, 0, 0, 0, .null), (43, .getfield 32, 3, 4, 99, .null), (46, .iload 4, 0, 0, 0, .null), (48, .iload_n 3, 0, 0, 0, .null)]
theorem t_s_Ac_reckon_4 : s_Ac_reckon_4.all (am_ok 0 cX0_reckon) = true := by decide +kernel
theorem d_X0_reckon_49 : decode cX0_reckon 49 = .ok (.invokevirtual 44, 3) := by decide +kernel
theorem d_X0_reckon_52 : decode cX0_reckon 52 = .ok (.ifCond .eq 19, 3) := by decide +kernel
def s_Ac_reckon_5 : List am_Q := [(71, .iinc 4 1, 0, 0, 0, .int (nI 1)), (74, .goto (-44), 30, 0, 0, .null)]
theorem t_s_Ac_reckon_5 : s_Ac_reckon_5.all (am_ok 0 cX0_reckon) = true := by decide +kernel
def s_Ac_reckon_6 : List am_Q := [(55, .aload_n 2, 0, 0, 0, .null), (56, .aload_n 1, 0, 0, 0, .null), (57, .iload 4, 0, 0, 0, .null), (59, .iload_n 3, 0, 0, 0, .null)]
theorem t_s_Ac_reckon_6 : s_Ac_reckon_6.all (am_ok 0 cX0_reckon) = true := by decide +kernel
theorem d_X0_reckon_60 : decode cX0_reckon 60 = .ok (.invokevirtual 48, 3) := by decide +kernel
def s_Ac_reckon_7 : List am_Q := [(63, .aload_n 0, 0, 0, 0, .null), (64, .aload_n 1, 0, 0, 0, .null), (65, .aload_n 2, 0, 0, 0, .null), (66, .iload 4, 0, 0, 0, .null)]
theorem t_s_Ac_reckon_7 : s_Ac_reckon_7.all (am_ok 0 cX0_reckon) = true := by decide +kernel
theorem d_X0_reckon_68 : decode cX0_reckon 68 = .ok (.invokevirtual 54, 3) := by decide +kernel
def s_Ac_reckon_8 : List am_Q := [(71, .iinc 4 1, 0, 0, 0, .int (nI 1)), (74, .goto (-44), 30, 0, 0, .null)]
theorem t_s_Ac_reckon_8 : s_Ac_reckon_8.all (am_ok 0 cX0_reckon) = true := by decide +kernel
def s_Ac_reckon_9 : List am_Q := [(10, .aload_n 0, 0, 0, 0, .null), (11, .getfield 11, 0, 0, 141, .null), (14, .iload 4, 0, 0, 0, .null)]
theorem t_s_Ac_reckon_9 : s_Ac_reckon_9.all (am_ok 0 cX0_reckon) = true := by decide +kernel
theorem d_X0_reckon_16 : decode cX0_reckon 16 = .ok (.aaload, 1) := by decide +kernel
def s_Ac_reckon_10 : List am_Q := [(17, .iconst 0, 0, 0, 0, .int (nI 0))]
theorem t_s_Ac_reckon_10 : s_Ac_reckon_10.all (am_ok 0 cX0_reckon) = true := by decide +kernel
theorem d_X0_reckon_18 : decode cX0_reckon 18 = .ok (.invokestatic 26, 3) := by decide +kernel
def s_Ac_reckon_11 : List am_Q := [(21, .iinc 4 1, 0, 0, 0, .int (nI 1)), (24, .goto (-21), 3, 0, 0, .null)]
theorem t_s_Ac_reckon_11 : s_Ac_reckon_11.all (am_ok 0 cX0_reckon) = true := by decide +kernel
def Ac_reckon_30 : Nat → am_T → Int32 → Int32 → Option (am_T)
  | 0, _, _, _ => none
  | n + 1, τ, a3, a4 =>
    if (τ.1 25 5) ≤ a4 then
  (some τ)
else
  ((Co_isKnown τ a4 a3).bind (fun x1 =>
  if x1.1 = 0 then
  ((Ac_reckon_30 n) x1.2 a3 (a4 + (nI 1)))
else
  ((Pa_divide x1.2 a4 a3).bind (fun x2 =>
  (Ac_addParts x2 a4).bind (fun x3 =>
  (Ac_reckon_30 n) x3 a3 (a4 + (nI 1)))))))
set_option maxRecDepth 20000 in
theorem ok_Ac_reckon_30 {X : am_X} {τ' : am_T} (hF : am_F X "ShareHouse$Accounts" cX0_reckon 5) (hR : am_R X 5 135) (hB : am_B X none none (am_D τ')) : ∀ (n : Nat) (τ : am_T) (a3 : Int32) (a4 : Int32), Ac_reckon_30 n τ a3 a4 = some τ' → am_W X 5 (30, [(0, .ref 127), (1, .ref 1), (2, .ref 121), (3, .int a3), (4, .int a4)], [], am_D τ) := by
  intro n
  induction n with
  | zero => intro τ a3 a4 h; unfold Ac_reckon_30 at h; cases h
  | succ n ih =>
    intro τ a3 a4 h
    unfold Ac_reckon_30 at h
    refine am_seg s_Ac_reckon_3 (y := (39, [(0, .ref 127), (1, .ref 1), (2, .ref 121), (3, .int a3), (4, .int a4)], [.int (τ.1 25 5), .int a4], am_D τ)) hF t_s_Ac_reckon_3 rfl rfl ?_
    refine am_ite h (fun hc h => ?_) (fun hc h => ?_)
    · refine am_icmp_ge_t (t := 77) d_X0_reckon_39 (by decide) hc hF ?_
      obtain rfl := am_one h
      exact am_vret d_X0_reckon_77 hF hB
    · refine am_icmp_ge_f (t := 77) d_X0_reckon_39 (by decide) hc hF ?_
      refine am_seg s_Ac_reckon_4 (y := (49, [(0, .ref 127), (1, .ref 1), (2, .ref 121), (3, .int a3), (4, .int a4)], [.int a3, .int a4, .ref 25], am_D τ)) hF t_s_Ac_reckon_4 rfl rfl ?_
      refine am_bd h (fun x1 hx h => ?_)
      refine am_callV (As := [.int a4, .int a3]) (r := (some (.int x1.1))) (st := []) (σ' := am_D x1.2) (ci := 1) hF hR d_X0_reckon_49 (c_Co_isKnown (τ' := x1.2) hx) (Nat.le_refl _) (Nat.le_refl _) wl_Ac_44 wi_yX1_isKnown we_yX1_isKnown wn_ShareHouse_Costs wc_yX1_isKnown (Nat.le_of_ble_eq_true rfl) (Nat.le_of_ble_eq_true rfl) rfl rfl wy_yX1_isKnown rfl ⟨by decide, by decide⟩ (Nat.le_of_ble_eq_true rfl) ?_
      refine am_ite h (fun hc h => ?_) (fun hc h => ?_)
      · refine am_if_eq_t (t := 71) d_X0_reckon_52 (by decide) hc hF ?_
        refine am_seg s_Ac_reckon_5 (y := (30, [(4, .int (a4 + (nI 1))), (0, .ref 127), (1, .ref 1), (2, .ref 121), (3, .int a3)], [], am_D x1.2)) hF t_s_Ac_reckon_5 rfl rfl ?_
        refine am_pick [1, 2, 3, 4, 0] rfl ?_
        exact ih _ _ _ h
      · refine am_if_eq_f (t := 71) d_X0_reckon_52 (by decide) hc hF ?_
        refine am_seg s_Ac_reckon_6 (y := (60, [(0, .ref 127), (1, .ref 1), (2, .ref 121), (3, .int a3), (4, .int a4)], [.int a3, .int a4, .ref 1, .ref 121], am_D x1.2)) hF t_s_Ac_reckon_6 rfl rfl ?_
        refine am_bd h (fun x2 hx h => ?_)
        refine am_callV (As := [.ref 1, .int a4, .int a3]) (r := none) (st := []) (σ' := am_D x2) (ci := 6) hF hR d_X0_reckon_60 (c_Pa_divide (τ' := x2) hx) (Nat.le_refl _) (Nat.le_refl _) wl_Ac_48 wi_yX6_divide we_yX6_divide wn_ShareHouse_Parting wc_yX6_divide (Nat.le_of_ble_eq_true rfl) (Nat.le_of_ble_eq_true rfl) rfl rfl wy_yX6_divide rfl ⟨by decide, by decide⟩ (Nat.le_of_ble_eq_true rfl) ?_
        refine am_seg s_Ac_reckon_7 (y := (68, [(0, .ref 127), (1, .ref 1), (2, .ref 121), (3, .int a3), (4, .int a4)], [.int a4, .ref 121, .ref 1, .ref 127], am_D x2)) hF t_s_Ac_reckon_7 rfl rfl ?_
        refine am_bd h (fun x3 hx h => ?_)
        refine am_callV (As := [.ref 1, .ref 121, .int a4]) (r := none) (st := []) (σ' := am_D x3) (ci := 0) hF hR d_X0_reckon_68 (c_Ac_addParts (τ' := x3) hx) (Nat.le_refl _) (Nat.le_refl _) wl_Ac_54 wi_yX0_addParts we_yX0_addParts wn_ShareHouse_Accounts wc_yX0_addParts (Nat.le_of_ble_eq_true rfl) (Nat.le_of_ble_eq_true rfl) rfl rfl wy_yX0_addParts rfl ⟨by decide, by decide⟩ (Nat.le_of_ble_eq_true rfl) ?_
        refine am_seg s_Ac_reckon_8 (y := (30, [(4, .int (a4 + (nI 1))), (0, .ref 127), (1, .ref 1), (2, .ref 121), (3, .int a3)], [], am_D x3)) hF t_s_Ac_reckon_8 rfl rfl ?_
        refine am_pick [1, 2, 3, 4, 0] rfl ?_
        exact ih _ _ _ h
def Ac_reckon_3 : Nat → am_T → Int32 → Int32 → Option (am_T)
  | 0, _, _, _ => none
  | n + 1, τ, a3, a4 =>
    if (nI 8) ≤ a4 then
  (Ac_reckon_30 5000 τ a3 (nI 0))
else
  (am_g (am_in a4 8) ((am_RF 128 (a4.toNatClampNeg)).bind (fun q4 =>
  (JA_fill τ q4 (nI 0)).bind (fun x5 =>
  (Ac_reckon_3 n) x5 a3 (a4 + (nI 1))))))
set_option maxRecDepth 20000 in
theorem ok_Ac_reckon_3 {X : am_X} {τ' : am_T} (hF : am_F X "ShareHouse$Accounts" cX0_reckon 5) (hR : am_R X 5 135) (hB : am_B X none none (am_D τ')) : ∀ (n : Nat) (τ : am_T) (a3 : Int32) (a4 : Int32), Ac_reckon_3 n τ a3 a4 = some τ' → am_W X 5 (3, [(0, .ref 127), (1, .ref 1), (2, .ref 121), (3, .int a3), (4, .int a4)], [], am_D τ) := by
  intro n
  induction n with
  | zero => intro τ a3 a4 h; unfold Ac_reckon_3 at h; cases h
  | succ n ih =>
    intro τ a3 a4 h
    unfold Ac_reckon_3 at h
    refine am_seg s_Ac_reckon_1 (y := (7, [(0, .ref 127), (1, .ref 1), (2, .ref 121), (3, .int a3), (4, .int a4)], [.int (nI 8), .int a4], am_D τ)) hF t_s_Ac_reckon_1 rfl rfl ?_
    refine am_ite h (fun hc h => ?_) (fun hc h => ?_)
    · refine am_icmp_ge_t (t := 27) d_X0_reckon_7 (by decide) hc hF ?_
      refine am_seg s_Ac_reckon_2 (y := (30, [(4, .int (nI 0)), (0, .ref 127), (1, .ref 1), (2, .ref 121), (3, .int a3)], [], am_D τ)) hF t_s_Ac_reckon_2 rfl rfl ?_
      refine am_pick [1, 2, 3, 4, 0] rfl ?_
      exact ok_Ac_reckon_30 hF hR hB _ _ _ _ h
    · refine am_icmp_ge_f (t := 27) d_X0_reckon_7 (by decide) hc hF ?_
      refine am_seg s_Ac_reckon_9 (y := (16, [(0, .ref 127), (1, .ref 1), (2, .ref 121), (3, .int a3), (4, .int a4)], [.int a4, .ref 128], am_D τ)) hF t_s_Ac_reckon_9 rfl rfl ?_
      refine am_gd h (fun hi h => ?_)
      refine am_bd h (fun q4 hq h => ?_)
      refine am_rald (n := 8) (j := (a4.toNatClampNeg)) (q := q4) d_X0_reckon_16 (Nat.le_of_ble_eq_true rfl) (Nat.le_of_ble_eq_true rfl) rfl hi rfl hq hF ?_
      refine am_seg s_Ac_reckon_10 (y := (18, [(0, .ref 127), (1, .ref 1), (2, .ref 121), (3, .int a3), (4, .int a4)], [.int (nI 0), .ref q4], am_D τ)) hF t_s_Ac_reckon_10 rfl rfl ?_
      refine am_bd h (fun x5 hx h => ?_)
      refine am_callS (As := [.ref q4, .int (nI 0)]) (r := none) (st := []) (σ' := am_D x5) hF hR d_X0_reckon_18 (c_JA_fill (τ' := x5) hx) (Nat.le_refl _) (Nat.le_refl _) wl_Ac_26 ws_yJ7_fill_53178 wn_java_util_Arrays wc_yJ7_fill_53178 wy_yJ7_fill_53178 rfl ⟨by decide, by decide⟩ (Nat.le_of_ble_eq_true rfl) ?_
      refine am_seg s_Ac_reckon_11 (y := (3, [(4, .int (a4 + (nI 1))), (0, .ref 127), (1, .ref 1), (2, .ref 121), (3, .int a3)], [], am_D x5)) hF t_s_Ac_reckon_11 rfl rfl ?_
      refine am_pick [1, 2, 3, 4, 0] rfl ?_
      exact ih _ _ _ h
def Ac_reckon (τ : am_T) (a3 : Int32) : Option (am_T) :=
  Ac_reckon_3 5000 τ a3 (nI 0)
set_option maxRecDepth 20000 in
theorem ok_Ac_reckon {X : am_X} {a3 : Int32} {τ τ' : am_T} (hF : am_F X "ShareHouse$Accounts" cX0_reckon 5) (hR : am_R X 5 135) (hB : am_B X none none (am_D τ')) (h : Ac_reckon τ a3 = some τ') : am_W X 5 (0, [(0, .ref 127), (1, .ref 1), (2, .ref 121), (3, .int a3)], [], am_D τ) := by
  unfold Ac_reckon at h
  refine am_seg s_Ac_reckon_0 (y := (3, [(4, .int (nI 0)), (0, .ref 127), (1, .ref 1), (2, .ref 121), (3, .int a3)], [], am_D τ)) hF t_s_Ac_reckon_0 rfl rfl ?_
  refine am_pick [1, 2, 3, 4, 0] rfl ?_
  exact ok_Ac_reckon_3 hF hR hB _ _ _ _ h
theorem c_Ac_reckon {a3 : Int32} {τ τ' : am_T} (h : Ac_reckon τ a3 = some τ') : am_C yX0_reckon cX0_reckon 5 none 5 135 [.ref 127, .ref 1, .ref 121, .int a3] (am_D τ) none (am_D τ') :=
  am_enter (by decide +kernel) (Nat.le_of_ble_eq_true rfl) ⟨Nat.le_refl _, Nat.le_refl _⟩ (fun X hF hR hB => ok_Ac_reckon hF hR hB h)
def s_Ac_billOf_0 : List am_Q := [(0, .iconst 0, 0, 0, 0, .int (nI 0)), (1, .istore_n 2, 0, 0, 0, .null), (2, .iconst 0, 0, 0, 0, .int (nI 0)), (3, .istore_n 3, 0, 0, 0, .null)]
theorem t_s_Ac_billOf_0 : s_Ac_billOf_0.all (am_ok 0 cX0_billOf) = true := by decide +kernel
def s_Ac_billOf_1 : List am_Q := [(4, .iload_n 3, 0, 0, 0, .null), (5, .bipush 20, 0, 0, 0, .int (nI 20))]
theorem t_s_Ac_billOf_1 : s_Ac_billOf_1.all (am_ok 0 cX0_billOf) = true := by decide +kernel
theorem d_X0_billOf_7 : decode cX0_billOf 7 = .ok (.if_icmp .ge 20, 3) := by decide +kernel
def s_Ac_billOf_2 : List am_Q := [(27, .iload_n 2, 0, 0, 0, .null)]
theorem t_s_Ac_billOf_2 : s_Ac_billOf_2.all (am_ok 0 cX0_billOf) = true := by decide +kernel
theorem d_X0_billOf_28 : decode cX0_billOf 28 = .ok (.ireturn, 1) := by decide +kernel
def s_Ac_billOf_3 : List am_Q := [(10, .iload_n 2, 0, 0, 0, .null), (11, .aload_n 0, 0, 0, 0, .null), (12, .getfield 11, 0, 0, 141, .null), (15, .iload_n 1, 0, 0, 0, .null)]
theorem t_s_Ac_billOf_3 : s_Ac_billOf_3.all (am_ok 0 cX0_billOf) = true := by decide +kernel
theorem d_X0_billOf_16 : decode cX0_billOf 16 = .ok (.aaload, 1) := by decide +kernel
def s_Ac_billOf_4 : List am_Q := [(17, .iload_n 3, 0, 0, 0, .null)]
theorem t_s_Ac_billOf_4 : s_Ac_billOf_4.all (am_ok 0 cX0_billOf) = true := by decide +kernel
theorem d_X0_billOf_18 : decode cX0_billOf 18 = .ok (.iaload, 1) := by decide +kernel
def s_Ac_billOf_5 : List am_Q := [(19, .iadd, 0, 0, 0, .null), (20, .istore_n 2, 0, 0, 0, .null), (21, .iinc 3 1, 0, 0, 0, .int (nI 1)), (24, .goto (-20), 4, 0, 0, .null)]
theorem t_s_Ac_billOf_5 : s_Ac_billOf_5.all (am_ok 0 cX0_billOf) = true := by decide +kernel
def Ac_billOf_4 : Nat → am_T → Int32 → Int32 → Int32 → Option (Int32 × am_T)
  | 0, _, _, _, _ => none
  | n + 1, τ, a1, a2, a3 =>
    if (nI 20) ≤ a3 then
  (some (a2, τ))
else
  (am_g (am_in a1 8) ((am_RF 128 (a1.toNatClampNeg)).bind (fun q1 =>
  am_g (am_isI q1) (am_g (am_in a3 (am_sh q1).2) ((Ac_billOf_4 n) τ a1 (a2 + (τ.1 q1 (a3.toNatClampNeg))) (a3 + (nI 1)))))))
set_option maxRecDepth 20000 in
theorem ok_Ac_billOf_4 {X : am_X} {v : Int32} {τ' : am_T} (hF : am_F X "ShareHouse$Accounts" cX0_billOf 4) (hR : am_R X 0 0) (hB : am_B X (some .int) (some (.int v)) (am_D τ')) : ∀ (n : Nat) (τ : am_T) (a1 : Int32) (a2 : Int32) (a3 : Int32), Ac_billOf_4 n τ a1 a2 a3 = some (v, τ') → am_W X 4 (4, [(0, .ref 127), (1, .int a1), (2, .int a2), (3, .int a3)], [], am_D τ) := by
  intro n
  induction n with
  | zero => intro τ a1 a2 a3 h; unfold Ac_billOf_4 at h; cases h
  | succ n ih =>
    intro τ a1 a2 a3 h
    unfold Ac_billOf_4 at h
    refine am_seg s_Ac_billOf_1 (y := (7, [(0, .ref 127), (1, .int a1), (2, .int a2), (3, .int a3)], [.int (nI 20), .int a3], am_D τ)) hF t_s_Ac_billOf_1 rfl rfl ?_
    refine am_ite h (fun hc h => ?_) (fun hc h => ?_)
    · refine am_icmp_ge_t (t := 27) d_X0_billOf_7 (by decide) hc hF ?_
      refine am_seg s_Ac_billOf_2 (y := (28, [(0, .ref 127), (1, .int a1), (2, .int a2), (3, .int a3)], [.int a2], am_D τ)) hF t_s_Ac_billOf_2 rfl rfl ?_
      obtain ⟨rfl, rfl⟩ := am_pair h
      exact am_iret d_X0_billOf_28 hF hB
    · refine am_icmp_ge_f (t := 27) d_X0_billOf_7 (by decide) hc hF ?_
      refine am_seg s_Ac_billOf_3 (y := (16, [(0, .ref 127), (1, .int a1), (2, .int a2), (3, .int a3)], [.int a1, .ref 128, .int a2], am_D τ)) hF t_s_Ac_billOf_3 rfl rfl ?_
      refine am_gd h (fun hi h => ?_)
      refine am_bd h (fun q1 hq h => ?_)
      refine am_rald (n := 8) (j := (a1.toNatClampNeg)) (q := q1) d_X0_billOf_16 (Nat.le_of_ble_eq_true rfl) (Nat.le_of_ble_eq_true rfl) rfl hi rfl hq hF ?_
      refine am_seg s_Ac_billOf_4 (y := (18, [(0, .ref 127), (1, .int a1), (2, .int a2), (3, .int a3)], [.int a3, .ref q1, .int a2], am_D τ)) hF t_s_Ac_billOf_4 rfl rfl ?_
      refine am_gd h (fun hg h => ?_)
      refine am_gd h (fun hi h => ?_)
      refine am_iald (n := (am_sh q1).2) (j := (a3.toNatClampNeg)) d_X0_billOf_18 (am_isI_of hg).1 (am_isI_of hg).2.1 (am_isI_of hg).2.2 hi rfl hF ?_
      refine am_seg s_Ac_billOf_5 (y := (4, [(3, .int (a3 + (nI 1))), (2, .int (a2 + (τ.1 q1 (a3.toNatClampNeg)))), (0, .ref 127), (1, .int a1)], [], am_D τ)) hF t_s_Ac_billOf_5 rfl rfl ?_
      refine am_pick [2, 3, 1, 0] rfl ?_
      exact ih _ _ _ _ h
def Ac_billOf (τ : am_T) (a1 : Int32) : Option (Int32 × am_T) :=
  Ac_billOf_4 5000 τ a1 (nI 0) (nI 0)
set_option maxRecDepth 20000 in
theorem ok_Ac_billOf {X : am_X} {a1 : Int32} {v : Int32} {τ τ' : am_T} (hF : am_F X "ShareHouse$Accounts" cX0_billOf 4) (hR : am_R X 0 0) (hB : am_B X (some .int) (some (.int v)) (am_D τ')) (h : Ac_billOf τ a1 = some (v, τ')) : am_W X 4 (0, [(0, .ref 127), (1, .int a1)], [], am_D τ) := by
  unfold Ac_billOf at h
  refine am_seg s_Ac_billOf_0 (y := (4, [(3, .int (nI 0)), (2, .int (nI 0)), (0, .ref 127), (1, .int a1)], [], am_D τ)) hF t_s_Ac_billOf_0 rfl rfl ?_
  refine am_pick [2, 3, 1, 0] rfl ?_
  exact ok_Ac_billOf_4 hF hR hB _ _ _ _ _ h
theorem c_Ac_billOf {a1 : Int32} {v : Int32} {τ τ' : am_T} (h : Ac_billOf τ a1 = some (v, τ')) : am_C yX0_billOf cX0_billOf 4 (some .int) 0 0 [.ref 127, .int a1] (am_D τ) (some (.int v)) (am_D τ') :=
  am_enter (by decide +kernel) (Nat.le_of_ble_eq_true rfl) ⟨Nat.le_refl _, Nat.le_refl _⟩ (fun X hF hR hB => ok_Ac_billOf hF hR hB h)
def s_Ow_paidBy_0 : List am_Q := [(0, .iconst 0, 0, 0, 0, .int (nI 0)), (1, .istore_n 3, 0, 0, 0, .null), (2, .iconst 0, 0, 0, 0, .int (nI 0)), (3, .istore 4, 0, 0, 0, .null)]
theorem t_s_Ow_paidBy_0 : s_Ow_paidBy_0.all (am_ok 5 cX5_paidBy) = true := by decide +kernel
def s_Ow_paidBy_1 : List am_Q := [(5, .iload 4, 0, 0, 0, .null), (7, .aload_n 0, 0, 0, 0, .null), (8, .getfield 38, 5, 7, 51, .null)]
theorem t_s_Ow_paidBy_1 : s_Ow_paidBy_1.all (am_ok 5 cX5_paidBy) = true := by decide +kernel
theorem d_X5_paidBy_11 : decode cX5_paidBy 11 = .ok (.if_icmp .ge 41, 3) := by decide +kernel
def s_Ow_paidBy_2 : List am_Q := [(52, .iload_n 3, 0, 0, 0, .null)]
theorem t_s_Ow_paidBy_2 : s_Ow_paidBy_2.all (am_ok 5 cX5_paidBy) = true := by decide +kernel
theorem d_X5_paidBy_53 : decode cX5_paidBy 53 = .ok (.ireturn, 1) := by decide +kernel
def s_Ow_paidBy_3 : List am_Q := [(14, .aload_n 0, 0, 0, 0, .null), (15, .getfield 21, 5, 4, 45, .null), (18, .iload 4, 0, 0, 0, .null)]
theorem t_s_Ow_paidBy_3 : s_Ow_paidBy_3.all (am_ok 5 cX5_paidBy) = true := by decide +kernel
theorem d_X5_paidBy_20 : decode cX5_paidBy 20 = .ok (.iaload, 1) := by decide +kernel
def s_Ow_paidBy_4 : List am_Q := [(21, .iload_n 1, 0, 0, 0, .null)]
theorem t_s_Ow_paidBy_4 : s_Ow_paidBy_4.all (am_ok 5 cX5_paidBy) = true := by decide +kernel
theorem d_X5_paidBy_22 : decode cX5_paidBy 22 = .ok (.if_icmp .ne 24, 3) := by decide +kernel
def s_Ow_paidBy_5 : List am_Q := [(46, .iinc 4 1, 0, 0, 0, .int (nI 1)), (49, .goto (-44), 5, 0, 0, .null)]
theorem t_s_Ow_paidBy_5 : s_Ow_paidBy_5.all (am_ok 5 cX5_paidBy) = true := by decide +kernel
def s_Ow_paidBy_6 : List am_Q := [(25, .aload_n 0, 0, 0, 0, .null), (26, .getfield 27, 5, 6, 49, .null), (29, .iload 4, 0, 0, 0, .null)]
theorem t_s_Ow_paidBy_6 : s_Ow_paidBy_6.all (am_ok 5 cX5_paidBy) = true := by decide +kernel
theorem d_X5_paidBy_31 : decode cX5_paidBy 31 = .ok (.iaload, 1) := by decide +kernel
def s_Ow_paidBy_7 : List am_Q := [(32, .iload_n 2, 0, 0, 0, .null)]
theorem t_s_Ow_paidBy_7 : s_Ow_paidBy_7.all (am_ok 5 cX5_paidBy) = true := by decide +kernel
theorem d_X5_paidBy_33 : decode cX5_paidBy 33 = .ok (.if_icmp .gt 13, 3) := by decide +kernel
def s_Ow_paidBy_8 : List am_Q := [(46, .iinc 4 1, 0, 0, 0, .int (nI 1)), (49, .goto (-44), 5, 0, 0, .null)]
theorem t_s_Ow_paidBy_8 : s_Ow_paidBy_8.all (am_ok 5 cX5_paidBy) = true := by decide +kernel
def s_Ow_paidBy_9 : List am_Q := [(36, .iload_n 3, 0, 0, 0, .null), (37, .aload_n 0, 0, 0, 0, .null), (38, .getfield 24, 5, 5, 47, .null), (41, .iload 4, 0, 0, 0, .null)]
theorem t_s_Ow_paidBy_9 : s_Ow_paidBy_9.all (am_ok 5 cX5_paidBy) = true := by decide +kernel
theorem d_X5_paidBy_43 : decode cX5_paidBy 43 = .ok (.iaload, 1) := by decide +kernel
def s_Ow_paidBy_10 : List am_Q := [(44, .iadd, 0, 0, 0, .null), (45, .istore_n 3, 0, 0, 0, .null), (46, .iinc 4 1, 0, 0, 0, .int (nI 1)), (49, .goto (-44), 5, 0, 0, .null)]
theorem t_s_Ow_paidBy_10 : s_Ow_paidBy_10.all (am_ok 5 cX5_paidBy) = true := by decide +kernel
def Ow_paidBy_5 : Nat → am_T → Int32 → Int32 → Int32 → Int32 → Option (Int32 × am_T)
  | 0, _, _, _, _, _ => none
  | n + 1, τ, a1, a2, a3, a4 =>
    if (τ.1 34 7) ≤ a4 then
  (some (a3, τ))
else
  (am_g (am_in a4 20) (if (τ.1 38 (a4.toNatClampNeg)) = a1 then
  (am_g (am_in a4 20) (if a2 < (τ.1 40 (a4.toNatClampNeg)) then
  ((Ow_paidBy_5 n) τ a1 a2 a3 (a4 + (nI 1)))
else
  (am_g (am_in a4 20) ((Ow_paidBy_5 n) τ a1 a2 (a3 + (τ.1 39 (a4.toNatClampNeg))) (a4 + (nI 1))))))
else
  ((Ow_paidBy_5 n) τ a1 a2 a3 (a4 + (nI 1)))))
set_option maxRecDepth 20000 in
theorem ok_Ow_paidBy_5 {X : am_X} {v : Int32} {τ' : am_T} (hF : am_F X "ShareHouse$Owners" cX5_paidBy 5) (hR : am_R X 0 0) (hB : am_B X (some .int) (some (.int v)) (am_D τ')) : ∀ (n : Nat) (τ : am_T) (a1 : Int32) (a2 : Int32) (a3 : Int32) (a4 : Int32), Ow_paidBy_5 n τ a1 a2 a3 a4 = some (v, τ') → am_W X 5 (5, [(0, .ref 34), (1, .int a1), (2, .int a2), (3, .int a3), (4, .int a4)], [], am_D τ) := by
  intro n
  induction n with
  | zero => intro τ a1 a2 a3 a4 h; unfold Ow_paidBy_5 at h; cases h
  | succ n ih =>
    intro τ a1 a2 a3 a4 h
    unfold Ow_paidBy_5 at h
    refine am_seg s_Ow_paidBy_1 (y := (11, [(0, .ref 34), (1, .int a1), (2, .int a2), (3, .int a3), (4, .int a4)], [.int (τ.1 34 7), .int a4], am_D τ)) hF t_s_Ow_paidBy_1 rfl rfl ?_
    refine am_ite h (fun hc h => ?_) (fun hc h => ?_)
    · refine am_icmp_ge_t (t := 52) d_X5_paidBy_11 (by decide) hc hF ?_
      refine am_seg s_Ow_paidBy_2 (y := (53, [(0, .ref 34), (1, .int a1), (2, .int a2), (3, .int a3), (4, .int a4)], [.int a3], am_D τ)) hF t_s_Ow_paidBy_2 rfl rfl ?_
      obtain ⟨rfl, rfl⟩ := am_pair h
      exact am_iret d_X5_paidBy_53 hF hB
    · refine am_icmp_ge_f (t := 52) d_X5_paidBy_11 (by decide) hc hF ?_
      refine am_seg s_Ow_paidBy_3 (y := (20, [(0, .ref 34), (1, .int a1), (2, .int a2), (3, .int a3), (4, .int a4)], [.int a4, .ref 38], am_D τ)) hF t_s_Ow_paidBy_3 rfl rfl ?_
      refine am_gd h (fun hi h => ?_)
      refine am_iald (n := 20) (j := (a4.toNatClampNeg)) d_X5_paidBy_20 (Nat.le_of_ble_eq_true rfl) (Nat.le_of_ble_eq_true rfl) rfl hi rfl hF ?_
      refine am_seg s_Ow_paidBy_4 (y := (22, [(0, .ref 34), (1, .int a1), (2, .int a2), (3, .int a3), (4, .int a4)], [.int a1, .int (τ.1 38 (a4.toNatClampNeg))], am_D τ)) hF t_s_Ow_paidBy_4 rfl rfl ?_
      refine am_ite h (fun hc h => ?_) (fun hc h => ?_)
      · refine am_icmp_ne_f (t := 46) d_X5_paidBy_22 (by decide) hc hF ?_
        refine am_seg s_Ow_paidBy_6 (y := (31, [(0, .ref 34), (1, .int a1), (2, .int a2), (3, .int a3), (4, .int a4)], [.int a4, .ref 40], am_D τ)) hF t_s_Ow_paidBy_6 rfl rfl ?_
        refine am_gd h (fun hi h => ?_)
        refine am_iald (n := 20) (j := (a4.toNatClampNeg)) d_X5_paidBy_31 (Nat.le_of_ble_eq_true rfl) (Nat.le_of_ble_eq_true rfl) rfl hi rfl hF ?_
        refine am_seg s_Ow_paidBy_7 (y := (33, [(0, .ref 34), (1, .int a1), (2, .int a2), (3, .int a3), (4, .int a4)], [.int a2, .int (τ.1 40 (a4.toNatClampNeg))], am_D τ)) hF t_s_Ow_paidBy_7 rfl rfl ?_
        refine am_ite h (fun hc h => ?_) (fun hc h => ?_)
        · refine am_icmp_gt_t (t := 46) d_X5_paidBy_33 (by decide) hc hF ?_
          refine am_seg s_Ow_paidBy_8 (y := (5, [(4, .int (a4 + (nI 1))), (0, .ref 34), (1, .int a1), (2, .int a2), (3, .int a3)], [], am_D τ)) hF t_s_Ow_paidBy_8 rfl rfl ?_
          refine am_pick [1, 2, 3, 4, 0] rfl ?_
          exact ih _ _ _ _ _ h
        · refine am_icmp_gt_f (t := 46) d_X5_paidBy_33 (by decide) hc hF ?_
          refine am_seg s_Ow_paidBy_9 (y := (43, [(0, .ref 34), (1, .int a1), (2, .int a2), (3, .int a3), (4, .int a4)], [.int a4, .ref 39, .int a3], am_D τ)) hF t_s_Ow_paidBy_9 rfl rfl ?_
          refine am_gd h (fun hi h => ?_)
          refine am_iald (n := 20) (j := (a4.toNatClampNeg)) d_X5_paidBy_43 (Nat.le_of_ble_eq_true rfl) (Nat.le_of_ble_eq_true rfl) rfl hi rfl hF ?_
          refine am_seg s_Ow_paidBy_10 (y := (5, [(4, .int (a4 + (nI 1))), (3, .int (a3 + (τ.1 39 (a4.toNatClampNeg)))), (0, .ref 34), (1, .int a1), (2, .int a2)], [], am_D τ)) hF t_s_Ow_paidBy_10 rfl rfl ?_
          refine am_pick [2, 3, 4, 1, 0] rfl ?_
          exact ih _ _ _ _ _ h
      · refine am_icmp_ne_t (t := 46) d_X5_paidBy_22 (by decide) hc hF ?_
        refine am_seg s_Ow_paidBy_5 (y := (5, [(4, .int (a4 + (nI 1))), (0, .ref 34), (1, .int a1), (2, .int a2), (3, .int a3)], [], am_D τ)) hF t_s_Ow_paidBy_5 rfl rfl ?_
        refine am_pick [1, 2, 3, 4, 0] rfl ?_
        exact ih _ _ _ _ _ h
def Ow_paidBy (τ : am_T) (a1 : Int32) (a2 : Int32) : Option (Int32 × am_T) :=
  Ow_paidBy_5 5000 τ a1 a2 (nI 0) (nI 0)
set_option maxRecDepth 20000 in
theorem ok_Ow_paidBy {X : am_X} {a1 : Int32} {a2 : Int32} {v : Int32} {τ τ' : am_T} (hF : am_F X "ShareHouse$Owners" cX5_paidBy 5) (hR : am_R X 0 0) (hB : am_B X (some .int) (some (.int v)) (am_D τ')) (h : Ow_paidBy τ a1 a2 = some (v, τ')) : am_W X 5 (0, [(0, .ref 34), (1, .int a1), (2, .int a2)], [], am_D τ) := by
  unfold Ow_paidBy at h
  refine am_seg s_Ow_paidBy_0 (y := (5, [(4, .int (nI 0)), (3, .int (nI 0)), (0, .ref 34), (1, .int a1), (2, .int a2)], [], am_D τ)) hF t_s_Ow_paidBy_0 rfl rfl ?_
  refine am_pick [2, 3, 4, 1, 0] rfl ?_
  exact ok_Ow_paidBy_5 hF hR hB _ _ _ _ _ _ h
theorem c_Ow_paidBy {a1 : Int32} {a2 : Int32} {v : Int32} {τ τ' : am_T} (h : Ow_paidBy τ a1 a2 = some (v, τ')) : am_C yX5_paidBy cX5_paidBy 5 (some .int) 0 0 [.ref 34, .int a1, .int a2] (am_D τ) (some (.int v)) (am_D τ') :=
  am_enter (by decide +kernel) (Nat.le_of_ble_eq_true rfl) ⟨Nat.le_refl _, Nat.le_refl _⟩ (fun X hF hR hB => ok_Ow_paidBy hF hR hB h)
def s_Ac_balanceOf_0 : List am_Q := [(0, .aload_n 0, 0, 0, 0, .null), (1, .iload_n 2, 0, 0, 0, .null)]
theorem t_s_Ac_balanceOf_0 : s_Ac_balanceOf_0.all (am_ok 0 cX0_balanceOf) = true := by decide +kernel
theorem d_X0_balanceOf_2 : decode cX0_balanceOf 2 = .ok (.invokevirtual 85, 3) := by decide +kernel
def s_Ac_balanceOf_1 : List am_Q := [(5, .aload_n 1, 0, 0, 0, .null), (6, .getfield 65, 3, 5, 103, .null), (9, .iload_n 2, 0, 0, 0, .null), (10, .iload_n 3, 0, 0, 0, .null)]
theorem t_s_Ac_balanceOf_1 : s_Ac_balanceOf_1.all (am_ok 0 cX0_balanceOf) = true := by decide +kernel
theorem d_X0_balanceOf_11 : decode cX0_balanceOf 11 = .ok (.invokevirtual 89, 3) := by decide +kernel
def s_Ac_balanceOf_2 : List am_Q := [(14, .isub, 0, 0, 0, .null)]
theorem t_s_Ac_balanceOf_2 : s_Ac_balanceOf_2.all (am_ok 0 cX0_balanceOf) = true := by decide +kernel
theorem d_X0_balanceOf_15 : decode cX0_balanceOf 15 = .ok (.ireturn, 1) := by decide +kernel
def Ac_balanceOf (τ : am_T) (a2 : Int32) (a3 : Int32) : Option (Int32 × am_T) :=
  (Ac_billOf τ a2).bind (fun x1 =>
  (Ow_paidBy x1.2 a2 a3).bind (fun x2 =>
  some ((x1.1 - x2.1), x2.2)))
set_option maxRecDepth 20000 in
theorem ok_Ac_balanceOf {X : am_X} {a2 : Int32} {a3 : Int32} {v : Int32} {τ τ' : am_T} (hF : am_F X "ShareHouse$Accounts" cX0_balanceOf 4) (hR : am_R X 1 24) (hB : am_B X (some .int) (some (.int v)) (am_D τ')) (h : Ac_balanceOf τ a2 a3 = some (v, τ')) : am_W X 4 (0, [(0, .ref 127), (1, .ref 1), (2, .int a2), (3, .int a3)], [], am_D τ) := by
  unfold Ac_balanceOf at h
  refine am_seg s_Ac_balanceOf_0 (y := (2, [(0, .ref 127), (1, .ref 1), (2, .int a2), (3, .int a3)], [.int a2, .ref 127], am_D τ)) hF t_s_Ac_balanceOf_0 rfl rfl ?_
  refine am_bd h (fun x1 hx h => ?_)
  refine am_callV (As := [.int a2]) (r := (some (.int x1.1))) (st := []) (σ' := am_D x1.2) (ci := 0) hF hR d_X0_balanceOf_2 (c_Ac_billOf (τ' := x1.2) hx) (Nat.le_refl _) (Nat.le_refl _) wl_Ac_85 wi_yX0_billOf we_yX0_billOf wn_ShareHouse_Accounts wc_yX0_billOf (Nat.le_of_ble_eq_true rfl) (Nat.le_of_ble_eq_true rfl) rfl rfl wy_yX0_billOf rfl ⟨by decide, by decide⟩ (Nat.le_of_ble_eq_true rfl) ?_
  refine am_seg s_Ac_balanceOf_1 (y := (11, [(0, .ref 127), (1, .ref 1), (2, .int a2), (3, .int a3)], [.int a3, .int a2, .ref 34, .int x1.1], am_D x1.2)) hF t_s_Ac_balanceOf_1 rfl rfl ?_
  refine am_bd h (fun x2 hx h => ?_)
  refine am_callV (As := [.int a2, .int a3]) (r := (some (.int x2.1))) (st := [.int x1.1]) (σ' := am_D x2.2) (ci := 5) hF hR d_X0_balanceOf_11 (c_Ow_paidBy (τ' := x2.2) hx) (Nat.le_refl _) (Nat.le_refl _) wl_Ac_89 wi_yX5_paidBy we_yX5_paidBy wn_ShareHouse_Owners wc_yX5_paidBy (Nat.le_of_ble_eq_true rfl) (Nat.le_of_ble_eq_true rfl) rfl rfl wy_yX5_paidBy rfl ⟨by decide, by decide⟩ (Nat.le_of_ble_eq_true rfl) ?_
  refine am_seg s_Ac_balanceOf_2 (y := (15, [(0, .ref 127), (1, .ref 1), (2, .int a2), (3, .int a3)], [.int (x1.1 - x2.1)], am_D x2.2)) hF t_s_Ac_balanceOf_2 rfl rfl ?_
  obtain ⟨rfl, rfl⟩ := am_pair h
  exact am_iret d_X0_balanceOf_15 hF hB
theorem c_Ac_balanceOf {a2 : Int32} {a3 : Int32} {v : Int32} {τ τ' : am_T} (h : Ac_balanceOf τ a2 a3 = some (v, τ')) : am_C yX0_balanceOf cX0_balanceOf 4 (some .int) 1 24 [.ref 127, .ref 1, .int a2, .int a3] (am_D τ) (some (.int v)) (am_D τ') :=
  am_enter (by decide +kernel) (Nat.le_of_ble_eq_true rfl) ⟨Nat.le_refl _, Nat.le_refl _⟩ (fun X hF hR hB => ok_Ac_balanceOf hF hR hB h)
def s_Ac_readChanges_0 : List am_Q := [(0, .iload_n 3, 0, 0, 0, .null), (1, .sipush 900, 0, 0, 0, .int (nI 900))]
theorem t_s_Ac_readChanges_0 : s_Ac_readChanges_0.all (am_ok 0 cX0_readChanges) = true := by decide +kernel
theorem d_X0_readChanges_4 : decode cX0_readChanges 4 = .ok (.invokestatic 106, 3) := by decide +kernel
def s_Ac_readChanges_1 : List am_Q := [(7, .istore 4, 0, 0, 0, .null), (9, .aload_n 0, 0, 0, 0, .null), (10, .getfield 16, 0, 1, 142, .null), (13, .iconst 0, 0, 0, 0, .int (nI 0))]
theorem t_s_Ac_readChanges_1 : s_Ac_readChanges_1.all (am_ok 0 cX0_readChanges) = true := by decide +kernel
theorem d_X0_readChanges_14 : decode cX0_readChanges 14 = .ok (.invokestatic 26, 3) := by decide +kernel
def s_Ac_readChanges_2 : List am_Q := [(17, .iconst 0, 0, 0, 0, .int (nI 0)), (18, .istore 5, 0, 0, 0, .null)]
theorem t_s_Ac_readChanges_2 : s_Ac_readChanges_2.all (am_ok 0 cX0_readChanges) = true := by decide +kernel
def s_Ac_readChanges_3 : List am_Q := [(20, .iload 5, 0, 0, 0, .null), (22, .aload_n 1, 0, 0, 0, .null), (23, .getfield 32, 3, 4, 99, .null), (26, .getfield 38, 1, 5, 32, .null)]
theorem t_s_Ac_readChanges_3 : s_Ac_readChanges_3.all (am_ok 0 cX0_readChanges) = true := by decide +kernel
theorem d_X0_readChanges_29 : decode cX0_readChanges 29 = .ok (.if_icmp .ge 60, 3) := by decide +kernel
def s_Ac_readChanges_4 : List am_Q := [(89, .aload_n 1, 0, 0, 0, .null), (90, .getfield 65, 3, 5, 103, .null), (93, .astore 5, 0, 0, 0, .null), (95, .iconst 0, 0, 0, 0, .int (nI 0)), (96, .istore 6, 0, 0, 0, .null)]
theorem t_s_Ac_readChanges_4 : s_Ac_readChanges_4.all (am_ok 0 cX0_readChanges) = true := by decide +kernel
def s_Ac_readChanges_5 : List am_Q := [(98, .iload 6, 0, 0, 0, .null), (100, .aload 5, 0, 0, 0, .null), (102, .getfield 113, 5, 7, 52, .null)]
theorem t_s_Ac_readChanges_5 : s_Ac_readChanges_5.all (am_ok 0 cX0_readChanges) = true := by decide +kernel
theorem d_X0_readChanges_105 : decode cX0_readChanges 105 = .ok (.if_icmp .ge 64, 3) := by decide +kernel
theorem d_X0_readChanges_169 : decode cX0_readChanges 169 = .ok (.return_, 1) := by decide +kernel
def s_Ac_readChanges_6 : List am_Q := [(108, .aload 5, 0, 0, 0, .null), (110, .getfield 116, 5, 4, 46, .null), (113, .iload 6, 0, 0, 0, .null)]
theorem t_s_Ac_readChanges_6 : s_Ac_readChanges_6.all (am_ok 0 cX0_readChanges) = true := by decide +kernel
theorem d_X0_readChanges_115 : decode cX0_readChanges 115 = .ok (.iaload, 1) := by decide +kernel
def s_Ac_readChanges_7 : List am_Q := [(116, .iload_n 2, 0, 0, 0, .null)]
theorem t_s_Ac_readChanges_7 : s_Ac_readChanges_7.all (am_ok 0 cX0_readChanges) = true := by decide +kernel
theorem d_X0_readChanges_117 : decode cX0_readChanges 117 = .ok (.if_icmp .ne 46, 3) := by decide +kernel
def s_Ac_readChanges_8 : List am_Q := [(163, .iinc 6 1, 0, 0, 0, .int (nI 1)), (166, .goto (-68), 98, 0, 0, .null)]
theorem t_s_Ac_readChanges_8 : s_Ac_readChanges_8.all (am_ok 0 cX0_readChanges) = true := by decide +kernel
def s_Ac_readChanges_9 : List am_Q := [(120, .aload 5, 0, 0, 0, .null), (122, .getfield 119, 5, 6, 50, .null), (125, .iload 6, 0, 0, 0, .null)]
theorem t_s_Ac_readChanges_9 : s_Ac_readChanges_9.all (am_ok 0 cX0_readChanges) = true := by decide +kernel
theorem d_X0_readChanges_127 : decode cX0_readChanges 127 = .ok (.iaload, 1) := by decide +kernel
def s_Ac_readChanges_10 : List am_Q := [(128, .iconst 0, 0, 0, 0, .int (nI 0)), (129, .iload 4, 0, 0, 0, .null), (131, .iconst 1, 0, 0, 0, .int (nI 1)), (132, .isub, 0, 0, 0, .null)]
theorem t_s_Ac_readChanges_10 : s_Ac_readChanges_10.all (am_ok 0 cX0_readChanges) = true := by decide +kernel
theorem d_X0_readChanges_133 : decode cX0_readChanges 133 = .ok (.invokestatic 109, 3) := by decide +kernel
theorem d_X0_readChanges_136 : decode cX0_readChanges 136 = .ok (.ifCond .eq 27, 3) := by decide +kernel
def s_Ac_readChanges_11 : List am_Q := [(163, .iinc 6 1, 0, 0, 0, .int (nI 1)), (166, .goto (-68), 98, 0, 0, .null)]
theorem t_s_Ac_readChanges_11 : s_Ac_readChanges_11.all (am_ok 0 cX0_readChanges) = true := by decide +kernel
def s_Ac_readChanges_12 : List am_Q := [(139, .aload_n 0, 0, 0, 0, .null), (140, .getfield 16, 0, 1, 142, .null), (143, .aload 5, 0, 0, 0, .null), (145, .getfield 119, 5, 6, 50, .null), (148, .iload 6, 0, 0, 0, .null)]
theorem t_s_Ac_readChanges_12 : s_Ac_readChanges_12.all (am_ok 0 cX0_readChanges) = true := by decide +kernel
theorem d_X0_readChanges_150 : decode cX0_readChanges 150 = .ok (.iaload, 1) := by decide +kernel
def s_Ac_readChanges_13 : List am_Q := [(151, .dup2, 0, 0, 0, .null)]
theorem t_s_Ac_readChanges_13 : s_Ac_readChanges_13.all (am_ok 0 cX0_readChanges) = true := by decide +kernel
theorem d_X0_readChanges_152 : decode cX0_readChanges 152 = .ok (.iaload, 1) := by decide +kernel
def s_Ac_readChanges_14 : List am_Q := [(153, .aload 5, 0, 0, 0, .null), (155, .getfield 122, 5, 5, 48, .null), (158, .iload 6, 0, 0, 0, .null)]
theorem t_s_Ac_readChanges_14 : s_Ac_readChanges_14.all (am_ok 0 cX0_readChanges) = true := by decide +kernel
theorem d_X0_readChanges_160 : decode cX0_readChanges 160 = .ok (.iaload, 1) := by decide +kernel
def s_Ac_readChanges_15 : List am_Q := [(161, .isub, 0, 0, 0, .null)]
theorem t_s_Ac_readChanges_15 : s_Ac_readChanges_15.all (am_ok 0 cX0_readChanges) = true := by decide +kernel
theorem d_X0_readChanges_162 : decode cX0_readChanges 162 = .ok (.iastore, 1) := by decide +kernel
def s_Ac_readChanges_16 : List am_Q := [(163, .iinc 6 1, 0, 0, 0, .int (nI 1)), (166, .goto (-68), 98, 0, 0, .null)]
theorem t_s_Ac_readChanges_16 : s_Ac_readChanges_16.all (am_ok 0 cX0_readChanges) = true := by decide +kernel
def s_Ac_readChanges_17 : List am_Q := [(32, .aload_n 1, 0, 0, 0, .null), (33, .getfield 32, 3, 4, 99, .null), (36, .getfield 69, 1, 1, 23, .null), (39, .iload 5, 0, 0, 0, .null)]
theorem t_s_Ac_readChanges_17 : s_Ac_readChanges_17.all (am_ok 0 cX0_readChanges) = true := by decide +kernel
theorem d_X0_readChanges_41 : decode cX0_readChanges 41 = .ok (.iaload, 1) := by decide +kernel
def s_Ac_readChanges_18 : List am_Q := [(42, .aload_n 1, 0, 0, 0, .null), (43, .getfield 101, 3, 1, 89, .null), (46, .iconst 2, 0, 0, 0, .int (nI 2))]
theorem t_s_Ac_readChanges_18 : s_Ac_readChanges_18.all (am_ok 0 cX0_readChanges) = true := by decide +kernel
theorem d_X0_readChanges_47 : decode cX0_readChanges 47 = .ok (.iaload, 1) := by decide +kernel
def s_Ac_readChanges_19 : List am_Q := [(48, .iadd, 0, 0, 0, .null), (49, .istore 6, 0, 0, 0, .null), (51, .iload 6, 0, 0, 0, .null), (53, .iconst 0, 0, 0, 0, .int (nI 0)), (54, .iload 4, 0, 0, 0, .null), (56, .iconst 1, 0, 0, 0, .int (nI 1)), (57, .isub, 0, 0, 0, .null)]
theorem t_s_Ac_readChanges_19 : s_Ac_readChanges_19.all (am_ok 0 cX0_readChanges) = true := by decide +kernel
theorem d_X0_readChanges_58 : decode cX0_readChanges 58 = .ok (.invokestatic 109, 3) := by decide +kernel
theorem d_X0_readChanges_61 : decode cX0_readChanges 61 = .ok (.ifCond .eq 22, 3) := by decide +kernel
def s_Ac_readChanges_20 : List am_Q := [(83, .iinc 5 1, 0, 0, 0, .int (nI 1)), (86, .goto (-66), 20, 0, 0, .null)]
theorem t_s_Ac_readChanges_20 : s_Ac_readChanges_20.all (am_ok 0 cX0_readChanges) = true := by decide +kernel
def s_Ac_readChanges_21 : List am_Q := [(64, .aload_n 0, 0, 0, 0, .null), (65, .getfield 16, 0, 1, 142, .null), (68, .iload 6, 0, 0, 0, .null), (70, .dup2, 0, 0, 0, .null)]
theorem t_s_Ac_readChanges_21 : s_Ac_readChanges_21.all (am_ok 0 cX0_readChanges) = true := by decide +kernel
theorem d_X0_readChanges_71 : decode cX0_readChanges 71 = .ok (.iaload, 1) := by decide +kernel
def s_Ac_readChanges_22 : List am_Q := [(72, .aload_n 0, 0, 0, 0, .null), (73, .getfield 11, 0, 0, 141, .null), (76, .iload_n 2, 0, 0, 0, .null)]
theorem t_s_Ac_readChanges_22 : s_Ac_readChanges_22.all (am_ok 0 cX0_readChanges) = true := by decide +kernel
theorem d_X0_readChanges_77 : decode cX0_readChanges 77 = .ok (.aaload, 1) := by decide +kernel
def s_Ac_readChanges_23 : List am_Q := [(78, .iload 5, 0, 0, 0, .null)]
theorem t_s_Ac_readChanges_23 : s_Ac_readChanges_23.all (am_ok 0 cX0_readChanges) = true := by decide +kernel
theorem d_X0_readChanges_80 : decode cX0_readChanges 80 = .ok (.iaload, 1) := by decide +kernel
def s_Ac_readChanges_24 : List am_Q := [(81, .iadd, 0, 0, 0, .null)]
theorem t_s_Ac_readChanges_24 : s_Ac_readChanges_24.all (am_ok 0 cX0_readChanges) = true := by decide +kernel
theorem d_X0_readChanges_82 : decode cX0_readChanges 82 = .ok (.iastore, 1) := by decide +kernel
def s_Ac_readChanges_25 : List am_Q := [(83, .iinc 5 1, 0, 0, 0, .int (nI 1)), (86, .goto (-66), 20, 0, 0, .null)]
theorem t_s_Ac_readChanges_25 : s_Ac_readChanges_25.all (am_ok 0 cX0_readChanges) = true := by decide +kernel
def Ac_readChanges_98 : Nat → am_T → Int32 → Int32 → Int32 → Option (am_T)
  | 0, _, _, _, _ => none
  | n + 1, τ, a2, a4, a6 =>
    if (τ.1 34 7) ≤ a6 then
  (some τ)
else
  (am_g (am_in a6 20) (if (τ.1 38 (a6.toNatClampNeg)) = a2 then
  (am_g (am_in a6 20) ((X_within τ (τ.1 40 (a6.toNatClampNeg)) (nI 0) (a4 - (nI 1))).bind (fun x2 =>
  if x2.1 = 0 then
  ((Ac_readChanges_98 n) x2.2 a2 a4 (a6 + (nI 1)))
else
  (am_g (am_in a6 20) (am_g (am_in (x2.2.1 40 (a6.toNatClampNeg)) 900) (am_g (am_in a6 20) (am_g (am_in (x2.2.1 40 (a6.toNatClampNeg)) 900) ((Ac_readChanges_98 n) (am_si x2.2 137 ((x2.2.1 40 (a6.toNatClampNeg)).toNatClampNeg) ((x2.2.1 137 ((x2.2.1 40 (a6.toNatClampNeg)).toNatClampNeg)) - (x2.2.1 39 (a6.toNatClampNeg)))) a2 a4 (a6 + (nI 1))))))))))
else
  ((Ac_readChanges_98 n) τ a2 a4 (a6 + (nI 1)))))
set_option maxRecDepth 20000 in
theorem ok_Ac_readChanges_98 {X : am_X} {τ' : am_T} (hF : am_F X "ShareHouse$Accounts" cX0_readChanges 7) (hR : am_R X 1 23) (hB : am_B X none none (am_D τ')) : ∀ (n : Nat) (τ : am_T) (a2 : Int32) (a4 : Int32) (a6 : Int32), Ac_readChanges_98 n τ a2 a4 a6 = some τ' → am_W X 7 (98, [(0, .ref 127), (2, .int a2), (4, .int a4), (5, .ref 34), (6, .int a6)], [], am_D τ) := by
  intro n
  induction n with
  | zero => intro τ a2 a4 a6 h; unfold Ac_readChanges_98 at h; cases h
  | succ n ih =>
    intro τ a2 a4 a6 h
    unfold Ac_readChanges_98 at h
    refine am_seg s_Ac_readChanges_5 (y := (105, [(0, .ref 127), (2, .int a2), (4, .int a4), (5, .ref 34), (6, .int a6)], [.int (τ.1 34 7), .int a6], am_D τ)) hF t_s_Ac_readChanges_5 rfl rfl ?_
    refine am_ite h (fun hc h => ?_) (fun hc h => ?_)
    · refine am_icmp_ge_t (t := 169) d_X0_readChanges_105 (by decide) hc hF ?_
      obtain rfl := am_one h
      exact am_vret d_X0_readChanges_169 hF hB
    · refine am_icmp_ge_f (t := 169) d_X0_readChanges_105 (by decide) hc hF ?_
      refine am_seg s_Ac_readChanges_6 (y := (115, [(0, .ref 127), (2, .int a2), (4, .int a4), (5, .ref 34), (6, .int a6)], [.int a6, .ref 38], am_D τ)) hF t_s_Ac_readChanges_6 rfl rfl ?_
      refine am_gd h (fun hi h => ?_)
      refine am_iald (n := 20) (j := (a6.toNatClampNeg)) d_X0_readChanges_115 (Nat.le_of_ble_eq_true rfl) (Nat.le_of_ble_eq_true rfl) rfl hi rfl hF ?_
      refine am_seg s_Ac_readChanges_7 (y := (117, [(0, .ref 127), (2, .int a2), (4, .int a4), (5, .ref 34), (6, .int a6)], [.int a2, .int (τ.1 38 (a6.toNatClampNeg))], am_D τ)) hF t_s_Ac_readChanges_7 rfl rfl ?_
      refine am_ite h (fun hc h => ?_) (fun hc h => ?_)
      · refine am_icmp_ne_f (t := 163) d_X0_readChanges_117 (by decide) hc hF ?_
        refine am_seg s_Ac_readChanges_9 (y := (127, [(0, .ref 127), (2, .int a2), (4, .int a4), (5, .ref 34), (6, .int a6)], [.int a6, .ref 40], am_D τ)) hF t_s_Ac_readChanges_9 rfl rfl ?_
        refine am_gd h (fun hi h => ?_)
        refine am_iald (n := 20) (j := (a6.toNatClampNeg)) d_X0_readChanges_127 (Nat.le_of_ble_eq_true rfl) (Nat.le_of_ble_eq_true rfl) rfl hi rfl hF ?_
        refine am_seg s_Ac_readChanges_10 (y := (133, [(0, .ref 127), (2, .int a2), (4, .int a4), (5, .ref 34), (6, .int a6)], [.int (a4 - (nI 1)), .int (nI 0), .int (τ.1 40 (a6.toNatClampNeg))], am_D τ)) hF t_s_Ac_readChanges_10 rfl rfl ?_
        refine am_bd h (fun x2 hx h => ?_)
        refine am_callSN (As := [.int (τ.1 40 (a6.toNatClampNeg)), .int (nI 0), .int (a4 - (nI 1))]) (r := (some (.int x2.1))) (st := []) (σ' := am_D x2.2) (host := "ShareHouse") hF hR d_X0_readChanges_133 (c_X_within (τ' := x2.2) hx) (Nat.le_refl _) (Nat.le_refl _) wk_Ac_109 ws_yX11_within wn_ShareHouse wc_yX11_within wy_yX11_within rfl ⟨by decide, by decide⟩ (Nat.le_of_ble_eq_true rfl) ?_
        refine am_ite h (fun hc h => ?_) (fun hc h => ?_)
        · refine am_if_eq_t (t := 163) d_X0_readChanges_136 (by decide) hc hF ?_
          refine am_seg s_Ac_readChanges_11 (y := (98, [(6, .int (a6 + (nI 1))), (0, .ref 127), (2, .int a2), (4, .int a4), (5, .ref 34)], [], am_D x2.2)) hF t_s_Ac_readChanges_11 rfl rfl ?_
          refine am_pick [1, 2, 3, 4, 0] rfl ?_
          exact ih _ _ _ _ h
        · refine am_if_eq_f (t := 163) d_X0_readChanges_136 (by decide) hc hF ?_
          refine am_seg s_Ac_readChanges_12 (y := (150, [(0, .ref 127), (2, .int a2), (4, .int a4), (5, .ref 34), (6, .int a6)], [.int a6, .ref 40, .ref 137], am_D x2.2)) hF t_s_Ac_readChanges_12 rfl rfl ?_
          refine am_gd h (fun hi h => ?_)
          refine am_iald (n := 20) (j := (a6.toNatClampNeg)) d_X0_readChanges_150 (Nat.le_of_ble_eq_true rfl) (Nat.le_of_ble_eq_true rfl) rfl hi rfl hF ?_
          refine am_seg s_Ac_readChanges_13 (y := (152, [(0, .ref 127), (2, .int a2), (4, .int a4), (5, .ref 34), (6, .int a6)], [.int (x2.2.1 40 (a6.toNatClampNeg)), .ref 137, .int (x2.2.1 40 (a6.toNatClampNeg)), .ref 137], am_D x2.2)) hF t_s_Ac_readChanges_13 rfl rfl ?_
          refine am_gd h (fun hi h => ?_)
          refine am_iald (n := 900) (j := ((x2.2.1 40 (a6.toNatClampNeg)).toNatClampNeg)) d_X0_readChanges_152 (Nat.le_of_ble_eq_true rfl) (Nat.le_of_ble_eq_true rfl) rfl hi rfl hF ?_
          refine am_seg s_Ac_readChanges_14 (y := (160, [(0, .ref 127), (2, .int a2), (4, .int a4), (5, .ref 34), (6, .int a6)], [.int a6, .ref 39, .int (x2.2.1 137 ((x2.2.1 40 (a6.toNatClampNeg)).toNatClampNeg)), .int (x2.2.1 40 (a6.toNatClampNeg)), .ref 137], am_D x2.2)) hF t_s_Ac_readChanges_14 rfl rfl ?_
          refine am_gd h (fun hi h => ?_)
          refine am_iald (n := 20) (j := (a6.toNatClampNeg)) d_X0_readChanges_160 (Nat.le_of_ble_eq_true rfl) (Nat.le_of_ble_eq_true rfl) rfl hi rfl hF ?_
          refine am_seg s_Ac_readChanges_15 (y := (162, [(0, .ref 127), (2, .int a2), (4, .int a4), (5, .ref 34), (6, .int a6)], [.int ((x2.2.1 137 ((x2.2.1 40 (a6.toNatClampNeg)).toNatClampNeg)) - (x2.2.1 39 (a6.toNatClampNeg))), .int (x2.2.1 40 (a6.toNatClampNeg)), .ref 137], am_D x2.2)) hF t_s_Ac_readChanges_15 rfl rfl ?_
          refine am_gd h (fun hi h => ?_)
          refine am_iast (n := 900) (j := ((x2.2.1 40 (a6.toNatClampNeg)).toNatClampNeg)) d_X0_readChanges_162 (Nat.le_of_ble_eq_true rfl) (Nat.le_of_ble_eq_true rfl) rfl hi rfl hF ?_
          refine am_seg s_Ac_readChanges_16 (y := (98, [(6, .int (a6 + (nI 1))), (0, .ref 127), (2, .int a2), (4, .int a4), (5, .ref 34)], [], am_D (am_si x2.2 137 ((x2.2.1 40 (a6.toNatClampNeg)).toNatClampNeg) ((x2.2.1 137 ((x2.2.1 40 (a6.toNatClampNeg)).toNatClampNeg)) - (x2.2.1 39 (a6.toNatClampNeg)))))) hF t_s_Ac_readChanges_16 rfl rfl ?_
          refine am_pick [1, 2, 3, 4, 0] rfl ?_
          exact ih _ _ _ _ h
      · refine am_icmp_ne_t (t := 163) d_X0_readChanges_117 (by decide) hc hF ?_
        refine am_seg s_Ac_readChanges_8 (y := (98, [(6, .int (a6 + (nI 1))), (0, .ref 127), (2, .int a2), (4, .int a4), (5, .ref 34)], [], am_D τ)) hF t_s_Ac_readChanges_8 rfl rfl ?_
        refine am_pick [1, 2, 3, 4, 0] rfl ?_
        exact ih _ _ _ _ h
def Ac_readChanges_20 : Nat → am_T → Int32 → Int32 → Int32 → Option (am_T)
  | 0, _, _, _, _ => none
  | n + 1, τ, a2, a4, a5 =>
    if (τ.1 25 5) ≤ a5 then
  (Ac_readChanges_98 5000 τ a2 a4 (nI 0))
else
  (am_g (am_in a5 20) ((X_within τ ((τ.1 27 (a5.toNatClampNeg)) + (τ.1 2 2)) (nI 0) (a4 - (nI 1))).bind (fun x3 =>
  if x3.1 = 0 then
  ((Ac_readChanges_20 n) x3.2 a2 a4 (a5 + (nI 1)))
else
  (am_g (am_in ((τ.1 27 (a5.toNatClampNeg)) + (τ.1 2 2)) 900) (am_g (am_in a2 8) ((am_RF 128 (a2.toNatClampNeg)).bind (fun q4 =>
  am_g (am_isI q4) (am_g (am_in a5 (am_sh q4).2) (am_g (am_in ((τ.1 27 (a5.toNatClampNeg)) + (τ.1 2 2)) 900) ((Ac_readChanges_20 n) (am_si x3.2 137 (((τ.1 27 (a5.toNatClampNeg)) + (τ.1 2 2)).toNatClampNeg) ((x3.2.1 137 (((τ.1 27 (a5.toNatClampNeg)) + (τ.1 2 2)).toNatClampNeg)) + (x3.2.1 q4 (a5.toNatClampNeg)))) a2 a4 (a5 + (nI 1))))))))))))
set_option maxRecDepth 20000 in
theorem ok_Ac_readChanges_20 {X : am_X} {τ' : am_T} (hF : am_F X "ShareHouse$Accounts" cX0_readChanges 7) (hR : am_R X 1 23) (hB : am_B X none none (am_D τ')) : ∀ (n : Nat) (τ : am_T) (a2 : Int32) (a4 : Int32) (a5 : Int32), Ac_readChanges_20 n τ a2 a4 a5 = some τ' → am_W X 7 (20, [(0, .ref 127), (1, .ref 1), (2, .int a2), (4, .int a4), (5, .int a5)], [], am_D τ) := by
  intro n
  induction n with
  | zero => intro τ a2 a4 a5 h; unfold Ac_readChanges_20 at h; cases h
  | succ n ih =>
    intro τ a2 a4 a5 h
    unfold Ac_readChanges_20 at h
    refine am_seg s_Ac_readChanges_3 (y := (29, [(0, .ref 127), (1, .ref 1), (2, .int a2), (4, .int a4), (5, .int a5)], [.int (τ.1 25 5), .int a5], am_D τ)) hF t_s_Ac_readChanges_3 rfl rfl ?_
    refine am_ite h (fun hc h => ?_) (fun hc h => ?_)
    · refine am_icmp_ge_t (t := 89) d_X0_readChanges_29 (by decide) hc hF ?_
      refine am_seg s_Ac_readChanges_4 (y := (98, [(6, .int (nI 0)), (5, .ref 34), (0, .ref 127), (1, .ref 1), (2, .int a2), (4, .int a4)], [], am_D τ)) hF t_s_Ac_readChanges_4 rfl rfl ?_
      refine am_pick [2, 4, 5, 1, 0] rfl ?_
      exact ok_Ac_readChanges_98 hF hR hB _ _ _ _ _ h
    · refine am_icmp_ge_f (t := 89) d_X0_readChanges_29 (by decide) hc hF ?_
      refine am_seg s_Ac_readChanges_17 (y := (41, [(0, .ref 127), (1, .ref 1), (2, .int a2), (4, .int a4), (5, .int a5)], [.int a5, .ref 27], am_D τ)) hF t_s_Ac_readChanges_17 rfl rfl ?_
      refine am_gd h (fun hi h => ?_)
      refine am_iald (n := 20) (j := (a5.toNatClampNeg)) d_X0_readChanges_41 (Nat.le_of_ble_eq_true rfl) (Nat.le_of_ble_eq_true rfl) rfl hi rfl hF ?_
      refine am_seg s_Ac_readChanges_18 (y := (47, [(0, .ref 127), (1, .ref 1), (2, .int a2), (4, .int a4), (5, .int a5)], [.int (nI 2), .ref 2, .int (τ.1 27 (a5.toNatClampNeg))], am_D τ)) hF t_s_Ac_readChanges_18 rfl rfl ?_
      refine am_iald (n := 6) (j := 2) d_X0_readChanges_47 (Nat.le_of_ble_eq_true rfl) (Nat.le_of_ble_eq_true rfl) rfl (by decide) rfl hF ?_
      refine am_seg s_Ac_readChanges_19 (y := (58, [(6, .int ((τ.1 27 (a5.toNatClampNeg)) + (τ.1 2 2))), (0, .ref 127), (1, .ref 1), (2, .int a2), (4, .int a4), (5, .int a5)], [.int (a4 - (nI 1)), .int (nI 0), .int ((τ.1 27 (a5.toNatClampNeg)) + (τ.1 2 2))], am_D τ)) hF t_s_Ac_readChanges_19 rfl rfl ?_
      refine am_bd h (fun x3 hx h => ?_)
      refine am_callSN (As := [.int ((τ.1 27 (a5.toNatClampNeg)) + (τ.1 2 2)), .int (nI 0), .int (a4 - (nI 1))]) (r := (some (.int x3.1))) (st := []) (σ' := am_D x3.2) (host := "ShareHouse") hF hR d_X0_readChanges_58 (c_X_within (τ' := x3.2) hx) (Nat.le_refl _) (Nat.le_refl _) wk_Ac_109 ws_yX11_within wn_ShareHouse wc_yX11_within wy_yX11_within rfl ⟨by decide, by decide⟩ (Nat.le_of_ble_eq_true rfl) ?_
      refine am_ite h (fun hc h => ?_) (fun hc h => ?_)
      · refine am_if_eq_t (t := 83) d_X0_readChanges_61 (by decide) hc hF ?_
        refine am_seg s_Ac_readChanges_20 (y := (20, [(5, .int (a5 + (nI 1))), (6, .int ((τ.1 27 (a5.toNatClampNeg)) + (τ.1 2 2))), (0, .ref 127), (1, .ref 1), (2, .int a2), (4, .int a4)], [], am_D x3.2)) hF t_s_Ac_readChanges_20 rfl rfl ?_
        refine am_pick [2, 3, 4, 5, 0] rfl ?_
        exact ih _ _ _ _ h
      · refine am_if_eq_f (t := 83) d_X0_readChanges_61 (by decide) hc hF ?_
        refine am_seg s_Ac_readChanges_21 (y := (71, [(6, .int ((τ.1 27 (a5.toNatClampNeg)) + (τ.1 2 2))), (0, .ref 127), (1, .ref 1), (2, .int a2), (4, .int a4), (5, .int a5)], [.int ((τ.1 27 (a5.toNatClampNeg)) + (τ.1 2 2)), .ref 137, .int ((τ.1 27 (a5.toNatClampNeg)) + (τ.1 2 2)), .ref 137], am_D x3.2)) hF t_s_Ac_readChanges_21 rfl rfl ?_
        refine am_gd h (fun hi h => ?_)
        refine am_iald (n := 900) (j := (((τ.1 27 (a5.toNatClampNeg)) + (τ.1 2 2)).toNatClampNeg)) d_X0_readChanges_71 (Nat.le_of_ble_eq_true rfl) (Nat.le_of_ble_eq_true rfl) rfl hi rfl hF ?_
        refine am_seg s_Ac_readChanges_22 (y := (77, [(6, .int ((τ.1 27 (a5.toNatClampNeg)) + (τ.1 2 2))), (0, .ref 127), (1, .ref 1), (2, .int a2), (4, .int a4), (5, .int a5)], [.int a2, .ref 128, .int (x3.2.1 137 (((τ.1 27 (a5.toNatClampNeg)) + (τ.1 2 2)).toNatClampNeg)), .int ((τ.1 27 (a5.toNatClampNeg)) + (τ.1 2 2)), .ref 137], am_D x3.2)) hF t_s_Ac_readChanges_22 rfl rfl ?_
        refine am_gd h (fun hi h => ?_)
        refine am_bd h (fun q4 hq h => ?_)
        refine am_rald (n := 8) (j := (a2.toNatClampNeg)) (q := q4) d_X0_readChanges_77 (Nat.le_of_ble_eq_true rfl) (Nat.le_of_ble_eq_true rfl) rfl hi rfl hq hF ?_
        refine am_seg s_Ac_readChanges_23 (y := (80, [(6, .int ((τ.1 27 (a5.toNatClampNeg)) + (τ.1 2 2))), (0, .ref 127), (1, .ref 1), (2, .int a2), (4, .int a4), (5, .int a5)], [.int a5, .ref q4, .int (x3.2.1 137 (((τ.1 27 (a5.toNatClampNeg)) + (τ.1 2 2)).toNatClampNeg)), .int ((τ.1 27 (a5.toNatClampNeg)) + (τ.1 2 2)), .ref 137], am_D x3.2)) hF t_s_Ac_readChanges_23 rfl rfl ?_
        refine am_gd h (fun hg h => ?_)
        refine am_gd h (fun hi h => ?_)
        refine am_iald (n := (am_sh q4).2) (j := (a5.toNatClampNeg)) d_X0_readChanges_80 (am_isI_of hg).1 (am_isI_of hg).2.1 (am_isI_of hg).2.2 hi rfl hF ?_
        refine am_seg s_Ac_readChanges_24 (y := (82, [(6, .int ((τ.1 27 (a5.toNatClampNeg)) + (τ.1 2 2))), (0, .ref 127), (1, .ref 1), (2, .int a2), (4, .int a4), (5, .int a5)], [.int ((x3.2.1 137 (((τ.1 27 (a5.toNatClampNeg)) + (τ.1 2 2)).toNatClampNeg)) + (x3.2.1 q4 (a5.toNatClampNeg))), .int ((τ.1 27 (a5.toNatClampNeg)) + (τ.1 2 2)), .ref 137], am_D x3.2)) hF t_s_Ac_readChanges_24 rfl rfl ?_
        refine am_gd h (fun hi h => ?_)
        refine am_iast (n := 900) (j := (((τ.1 27 (a5.toNatClampNeg)) + (τ.1 2 2)).toNatClampNeg)) d_X0_readChanges_82 (Nat.le_of_ble_eq_true rfl) (Nat.le_of_ble_eq_true rfl) rfl hi rfl hF ?_
        refine am_seg s_Ac_readChanges_25 (y := (20, [(5, .int (a5 + (nI 1))), (6, .int ((τ.1 27 (a5.toNatClampNeg)) + (τ.1 2 2))), (0, .ref 127), (1, .ref 1), (2, .int a2), (4, .int a4)], [], am_D (am_si x3.2 137 (((τ.1 27 (a5.toNatClampNeg)) + (τ.1 2 2)).toNatClampNeg) ((x3.2.1 137 (((τ.1 27 (a5.toNatClampNeg)) + (τ.1 2 2)).toNatClampNeg)) + (x3.2.1 q4 (a5.toNatClampNeg)))))) hF t_s_Ac_readChanges_25 rfl rfl ?_
        refine am_pick [2, 3, 4, 5, 0] rfl ?_
        exact ih _ _ _ _ h
def Ac_readChanges (τ : am_T) (a2 : Int32) (a3 : Int32) : Option (am_T) :=
  (JA_fill τ 137 (nI 0)).bind (fun x1 =>
  Ac_readChanges_20 5000 x1 a2 (if (nI 900) < a3 then (nI 900) else a3) (nI 0))
set_option maxRecDepth 20000 in
theorem ok_Ac_readChanges {X : am_X} {a2 : Int32} {a3 : Int32} {τ τ' : am_T} (hF : am_F X "ShareHouse$Accounts" cX0_readChanges 7) (hR : am_R X 1 23) (hB : am_B X none none (am_D τ')) (h : Ac_readChanges τ a2 a3 = some τ') : am_W X 7 (0, [(0, .ref 127), (1, .ref 1), (2, .int a2), (3, .int a3)], [], am_D τ) := by
  unfold Ac_readChanges at h
  refine am_seg s_Ac_readChanges_0 (y := (4, [(0, .ref 127), (1, .ref 1), (2, .int a2), (3, .int a3)], [.int (nI 900), .int a3], am_D τ)) hF t_s_Ac_readChanges_0 rfl rfl ?_
  refine am_mmin d_X0_readChanges_4 wq_min_0_106 wq_min_s wq_math wq_min_c ⟨by decide, Nat.le_of_ble_eq_true rfl⟩ (Nat.le_refl _) hF hR ?_
  refine am_seg s_Ac_readChanges_1 (y := (14, [(4, .int (if (nI 900) < a3 then (nI 900) else a3)), (0, .ref 127), (1, .ref 1), (2, .int a2), (3, .int a3)], [.int (nI 0), .ref 137], am_D τ)) hF t_s_Ac_readChanges_1 rfl rfl ?_
  refine am_bd h (fun x1 hx h => ?_)
  refine am_callS (As := [.ref 137, .int (nI 0)]) (r := none) (st := []) (σ' := am_D x1) hF hR d_X0_readChanges_14 (c_JA_fill (τ' := x1) hx) (Nat.le_refl _) (Nat.le_refl _) wl_Ac_26 ws_yJ7_fill_53178 wn_java_util_Arrays wc_yJ7_fill_53178 wy_yJ7_fill_53178 rfl ⟨by decide, by decide⟩ (Nat.le_of_ble_eq_true rfl) ?_
  refine am_seg s_Ac_readChanges_2 (y := (20, [(5, .int (nI 0)), (4, .int (if (nI 900) < a3 then (nI 900) else a3)), (0, .ref 127), (1, .ref 1), (2, .int a2), (3, .int a3)], [], am_D x1)) hF t_s_Ac_readChanges_2 rfl rfl ?_
  refine am_pick [2, 3, 4, 1, 0] rfl ?_
  exact ok_Ac_readChanges_20 hF hR hB _ _ _ _ _ h
theorem c_Ac_readChanges {a2 : Int32} {a3 : Int32} {τ τ' : am_T} (h : Ac_readChanges τ a2 a3 = some τ') : am_C yX0_readChanges cX0_readChanges 7 none 1 23 [.ref 127, .ref 1, .int a2, .int a3] (am_D τ) none (am_D τ') :=
  am_enter (by decide +kernel) (Nat.le_of_ble_eq_true rfl) ⟨Nat.le_refl _, Nat.le_refl _⟩ (fun X hF hR hB => ok_Ac_readChanges hF hR hB h)
def s_Ac_interestOf_0 : List am_Q := [(0, .aload_n 0, 0, 0, 0, .null), (1, .aload_n 1, 0, 0, 0, .null), (2, .iload_n 2, 0, 0, 0, .null), (3, .iload_n 3, 0, 0, 0, .null)]
theorem t_s_Ac_interestOf_0 : s_Ac_interestOf_0.all (am_ok 0 cX0_interestOf) = true := by decide +kernel
theorem d_X0_interestOf_4 : decode cX0_interestOf 4 = .ok (.invokevirtual 92, 3) := by decide +kernel
def s_Ac_interestOf_1 : List am_Q := [(7, .lconst 0, 0, 0, 0, .long (lN 0)), (8, .lstore 4, 0, 0, 0, .null), (10, .lconst 0, 0, 0, 0, .long (lN 0)), (11, .lstore 6, 0, 0, 0, .null), (13, .iconst 0, 0, 0, 0, .int (nI 0)), (14, .istore 8, 0, 0, 0, .null)]
theorem t_s_Ac_interestOf_1 : s_Ac_interestOf_1.all (am_ok 0 cX0_interestOf) = true := by decide +kernel
def s_Ac_interestOf_2 : List am_Q := [(16, .iload 8, 0, 0, 0, .null), (18, .iload_n 3, 0, 0, 0, .null)]
theorem t_s_Ac_interestOf_2 : s_Ac_interestOf_2.all (am_ok 0 cX0_interestOf) = true := by decide +kernel
theorem d_X0_interestOf_19 : decode cX0_interestOf 19 = .ok (.if_icmp .ge 41, 3) := by decide +kernel
def s_Ac_interestOf_3 : List am_Q := [(60, .lload 6, 0, 0, 0, .null), (62, .aload_n 1, 0, 0, 0, .null), (63, .getfield 101, 3, 1, 89, .null), (66, .iconst 3, 0, 0, 0, .int (nI 3))]
theorem t_s_Ac_interestOf_3 : s_Ac_interestOf_3.all (am_ok 0 cX0_interestOf) = true := by decide +kernel
theorem d_X0_interestOf_67 : decode cX0_interestOf 67 = .ok (.iaload, 1) := by decide +kernel
def s_Ac_interestOf_4 : List am_Q := [(68, .i2l, 0, 0, 0, .null), (69, .lmul, 0, 0, 0, .null), (70, .ldc2_w 104, 0, 0, 4, .long (lN 100000))]
theorem t_s_Ac_interestOf_4 : s_Ac_interestOf_4.all (am_ok 0 cX0_interestOf) = true := by decide +kernel
theorem d_X0_interestOf_73 : decode cX0_interestOf 73 = .ok (.ldiv, 1) := by decide +kernel
def s_Ac_interestOf_5 : List am_Q := [(74, .l2i, 0, 0, 0, .null)]
theorem t_s_Ac_interestOf_5 : s_Ac_interestOf_5.all (am_ok 0 cX0_interestOf) = true := by decide +kernel
theorem d_X0_interestOf_75 : decode cX0_interestOf 75 = .ok (.ireturn, 1) := by decide +kernel
def s_Ac_interestOf_6 : List am_Q := [(22, .iload 8, 0, 0, 0, .null), (24, .sipush 900, 0, 0, 0, .int (nI 900))]
theorem t_s_Ac_interestOf_6 : s_Ac_interestOf_6.all (am_ok 0 cX0_interestOf) = true := by decide +kernel
theorem d_X0_interestOf_27 : decode cX0_interestOf 27 = .ok (.if_icmp .ge 33, 3) := by decide +kernel
def s_Ac_interestOf_7 : List am_Q := [(30, .lload 4, 0, 0, 0, .null), (32, .aload_n 0, 0, 0, 0, .null), (33, .getfield 16, 0, 1, 142, .null), (36, .iload 8, 0, 0, 0, .null)]
theorem t_s_Ac_interestOf_7 : s_Ac_interestOf_7.all (am_ok 0 cX0_interestOf) = true := by decide +kernel
theorem d_X0_interestOf_38 : decode cX0_interestOf 38 = .ok (.iaload, 1) := by decide +kernel
def s_Ac_interestOf_8 : List am_Q := [(39, .i2l, 0, 0, 0, .null), (40, .ladd, 0, 0, 0, .null), (41, .lstore 4, 0, 0, 0, .null), (43, .lload 6, 0, 0, 0, .null), (45, .lconst 0, 0, 0, 0, .long (lN 0)), (46, .lload 4, 0, 0, 0, .null)]
theorem t_s_Ac_interestOf_8 : s_Ac_interestOf_8.all (am_ok 0 cX0_interestOf) = true := by decide +kernel
theorem d_X0_interestOf_48 : decode cX0_interestOf 48 = .ok (.invokestatic 95, 3) := by decide +kernel
def s_Ac_interestOf_9 : List am_Q := [(51, .ladd, 0, 0, 0, .null), (52, .lstore 6, 0, 0, 0, .null), (54, .iinc 8 1, 0, 0, 0, .int (nI 1)), (57, .goto (-41), 16, 0, 0, .null)]
theorem t_s_Ac_interestOf_9 : s_Ac_interestOf_9.all (am_ok 0 cX0_interestOf) = true := by decide +kernel
def Ac_interestOf_60 (τ : am_T) (a6 : Int64) : Option (Int32 × am_T) :=
  some ((Int64.toInt32 ((a6 * (Int32.toInt64 (τ.1 2 3))) / (lN 100000))), τ)
set_option maxRecDepth 20000 in
theorem ok_Ac_interestOf_60 {X : am_X} {v : Int32} {τ' : am_T} (hF : am_F X "ShareHouse$Accounts" cX0_interestOf 9) (hR : am_R X 2 49) (hB : am_B X (some .int) (some (.int v)) (am_D τ')) {τ : am_T} {a6 : Int64} (h : Ac_interestOf_60 τ a6 = some (v, τ')) : am_W X 9 (60, [(1, .ref 1), (6, .long a6)], [], am_D τ) := by
  unfold Ac_interestOf_60 at h
  refine am_seg s_Ac_interestOf_3 (y := (67, [(1, .ref 1), (6, .long a6)], [.int (nI 3), .ref 2, .long a6], am_D τ)) hF t_s_Ac_interestOf_3 rfl rfl ?_
  refine am_iald (n := 6) (j := 3) d_X0_interestOf_67 (Nat.le_of_ble_eq_true rfl) (Nat.le_of_ble_eq_true rfl) rfl (by decide) rfl hF ?_
  refine am_seg s_Ac_interestOf_4 (y := (73, [(1, .ref 1), (6, .long a6)], [.long (lN 100000), .long (a6 * (Int32.toInt64 (τ.1 2 3)))], am_D τ)) hF t_s_Ac_interestOf_4 rfl rfl ?_
  refine am_ldiv d_X0_interestOf_73 (by decide) hF ?_
  refine am_seg s_Ac_interestOf_5 (y := (75, [(1, .ref 1), (6, .long a6)], [.int (Int64.toInt32 ((a6 * (Int32.toInt64 (τ.1 2 3))) / (lN 100000)))], am_D τ)) hF t_s_Ac_interestOf_5 rfl rfl ?_
  obtain ⟨rfl, rfl⟩ := am_pair h
  exact am_iret d_X0_interestOf_75 hF hB
def Ac_interestOf_16 : Nat → am_T → Int32 → Int64 → Int64 → Int32 → Option (Int32 × am_T)
  | 0, _, _, _, _, _ => none
  | n + 1, τ, a3, a4, a6, a8 =>
    if a3 ≤ a8 then
  (Ac_interestOf_60 τ a6)
else
  (if (nI 900) ≤ a8 then
  (Ac_interestOf_60 τ a6)
else
  (am_g (am_in a8 900) ((Ac_interestOf_16 n) τ a3 (a4 + (Int32.toInt64 (τ.1 137 (a8.toNatClampNeg)))) (a6 + (if (a4 + (Int32.toInt64 (τ.1 137 (a8.toNatClampNeg)))) < (lN 0) then (lN 0) else (a4 + (Int32.toInt64 (τ.1 137 (a8.toNatClampNeg)))))) (a8 + (nI 1)))))
set_option maxRecDepth 20000 in
theorem ok_Ac_interestOf_16 {X : am_X} {v : Int32} {τ' : am_T} (hF : am_F X "ShareHouse$Accounts" cX0_interestOf 9) (hR : am_R X 2 49) (hB : am_B X (some .int) (some (.int v)) (am_D τ')) : ∀ (n : Nat) (τ : am_T) (a3 : Int32) (a4 : Int64) (a6 : Int64) (a8 : Int32), Ac_interestOf_16 n τ a3 a4 a6 a8 = some (v, τ') → am_W X 9 (16, [(0, .ref 127), (1, .ref 1), (3, .int a3), (4, .long a4), (6, .long a6), (8, .int a8)], [], am_D τ) := by
  intro n
  induction n with
  | zero => intro τ a3 a4 a6 a8 h; unfold Ac_interestOf_16 at h; cases h
  | succ n ih =>
    intro τ a3 a4 a6 a8 h
    unfold Ac_interestOf_16 at h
    refine am_seg s_Ac_interestOf_2 (y := (19, [(0, .ref 127), (1, .ref 1), (3, .int a3), (4, .long a4), (6, .long a6), (8, .int a8)], [.int a3, .int a8], am_D τ)) hF t_s_Ac_interestOf_2 rfl rfl ?_
    refine am_ite h (fun hc h => ?_) (fun hc h => ?_)
    · refine am_icmp_ge_t (t := 60) d_X0_interestOf_19 (by decide) hc hF ?_
      refine am_pick [1, 4] rfl ?_
      exact ok_Ac_interestOf_60 hF hR hB h
    · refine am_icmp_ge_f (t := 60) d_X0_interestOf_19 (by decide) hc hF ?_
      refine am_seg s_Ac_interestOf_6 (y := (27, [(0, .ref 127), (1, .ref 1), (3, .int a3), (4, .long a4), (6, .long a6), (8, .int a8)], [.int (nI 900), .int a8], am_D τ)) hF t_s_Ac_interestOf_6 rfl rfl ?_
      refine am_ite h (fun hc h => ?_) (fun hc h => ?_)
      · refine am_icmp_ge_t (t := 60) d_X0_interestOf_27 (by decide) hc hF ?_
        refine am_pick [1, 4] rfl ?_
        exact ok_Ac_interestOf_60 hF hR hB h
      · refine am_icmp_ge_f (t := 60) d_X0_interestOf_27 (by decide) hc hF ?_
        refine am_seg s_Ac_interestOf_7 (y := (38, [(0, .ref 127), (1, .ref 1), (3, .int a3), (4, .long a4), (6, .long a6), (8, .int a8)], [.int a8, .ref 137, .long a4], am_D τ)) hF t_s_Ac_interestOf_7 rfl rfl ?_
        refine am_gd h (fun hi h => ?_)
        refine am_iald (n := 900) (j := (a8.toNatClampNeg)) d_X0_interestOf_38 (Nat.le_of_ble_eq_true rfl) (Nat.le_of_ble_eq_true rfl) rfl hi rfl hF ?_
        refine am_seg s_Ac_interestOf_8 (y := (48, [(4, .long (a4 + (Int32.toInt64 (τ.1 137 (a8.toNatClampNeg))))), (0, .ref 127), (1, .ref 1), (3, .int a3), (6, .long a6), (8, .int a8)], [.long (a4 + (Int32.toInt64 (τ.1 137 (a8.toNatClampNeg)))), .long (lN 0), .long a6], am_D τ)) hF t_s_Ac_interestOf_8 rfl rfl ?_
        refine am_mmaxL d_X0_interestOf_48 wq_maxL_0_95 wq_maxL_s wq_math wq_maxL_c ⟨by decide, Nat.le_of_ble_eq_true rfl⟩ (Nat.le_refl _) hF hR ?_
        refine am_seg s_Ac_interestOf_9 (y := (16, [(8, .int (a8 + (nI 1))), (6, .long (a6 + (if (a4 + (Int32.toInt64 (τ.1 137 (a8.toNatClampNeg)))) < (lN 0) then (lN 0) else (a4 + (Int32.toInt64 (τ.1 137 (a8.toNatClampNeg))))))), (4, .long (a4 + (Int32.toInt64 (τ.1 137 (a8.toNatClampNeg))))), (0, .ref 127), (1, .ref 1), (3, .int a3)], [], am_D τ)) hF t_s_Ac_interestOf_9 rfl rfl ?_
        refine am_pick [3, 4, 5, 2, 1, 0] rfl ?_
        exact ih _ _ _ _ _ h
def Ac_interestOf (τ : am_T) (a2 : Int32) (a3 : Int32) : Option (Int32 × am_T) :=
  (Ac_readChanges τ a2 a3).bind (fun x1 =>
  Ac_interestOf_16 5000 x1 a3 (lN 0) (lN 0) (nI 0))
set_option maxRecDepth 20000 in
theorem ok_Ac_interestOf {X : am_X} {a2 : Int32} {a3 : Int32} {v : Int32} {τ τ' : am_T} (hF : am_F X "ShareHouse$Accounts" cX0_interestOf 9) (hR : am_R X 2 49) (hB : am_B X (some .int) (some (.int v)) (am_D τ')) (h : Ac_interestOf τ a2 a3 = some (v, τ')) : am_W X 9 (0, [(0, .ref 127), (1, .ref 1), (2, .int a2), (3, .int a3)], [], am_D τ) := by
  unfold Ac_interestOf at h
  refine am_seg s_Ac_interestOf_0 (y := (4, [(0, .ref 127), (1, .ref 1), (2, .int a2), (3, .int a3)], [.int a3, .int a2, .ref 1, .ref 127], am_D τ)) hF t_s_Ac_interestOf_0 rfl rfl ?_
  refine am_bd h (fun x1 hx h => ?_)
  refine am_callV (As := [.ref 1, .int a2, .int a3]) (r := none) (st := []) (σ' := am_D x1) (ci := 0) hF hR d_X0_interestOf_4 (c_Ac_readChanges (τ' := x1) hx) (Nat.le_refl _) (Nat.le_refl _) wl_Ac_92 wi_yX0_readChanges we_yX0_readChanges wn_ShareHouse_Accounts wc_yX0_readChanges (Nat.le_of_ble_eq_true rfl) (Nat.le_of_ble_eq_true rfl) rfl rfl wy_yX0_readChanges rfl ⟨by decide, by decide⟩ (Nat.le_of_ble_eq_true rfl) ?_
  refine am_seg s_Ac_interestOf_1 (y := (16, [(8, .int (nI 0)), (6, .long (lN 0)), (4, .long (lN 0)), (0, .ref 127), (1, .ref 1), (2, .int a2), (3, .int a3)], [], am_D x1)) hF t_s_Ac_interestOf_1 rfl rfl ?_
  refine am_pick [3, 4, 6, 2, 1, 0] rfl ?_
  exact ok_Ac_interestOf_16 hF hR hB _ _ _ _ _ _ h
theorem c_Ac_interestOf {a2 : Int32} {a3 : Int32} {v : Int32} {τ τ' : am_T} (h : Ac_interestOf τ a2 a3 = some (v, τ')) : am_C yX0_interestOf cX0_interestOf 9 (some .int) 2 49 [.ref 127, .ref 1, .int a2, .int a3] (am_D τ) (some (.int v)) (am_D τ') :=
  am_enter (by decide +kernel) (Nat.le_of_ble_eq_true rfl) ⟨Nat.le_refl _, Nat.le_refl _⟩ (fun X hF hR hB => ok_Ac_interestOf hF hR hB h)
def s_X_account_0 : List am_Q := [(0, .iload_n 1, 0, 0, 0, .null)]
theorem t_s_X_account_0 : s_X_account_0.all (am_ok 11 cX11_account) = true := by decide +kernel
theorem d_X11_account_1 : decode cX11_account 1 = .ok (.invokestatic 210, 3) := by decide +kernel
theorem d_X11_account_4 : decode cX11_account 4 = .ok (.ifCond .eq 20, 3) := by decide +kernel
def s_X_account_1 : List am_Q := [(24, .ldc 205, 0, 0, 3, .int (-1000000000 : Int32))]
theorem t_s_X_account_1 : s_X_account_1.all (am_ok 11 cX11_account) = true := by decide +kernel
theorem d_X11_account_26 : decode cX11_account 26 = .ok (.ireturn, 1) := by decide +kernel
def s_X_account_2 : List am_Q := [(7, .aload_n 0, 0, 0, 0, .null), (8, .iload_n 2, 0, 0, 0, .null)]
theorem t_s_X_account_2 : s_X_account_2.all (am_ok 11 cX11_account) = true := by decide +kernel
theorem d_X11_account_9 : decode cX11_account 9 = .ok (.invokevirtual 153, 3) := by decide +kernel
theorem d_X11_account_12 : decode cX11_account 12 = .ok (.ifCond .eq 12, 3) := by decide +kernel
def s_X_account_3 : List am_Q := [(24, .ldc 205, 0, 0, 3, .int (-1000000000 : Int32))]
theorem t_s_X_account_3 : s_X_account_3.all (am_ok 11 cX11_account) = true := by decide +kernel
def s_X_account_4 : List am_Q := [(15, .iload_n 3, 0, 0, 0, .null), (16, .iconst 0, 0, 0, 0, .int (nI 0)), (17, .iconst 3, 0, 0, 0, .int (nI 3))]
theorem t_s_X_account_4 : s_X_account_4.all (am_ok 11 cX11_account) = true := by decide +kernel
theorem d_X11_account_18 : decode cX11_account 18 = .ok (.invokestatic 47, 3) := by decide +kernel
theorem d_X11_account_21 : decode cX11_account 21 = .ok (.ifCond .ne 6, 3) := by decide +kernel
def s_X_account_5 : List am_Q := [(27, .iload_n 3, 0, 0, 0, .null), (28, .iconst 1, 0, 0, 0, .int (nI 1))]
theorem t_s_X_account_5 : s_X_account_5.all (am_ok 11 cX11_account) = true := by decide +kernel
theorem d_X11_account_29 : decode cX11_account 29 = .ok (.if_icmp .ne 16, 3) := by decide +kernel
def s_X_account_6 : List am_Q := [(45, .aload_n 0, 0, 0, 0, .null), (46, .getfield 43, 11, 6, 151, .null), (49, .aload_n 0, 0, 0, 0, .null), (50, .getfield 10, 11, 0, 145, .null), (53, .aload_n 0, 0, 0, 0, .null), (54, .getfield 36, 11, 5, 150, .null), (57, .iload_n 2, 0, 0, 0, .null)]
theorem t_s_X_account_6 : s_X_account_6.all (am_ok 11 cX11_account) = true := by decide +kernel
theorem d_X11_account_58 : decode cX11_account 58 = .ok (.invokevirtual 232, 3) := by decide +kernel
def s_X_account_7 : List am_Q := [(61, .iload_n 3, 0, 0, 0, .null)]
theorem t_s_X_account_7 : s_X_account_7.all (am_ok 11 cX11_account) = true := by decide +kernel
theorem d_X11_account_62 : decode cX11_account 62 = .ok (.lookupswitch 49 #[(0, 26), (2, 35)], 26) := by decide +kernel
def s_X_account_8 : List am_Q := [(88, .aload_n 0, 0, 0, 0, .null), (89, .getfield 43, 11, 6, 151, .null), (92, .iload_n 1, 0, 0, 0, .null)]
theorem t_s_X_account_8 : s_X_account_8.all (am_ok 11 cX11_account) = true := by decide +kernel
theorem d_X11_account_93 : decode cX11_account 93 = .ok (.invokevirtual 236, 3) := by decide +kernel
theorem d_X11_account_96 : decode cX11_account 96 = .ok (.ireturn, 1) := by decide +kernel
def s_X_account_9 : List am_Q := [(97, .aload_n 0, 0, 0, 0, .null), (98, .getfield 43, 11, 6, 151, .null), (101, .aload_n 0, 0, 0, 0, .null), (102, .getfield 10, 11, 0, 145, .null), (105, .iload_n 1, 0, 0, 0, .null), (106, .iload_n 2, 0, 0, 0, .null)]
theorem t_s_X_account_9 : s_X_account_9.all (am_ok 11 cX11_account) = true := by decide +kernel
theorem d_X11_account_107 : decode cX11_account 107 = .ok (.invokevirtual 239, 3) := by decide +kernel
theorem d_X11_account_110 : decode cX11_account 110 = .ok (.ireturn, 1) := by decide +kernel
def s_X_account_10 : List am_Q := [(111, .aload_n 0, 0, 0, 0, .null), (112, .getfield 43, 11, 6, 151, .null), (115, .aload_n 0, 0, 0, 0, .null), (116, .getfield 10, 11, 0, 145, .null), (119, .iload_n 1, 0, 0, 0, .null), (120, .iload_n 2, 0, 0, 0, .null)]
theorem t_s_X_account_10 : s_X_account_10.all (am_ok 11 cX11_account) = true := by decide +kernel
theorem d_X11_account_121 : decode cX11_account 121 = .ok (.invokevirtual 243, 3) := by decide +kernel
theorem d_X11_account_124 : decode cX11_account 124 = .ok (.ireturn, 1) := by decide +kernel
def s_X_account_11 : List am_Q := [(32, .aload_n 0, 0, 0, 0, .null), (33, .getfield 10, 11, 0, 145, .null), (36, .getfield 213, 3, 5, 104, .null), (39, .iload_n 1, 0, 0, 0, .null), (40, .iload_n 2, 0, 0, 0, .null)]
theorem t_s_X_account_11 : s_X_account_11.all (am_ok 11 cX11_account) = true := by decide +kernel
theorem d_X11_account_41 : decode cX11_account 41 = .ok (.invokevirtual 229, 3) := by decide +kernel
theorem d_X11_account_44 : decode cX11_account 44 = .ok (.ireturn, 1) := by decide +kernel
def s_X_account_12 : List am_Q := [(24, .ldc 205, 0, 0, 3, .int (-1000000000 : Int32))]
theorem t_s_X_account_12 : s_X_account_12.all (am_ok 11 cX11_account) = true := by decide +kernel
def X_account (τ : am_T) (a1 : Int32) (a2 : Int32) (a3 : Int32) : Option (Int32 × am_T) :=
  (X_isOwner τ a1).bind (fun x1 =>
  if x1.1 = 0 then
  (some ((-1000000000 : Int32), x1.2))
else
  ((X_isPast x1.2 a2).bind (fun x2 =>
  if x2.1 = 0 then
  (some ((-1000000000 : Int32), x2.2))
else
  ((X_within x2.2 a3 (nI 0) (nI 3)).bind (fun x3 =>
  if x3.1 = 0 then
  (some ((-1000000000 : Int32), x3.2))
else
  (if a3 = (nI 1) then
  ((Ow_paidBy x3.2 a1 a2).bind (fun x8 =>
  some (x8.1, x8.2)))
else
  ((Ac_reckon x3.2 a2).bind (fun x4 =>
  if a3 = nI 0 then
  ((Ac_billOf x4 a1).bind (fun x5 =>
  some (x5.1, x5.2)))
else
  (if a3 = nI 2 then
  ((Ac_balanceOf x4 a1 a2).bind (fun x6 =>
  some (x6.1, x6.2)))
else
  ((Ac_interestOf x4 a1 a2).bind (fun x7 =>
  some (x7.1, x7.2))))))))))))
set_option maxRecDepth 20000 in
theorem ok_X_account {X : am_X} {a1 : Int32} {a2 : Int32} {a3 : Int32} {v : Int32} {τ τ' : am_T} (hF : am_F X "ShareHouse" cX11_account 4) (hR : am_R X 6 159) (hB : am_B X (some .int) (some (.int v)) (am_D τ')) (h : X_account τ a1 a2 a3 = some (v, τ')) : am_W X 4 (0, [(0, .ref 0), (1, .int a1), (2, .int a2), (3, .int a3)], [], am_D τ) := by
  unfold X_account at h
  refine am_seg s_X_account_0 (y := (1, [(0, .ref 0), (1, .int a1), (2, .int a2), (3, .int a3)], [.int a1], am_D τ)) hF t_s_X_account_0 rfl rfl ?_
  refine am_bd h (fun x1 hx h => ?_)
  refine am_callS (As := [.int a1]) (r := (some (.int x1.1))) (st := []) (σ' := am_D x1.2) hF hR d_X11_account_1 (c_X_isOwner (τ' := x1.2) hx) (Nat.le_refl _) (Nat.le_refl _) wl_X_210 ws_yX11_isOwner wn_ShareHouse wc_yX11_isOwner wy_yX11_isOwner rfl ⟨by decide, by decide⟩ (Nat.le_of_ble_eq_true rfl) ?_
  refine am_ite h (fun hc h => ?_) (fun hc h => ?_)
  · refine am_if_eq_t (t := 24) d_X11_account_4 (by decide) hc hF ?_
    refine am_seg s_X_account_1 (y := (26, [(0, .ref 0), (1, .int a1), (2, .int a2), (3, .int a3)], [.int (-1000000000 : Int32)], am_D x1.2)) hF t_s_X_account_1 rfl rfl ?_
    obtain ⟨rfl, rfl⟩ := am_pair h
    exact am_iret d_X11_account_26 hF hB
  · refine am_if_eq_f (t := 24) d_X11_account_4 (by decide) hc hF ?_
    refine am_seg s_X_account_2 (y := (9, [(0, .ref 0), (1, .int a1), (2, .int a2), (3, .int a3)], [.int a2, .ref 0], am_D x1.2)) hF t_s_X_account_2 rfl rfl ?_
    refine am_bd h (fun x2 hx h => ?_)
    refine am_callV (As := [.int a2]) (r := (some (.int x2.1))) (st := []) (σ' := am_D x2.2) (ci := 11) hF hR d_X11_account_9 (c_X_isPast (τ' := x2.2) hx) (Nat.le_refl _) (Nat.le_refl _) wl_X_153 wi_yX11_isPast we_yX11_isPast wn_ShareHouse wc_yX11_isPast (Nat.le_of_ble_eq_true rfl) (Nat.le_of_ble_eq_true rfl) rfl rfl wy_yX11_isPast rfl ⟨by decide, by decide⟩ (Nat.le_of_ble_eq_true rfl) ?_
    refine am_ite h (fun hc h => ?_) (fun hc h => ?_)
    · refine am_if_eq_t (t := 24) d_X11_account_12 (by decide) hc hF ?_
      refine am_seg s_X_account_3 (y := (26, [(0, .ref 0), (1, .int a1), (2, .int a2), (3, .int a3)], [.int (-1000000000 : Int32)], am_D x2.2)) hF t_s_X_account_3 rfl rfl ?_
      obtain ⟨rfl, rfl⟩ := am_pair h
      exact am_iret d_X11_account_26 hF hB
    · refine am_if_eq_f (t := 24) d_X11_account_12 (by decide) hc hF ?_
      refine am_seg s_X_account_4 (y := (18, [(0, .ref 0), (1, .int a1), (2, .int a2), (3, .int a3)], [.int (nI 3), .int (nI 0), .int a3], am_D x2.2)) hF t_s_X_account_4 rfl rfl ?_
      refine am_bd h (fun x3 hx h => ?_)
      refine am_callS (As := [.int a3, .int (nI 0), .int (nI 3)]) (r := (some (.int x3.1))) (st := []) (σ' := am_D x3.2) hF hR d_X11_account_18 (c_X_within (τ' := x3.2) hx) (Nat.le_refl _) (Nat.le_refl _) wl_X_47 ws_yX11_within wn_ShareHouse wc_yX11_within wy_yX11_within rfl ⟨by decide, by decide⟩ (Nat.le_of_ble_eq_true rfl) ?_
      refine am_ite h (fun hc h => ?_) (fun hc h => ?_)
      · refine am_if_ne_f (t := 27) d_X11_account_21 (by decide) hc hF ?_
        refine am_seg s_X_account_12 (y := (26, [(0, .ref 0), (1, .int a1), (2, .int a2), (3, .int a3)], [.int (-1000000000 : Int32)], am_D x3.2)) hF t_s_X_account_12 rfl rfl ?_
        obtain ⟨rfl, rfl⟩ := am_pair h
        exact am_iret d_X11_account_26 hF hB
      · refine am_if_ne_t (t := 27) d_X11_account_21 (by decide) hc hF ?_
        refine am_seg s_X_account_5 (y := (29, [(0, .ref 0), (1, .int a1), (2, .int a2), (3, .int a3)], [.int (nI 1), .int a3], am_D x3.2)) hF t_s_X_account_5 rfl rfl ?_
        refine am_ite h (fun hc h => ?_) (fun hc h => ?_)
        · refine am_icmp_ne_f (t := 45) d_X11_account_29 (by decide) hc hF ?_
          refine am_seg s_X_account_11 (y := (41, [(0, .ref 0), (1, .int a1), (2, .int a2), (3, .int a3)], [.int a2, .int a1, .ref 34], am_D x3.2)) hF t_s_X_account_11 rfl rfl ?_
          refine am_bd h (fun x8 hx h => ?_)
          refine am_callV (As := [.int a1, .int a2]) (r := (some (.int x8.1))) (st := []) (σ' := am_D x8.2) (ci := 5) hF hR d_X11_account_41 (c_Ow_paidBy (τ' := x8.2) hx) (Nat.le_refl _) (Nat.le_refl _) wl_X_229 wi_yX5_paidBy we_yX5_paidBy wn_ShareHouse_Owners wc_yX5_paidBy (Nat.le_of_ble_eq_true rfl) (Nat.le_of_ble_eq_true rfl) rfl rfl wy_yX5_paidBy rfl ⟨by decide, by decide⟩ (Nat.le_of_ble_eq_true rfl) ?_
          obtain ⟨rfl, rfl⟩ := am_pair h
          exact am_iret d_X11_account_44 hF hB
        · refine am_icmp_ne_t (t := 45) d_X11_account_29 (by decide) hc hF ?_
          refine am_seg s_X_account_6 (y := (58, [(0, .ref 0), (1, .int a1), (2, .int a2), (3, .int a3)], [.int a2, .ref 121, .ref 1, .ref 127], am_D x3.2)) hF t_s_X_account_6 rfl rfl ?_
          refine am_bd h (fun x4 hx h => ?_)
          refine am_callV (As := [.ref 1, .ref 121, .int a2]) (r := none) (st := []) (σ' := am_D x4) (ci := 0) hF hR d_X11_account_58 (c_Ac_reckon (τ' := x4) hx) (Nat.le_refl _) (Nat.le_refl _) wl_X_232 wi_yX0_reckon we_yX0_reckon wn_ShareHouse_Accounts wc_yX0_reckon (Nat.le_of_ble_eq_true rfl) (Nat.le_of_ble_eq_true rfl) rfl rfl wy_yX0_reckon rfl ⟨by decide, by decide⟩ (Nat.le_of_ble_eq_true rfl) ?_
          refine am_seg s_X_account_7 (y := (62, [(0, .ref 0), (1, .int a1), (2, .int a2), (3, .int a3)], [.int a3], am_D x4)) hF t_s_X_account_7 rfl rfl ?_
          refine am_ite h (fun hc0 h => ?_) (fun hc0 h => ?_)
          · refine am_lsw (o := 26) (t := 88) d_X11_account_62 (by decide) (by rw [hc0]; rfl) (by decide) hF ?_
            refine am_seg s_X_account_8 (y := (93, [(0, .ref 0), (1, .int a1), (2, .int a2), (3, .int a3)], [.int a1, .ref 127], am_D x4)) hF t_s_X_account_8 rfl rfl ?_
            refine am_bd h (fun x5 hx h => ?_)
            refine am_callV (As := [.int a1]) (r := (some (.int x5.1))) (st := []) (σ' := am_D x5.2) (ci := 0) hF hR d_X11_account_93 (c_Ac_billOf (τ' := x5.2) hx) (Nat.le_refl _) (Nat.le_refl _) wl_X_236 wi_yX0_billOf we_yX0_billOf wn_ShareHouse_Accounts wc_yX0_billOf (Nat.le_of_ble_eq_true rfl) (Nat.le_of_ble_eq_true rfl) rfl rfl wy_yX0_billOf rfl ⟨by decide, by decide⟩ (Nat.le_of_ble_eq_true rfl) ?_
            obtain ⟨rfl, rfl⟩ := am_pair h
            exact am_iret d_X11_account_96 hF hB
          · refine am_ite h (fun hc1 h => ?_) (fun hc1 h => ?_)
            · refine am_lsw (o := 35) (t := 97) d_X11_account_62 (by decide) (by rw [hc1]; rfl) (by decide) hF ?_
              refine am_seg s_X_account_9 (y := (107, [(0, .ref 0), (1, .int a1), (2, .int a2), (3, .int a3)], [.int a2, .int a1, .ref 1, .ref 127], am_D x4)) hF t_s_X_account_9 rfl rfl ?_
              refine am_bd h (fun x6 hx h => ?_)
              refine am_callV (As := [.ref 1, .int a1, .int a2]) (r := (some (.int x6.1))) (st := []) (σ' := am_D x6.2) (ci := 0) hF hR d_X11_account_107 (c_Ac_balanceOf (τ' := x6.2) hx) (Nat.le_refl _) (Nat.le_refl _) wl_X_239 wi_yX0_balanceOf we_yX0_balanceOf wn_ShareHouse_Accounts wc_yX0_balanceOf (Nat.le_of_ble_eq_true rfl) (Nat.le_of_ble_eq_true rfl) rfl rfl wy_yX0_balanceOf rfl ⟨by decide, by decide⟩ (Nat.le_of_ble_eq_true rfl) ?_
              obtain ⟨rfl, rfl⟩ := am_pair h
              exact am_iret d_X11_account_110 hF hB
            · refine am_lsw (o := 49) (t := 111) d_X11_account_62 (by decide) ((lv_osw hc0 rfl).trans ((lv_osw hc1 rfl).trans (rfl))) (by decide) hF ?_
              refine am_seg s_X_account_10 (y := (121, [(0, .ref 0), (1, .int a1), (2, .int a2), (3, .int a3)], [.int a2, .int a1, .ref 1, .ref 127], am_D x4)) hF t_s_X_account_10 rfl rfl ?_
              refine am_bd h (fun x7 hx h => ?_)
              refine am_callV (As := [.ref 1, .int a1, .int a2]) (r := (some (.int x7.1))) (st := []) (σ' := am_D x7.2) (ci := 0) hF hR d_X11_account_121 (c_Ac_interestOf (τ' := x7.2) hx) (Nat.le_refl _) (Nat.le_refl _) wl_X_243 wi_yX0_interestOf we_yX0_interestOf wn_ShareHouse_Accounts wc_yX0_interestOf (Nat.le_of_ble_eq_true rfl) (Nat.le_of_ble_eq_true rfl) rfl rfl wy_yX0_interestOf rfl ⟨by decide, by decide⟩ (Nat.le_of_ble_eq_true rfl) ?_
              obtain ⟨rfl, rfl⟩ := am_pair h
              exact am_iret d_X11_account_124 hF hB
theorem c_X_account {a1 : Int32} {a2 : Int32} {a3 : Int32} {v : Int32} {τ τ' : am_T} (h : X_account τ a1 a2 a3 = some (v, τ')) : am_C yX11_account cX11_account 4 (some .int) 6 159 [.ref 0, .int a1, .int a2, .int a3] (am_D τ) (some (.int v)) (am_D τ') :=
  am_enter (by decide +kernel) (Nat.le_of_ble_eq_true rfl) ⟨Nat.le_refl _, Nat.le_refl _⟩ (fun X hF hR hB => ok_X_account hF hR hB h)

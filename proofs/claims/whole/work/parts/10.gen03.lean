def s_X_law_0 : List am_Q := [(0, .iload_n 1, 0, 0, 0, .null)]
theorem t_s_X_law_0 : s_X_law_0.all (am_ok 11 cX11_law) = true := by decide +kernel
theorem d_X11_law_1 : decode cX11_law 1 = .ok (.invokestatic 112, 3) := by decide +kernel
theorem d_X11_law_4 : decode cX11_law 4 = .ok (.ifCond .eq 12, 3) := by decide +kernel
def s_X_law_1 : List am_Q := [(16, .iconst (-1), 0, 0, 0, .int (-1 : Int32))]
theorem t_s_X_law_1 : s_X_law_1.all (am_ok 11 cX11_law) = true := by decide +kernel
theorem d_X11_law_17 : decode cX11_law 17 = .ok (.ireturn, 1) := by decide +kernel
def s_X_law_2 : List am_Q := [(7, .iload_n 2, 0, 0, 0, .null), (8, .iconst 0, 0, 0, 0, .int (nI 0)), (9, .iconst 2, 0, 0, 0, .int (nI 2))]
theorem t_s_X_law_2 : s_X_law_2.all (am_ok 11 cX11_law) = true := by decide +kernel
theorem d_X11_law_10 : decode cX11_law 10 = .ok (.invokestatic 47, 3) := by decide +kernel
theorem d_X11_law_13 : decode cX11_law 13 = .ok (.ifCond .ne 5, 3) := by decide +kernel
def s_X_law_3 : List am_Q := [(18, .aload_n 0, 0, 0, 0, .null), (19, .getfield 10, 11, 0, 145, .null), (22, .getfield 144, 3, 2, 93, .null), (25, .iload_n 1, 0, 0, 0, .null)]
theorem t_s_X_law_3 : s_X_law_3.all (am_ok 11 cX11_law) = true := by decide +kernel
theorem d_X11_law_26 : decode cX11_law 26 = .ok (.iaload, 1) := by decide +kernel
def s_X_law_4 : List am_Q := [(27, .istore_n 3, 0, 0, 0, .null), (28, .aload_n 0, 0, 0, 0, .null), (29, .getfield 10, 11, 0, 145, .null), (32, .getfield 144, 3, 2, 93, .null), (35, .iload_n 1, 0, 0, 0, .null), (36, .iload_n 2, 0, 0, 0, .null)]
theorem t_s_X_law_4 : s_X_law_4.all (am_ok 11 cX11_law) = true := by decide +kernel
theorem d_X11_law_37 : decode cX11_law 37 = .ok (.iastore, 1) := by decide +kernel
def s_X_law_5 : List am_Q := [(38, .iload_n 3, 0, 0, 0, .null)]
theorem t_s_X_law_5 : s_X_law_5.all (am_ok 11 cX11_law) = true := by decide +kernel
theorem d_X11_law_39 : decode cX11_law 39 = .ok (.ireturn, 1) := by decide +kernel
def s_X_law_6 : List am_Q := [(16, .iconst (-1), 0, 0, 0, .int (-1 : Int32))]
theorem t_s_X_law_6 : s_X_law_6.all (am_ok 11 cX11_law) = true := by decide +kernel
def X_law (τ : am_T) (a1 : Int32) (a2 : Int32) : Option (Int32 × am_T) :=
  (X_isHead τ a1).bind (fun x1 =>
  if x1.1 = 0 then
  (some ((-1 : Int32), x1.2))
else
  ((X_within x1.2 a2 (nI 0) (nI 2)).bind (fun x2 =>
  if x2.1 = 0 then
  (some ((-1 : Int32), x2.2))
else
  (am_g (am_in a1 6) (am_g (am_in a1 6) (some ((x2.2.1 3 (a1.toNatClampNeg)), (am_si x2.2 3 (a1.toNatClampNeg) a2))))))))
set_option maxRecDepth 20000 in
theorem ok_X_law {X : am_X} {a1 : Int32} {a2 : Int32} {v : Int32} {τ τ' : am_T} (hF : am_F X "ShareHouse" cX11_law 4) (hR : am_R X 2 42) (hB : am_B X (some .int) (some (.int v)) (am_D τ')) (h : X_law τ a1 a2 = some (v, τ')) : am_W X 4 (0, [(0, .ref 0), (1, .int a1), (2, .int a2)], [], am_D τ) := by
  unfold X_law at h
  refine am_seg s_X_law_0 (y := (1, [(0, .ref 0), (1, .int a1), (2, .int a2)], [.int a1], am_D τ)) hF t_s_X_law_0 rfl rfl ?_
  refine am_bd h (fun x1 hx h => ?_)
  refine am_callS (As := [.int a1]) (r := (some (.int x1.1))) (st := []) (σ' := am_D x1.2) hF hR d_X11_law_1 (c_X_isHead (τ' := x1.2) hx) (Nat.le_refl _) (Nat.le_refl _) wl_X_112 ws_yX11_isHead wn_ShareHouse wc_yX11_isHead wy_yX11_isHead rfl ⟨by decide, by decide⟩ (Nat.le_of_ble_eq_true rfl) ?_
  refine am_ite h (fun hc h => ?_) (fun hc h => ?_)
  · refine am_if_eq_t (t := 16) d_X11_law_4 (by decide) hc hF ?_
    refine am_seg s_X_law_1 (y := (17, [(0, .ref 0), (1, .int a1), (2, .int a2)], [.int (-1 : Int32)], am_D x1.2)) hF t_s_X_law_1 rfl rfl ?_
    obtain ⟨rfl, rfl⟩ := am_pair h
    exact am_iret d_X11_law_17 hF hB
  · refine am_if_eq_f (t := 16) d_X11_law_4 (by decide) hc hF ?_
    refine am_seg s_X_law_2 (y := (10, [(0, .ref 0), (1, .int a1), (2, .int a2)], [.int (nI 2), .int (nI 0), .int a2], am_D x1.2)) hF t_s_X_law_2 rfl rfl ?_
    refine am_bd h (fun x2 hx h => ?_)
    refine am_callS (As := [.int a2, .int (nI 0), .int (nI 2)]) (r := (some (.int x2.1))) (st := []) (σ' := am_D x2.2) hF hR d_X11_law_10 (c_X_within (τ' := x2.2) hx) (Nat.le_refl _) (Nat.le_refl _) wl_X_47 ws_yX11_within wn_ShareHouse wc_yX11_within wy_yX11_within rfl ⟨by decide, by decide⟩ (Nat.le_of_ble_eq_true rfl) ?_
    refine am_ite h (fun hc h => ?_) (fun hc h => ?_)
    · refine am_if_ne_f (t := 18) d_X11_law_13 (by decide) hc hF ?_
      refine am_seg s_X_law_6 (y := (17, [(0, .ref 0), (1, .int a1), (2, .int a2)], [.int (-1 : Int32)], am_D x2.2)) hF t_s_X_law_6 rfl rfl ?_
      obtain ⟨rfl, rfl⟩ := am_pair h
      exact am_iret d_X11_law_17 hF hB
    · refine am_if_ne_t (t := 18) d_X11_law_13 (by decide) hc hF ?_
      refine am_seg s_X_law_3 (y := (26, [(0, .ref 0), (1, .int a1), (2, .int a2)], [.int a1, .ref 3], am_D x2.2)) hF t_s_X_law_3 rfl rfl ?_
      refine am_gd h (fun hi h => ?_)
      refine am_iald (n := 6) (j := (a1.toNatClampNeg)) d_X11_law_26 (Nat.le_of_ble_eq_true rfl) (Nat.le_of_ble_eq_true rfl) rfl hi rfl hF ?_
      refine am_seg s_X_law_4 (y := (37, [(3, .int (x2.2.1 3 (a1.toNatClampNeg))), (0, .ref 0), (1, .int a1), (2, .int a2)], [.int a2, .int a1, .ref 3], am_D x2.2)) hF t_s_X_law_4 rfl rfl ?_
      refine am_gd h (fun hi h => ?_)
      refine am_iast (n := 6) (j := (a1.toNatClampNeg)) d_X11_law_37 (Nat.le_of_ble_eq_true rfl) (Nat.le_of_ble_eq_true rfl) rfl hi rfl hF ?_
      refine am_seg s_X_law_5 (y := (39, [(3, .int (x2.2.1 3 (a1.toNatClampNeg))), (0, .ref 0), (1, .int a1), (2, .int a2)], [.int (x2.2.1 3 (a1.toNatClampNeg))], am_D (am_si x2.2 3 (a1.toNatClampNeg) a2))) hF t_s_X_law_5 rfl rfl ?_
      obtain ⟨rfl, rfl⟩ := am_pair h
      exact am_iret d_X11_law_39 hF hB
theorem c_X_law {a1 : Int32} {a2 : Int32} {v : Int32} {τ τ' : am_T} (h : X_law τ a1 a2 = some (v, τ')) : am_C yX11_law cX11_law 4 (some .int) 2 42 [.ref 0, .int a1, .int a2] (am_D τ) (some (.int v)) (am_D τ') :=
  am_enter (by decide +kernel) (Nat.le_of_ble_eq_true rfl) ⟨Nat.le_refl _, Nat.le_refl _⟩ (fun X hF hR hB => ok_X_law hF hR hB h)
def s_X_rule_0 : List am_Q := [(0, .iload_n 1, 0, 0, 0, .null), (1, .iconst 0, 0, 0, 0, .int (nI 0))]
theorem t_s_X_rule_0 : s_X_rule_0.all (am_ok 11 cX11_rule) = true := by decide +kernel
theorem d_X11_rule_2 : decode cX11_rule 2 = .ok (.getstatic 147, 3) := by decide +kernel
theorem d_X11_rule_5 : decode cX11_rule 5 = .ok (.arraylength, 1) := by decide +kernel
def s_X_rule_1 : List am_Q := [(6, .iconst 1, 0, 0, 0, .int (nI 1)), (7, .isub, 0, 0, 0, .null)]
theorem t_s_X_rule_1 : s_X_rule_1.all (am_ok 11 cX11_rule) = true := by decide +kernel
theorem d_X11_rule_8 : decode cX11_rule 8 = .ok (.invokestatic 47, 3) := by decide +kernel
theorem d_X11_rule_11 : decode cX11_rule 11 = .ok (.ifCond .eq 16, 3) := by decide +kernel
def s_X_rule_2 : List am_Q := [(27, .iconst (-1), 0, 0, 0, .int (-1 : Int32))]
theorem t_s_X_rule_2 : s_X_rule_2.all (am_ok 11 cX11_rule) = true := by decide +kernel
theorem d_X11_rule_28 : decode cX11_rule 28 = .ok (.ireturn, 1) := by decide +kernel
def s_X_rule_3 : List am_Q := [(14, .iload_n 2, 0, 0, 0, .null), (15, .iconst 0, 0, 0, 0, .int (nI 0))]
theorem t_s_X_rule_3 : s_X_rule_3.all (am_ok 11 cX11_rule) = true := by decide +kernel
theorem d_X11_rule_16 : decode cX11_rule 16 = .ok (.getstatic 147, 3) := by decide +kernel
def s_X_rule_4 : List am_Q := [(19, .iload_n 1, 0, 0, 0, .null)]
theorem t_s_X_rule_4 : s_X_rule_4.all (am_ok 11 cX11_rule) = true := by decide +kernel
theorem d_X11_rule_20 : decode cX11_rule 20 = .ok (.iaload, 1) := by decide +kernel
theorem d_X11_rule_21 : decode cX11_rule 21 = .ok (.invokestatic 47, 3) := by decide +kernel
theorem d_X11_rule_24 : decode cX11_rule 24 = .ok (.ifCond .ne 5, 3) := by decide +kernel
def s_X_rule_5 : List am_Q := [(29, .aload_n 0, 0, 0, 0, .null), (30, .getfield 10, 11, 0, 145, .null), (33, .getfield 150, 3, 1, 90, .null), (36, .iload_n 1, 0, 0, 0, .null)]
theorem t_s_X_rule_5 : s_X_rule_5.all (am_ok 11 cX11_rule) = true := by decide +kernel
theorem d_X11_rule_37 : decode cX11_rule 37 = .ok (.iaload, 1) := by decide +kernel
def s_X_rule_6 : List am_Q := [(38, .istore_n 3, 0, 0, 0, .null), (39, .aload_n 0, 0, 0, 0, .null), (40, .getfield 10, 11, 0, 145, .null), (43, .getfield 150, 3, 1, 90, .null), (46, .iload_n 1, 0, 0, 0, .null), (47, .iload_n 2, 0, 0, 0, .null)]
theorem t_s_X_rule_6 : s_X_rule_6.all (am_ok 11 cX11_rule) = true := by decide +kernel
theorem d_X11_rule_48 : decode cX11_rule 48 = .ok (.iastore, 1) := by decide +kernel
def s_X_rule_7 : List am_Q := [(49, .iload_n 3, 0, 0, 0, .null)]
theorem t_s_X_rule_7 : s_X_rule_7.all (am_ok 11 cX11_rule) = true := by decide +kernel
theorem d_X11_rule_50 : decode cX11_rule 50 = .ok (.ireturn, 1) := by decide +kernel
def s_X_rule_8 : List am_Q := [(27, .iconst (-1), 0, 0, 0, .int (-1 : Int32))]
theorem t_s_X_rule_8 : s_X_rule_8.all (am_ok 11 cX11_rule) = true := by decide +kernel
def X_rule (τ : am_T) (a1 : Int32) (a2 : Int32) : Option (Int32 × am_T) :=
  (X_within τ a1 (nI 0) ((nI 6) - (nI 1))).bind (fun x1 =>
  if x1.1 = 0 then
  (some ((-1 : Int32), x1.2))
else
  (am_g (am_in a1 6) ((X_within x1.2 a2 (nI 0) (am_RM.getD (a1.toNatClampNeg) 0)).bind (fun x2 =>
  if x2.1 = 0 then
  (some ((-1 : Int32), x2.2))
else
  (am_g (am_in a1 6) (am_g (am_in a1 6) (some ((x2.2.1 2 (a1.toNatClampNeg)), (am_si x2.2 2 (a1.toNatClampNeg) a2)))))))))
set_option maxRecDepth 20000 in
theorem ok_X_rule {X : am_X} {a1 : Int32} {a2 : Int32} {v : Int32} {τ τ' : am_T} (hF : am_F X "ShareHouse" cX11_rule 4) (hR : am_R X 1 22) (hB : am_B X (some .int) (some (.int v)) (am_D τ')) (h : X_rule τ a1 a2 = some (v, τ')) : am_W X 4 (0, [(0, .ref 0), (1, .int a1), (2, .int a2)], [], am_D τ) := by
  unfold X_rule at h
  refine am_seg s_X_rule_0 (y := (2, [(0, .ref 0), (1, .int a1), (2, .int a2)], [.int (nI 0), .int a1], am_D τ)) hF t_s_X_rule_0 rfl rfl ?_
  refine am_gets d_X11_rule_2 wq_most ⟨rfl, rfl⟩ hF ?_
  refine am_tlen d_X11_rule_5 hF ?_
  refine am_seg s_X_rule_1 (y := (8, [(0, .ref 0), (1, .int a1), (2, .int a2)], [.int ((nI 6) - (nI 1)), .int (nI 0), .int a1], am_D τ)) hF t_s_X_rule_1 rfl rfl ?_
  refine am_bd h (fun x1 hx h => ?_)
  refine am_callS (As := [.int a1, .int (nI 0), .int ((nI 6) - (nI 1))]) (r := (some (.int x1.1))) (st := []) (σ' := am_D x1.2) hF hR d_X11_rule_8 (c_X_within (τ' := x1.2) hx) (Nat.le_refl _) (Nat.le_refl _) wl_X_47 ws_yX11_within wn_ShareHouse wc_yX11_within wy_yX11_within rfl ⟨by decide, by decide⟩ (Nat.le_of_ble_eq_true rfl) ?_
  refine am_ite h (fun hc h => ?_) (fun hc h => ?_)
  · refine am_if_eq_t (t := 27) d_X11_rule_11 (by decide) hc hF ?_
    refine am_seg s_X_rule_2 (y := (28, [(0, .ref 0), (1, .int a1), (2, .int a2)], [.int (-1 : Int32)], am_D x1.2)) hF t_s_X_rule_2 rfl rfl ?_
    obtain ⟨rfl, rfl⟩ := am_pair h
    exact am_iret d_X11_rule_28 hF hB
  · refine am_if_eq_f (t := 27) d_X11_rule_11 (by decide) hc hF ?_
    refine am_seg s_X_rule_3 (y := (16, [(0, .ref 0), (1, .int a1), (2, .int a2)], [.int (nI 0), .int a2], am_D x1.2)) hF t_s_X_rule_3 rfl rfl ?_
    refine am_gets d_X11_rule_16 wq_most ⟨rfl, rfl⟩ hF ?_
    refine am_seg s_X_rule_4 (y := (20, [(0, .ref 0), (1, .int a1), (2, .int a2)], [.int a1, .ref 1101, .int (nI 0), .int a2], am_D x1.2)) hF t_s_X_rule_4 rfl rfl ?_
    refine am_gd h (fun hi h => ?_)
    refine am_tald (j := (a1.toNatClampNeg)) d_X11_rule_20 hi rfl hF ?_
    refine am_bd h (fun x2 hx h => ?_)
    refine am_callS (As := [.int a2, .int (nI 0), .int (am_RM.getD (a1.toNatClampNeg) 0)]) (r := (some (.int x2.1))) (st := []) (σ' := am_D x2.2) hF hR d_X11_rule_21 (c_X_within (τ' := x2.2) hx) (Nat.le_refl _) (Nat.le_refl _) wl_X_47 ws_yX11_within wn_ShareHouse wc_yX11_within wy_yX11_within rfl ⟨by decide, by decide⟩ (Nat.le_of_ble_eq_true rfl) ?_
    refine am_ite h (fun hc h => ?_) (fun hc h => ?_)
    · refine am_if_ne_f (t := 29) d_X11_rule_24 (by decide) hc hF ?_
      refine am_seg s_X_rule_8 (y := (28, [(0, .ref 0), (1, .int a1), (2, .int a2)], [.int (-1 : Int32)], am_D x2.2)) hF t_s_X_rule_8 rfl rfl ?_
      obtain ⟨rfl, rfl⟩ := am_pair h
      exact am_iret d_X11_rule_28 hF hB
    · refine am_if_ne_t (t := 29) d_X11_rule_24 (by decide) hc hF ?_
      refine am_seg s_X_rule_5 (y := (37, [(0, .ref 0), (1, .int a1), (2, .int a2)], [.int a1, .ref 2], am_D x2.2)) hF t_s_X_rule_5 rfl rfl ?_
      refine am_gd h (fun hi h => ?_)
      refine am_iald (n := 6) (j := (a1.toNatClampNeg)) d_X11_rule_37 (Nat.le_of_ble_eq_true rfl) (Nat.le_of_ble_eq_true rfl) rfl hi rfl hF ?_
      refine am_seg s_X_rule_6 (y := (48, [(3, .int (x2.2.1 2 (a1.toNatClampNeg))), (0, .ref 0), (1, .int a1), (2, .int a2)], [.int a2, .int a1, .ref 2], am_D x2.2)) hF t_s_X_rule_6 rfl rfl ?_
      refine am_gd h (fun hi h => ?_)
      refine am_iast (n := 6) (j := (a1.toNatClampNeg)) d_X11_rule_48 (Nat.le_of_ble_eq_true rfl) (Nat.le_of_ble_eq_true rfl) rfl hi rfl hF ?_
      refine am_seg s_X_rule_7 (y := (50, [(3, .int (x2.2.1 2 (a1.toNatClampNeg))), (0, .ref 0), (1, .int a1), (2, .int a2)], [.int (x2.2.1 2 (a1.toNatClampNeg))], am_D (am_si x2.2 2 (a1.toNatClampNeg) a2))) hF t_s_X_rule_7 rfl rfl ?_
      obtain ⟨rfl, rfl⟩ := am_pair h
      exact am_iret d_X11_rule_50 hF hB
theorem c_X_rule {a1 : Int32} {a2 : Int32} {v : Int32} {τ τ' : am_T} (h : X_rule τ a1 a2 = some (v, τ')) : am_C yX11_rule cX11_rule 4 (some .int) 1 22 [.ref 0, .int a1, .int a2] (am_D τ) (some (.int v)) (am_D τ') :=
  am_enter (by decide +kernel) (Nat.le_of_ble_eq_true rfl) ⟨Nat.le_refl _, Nat.le_refl _⟩ (fun X hF hR hB => ok_X_rule hF hR hB h)
def s_X_isPast_0 : List am_Q := [(0, .iload_n 1, 0, 0, 0, .null), (1, .iconst 0, 0, 0, 0, .int (nI 0)), (2, .aload_n 0, 0, 0, 0, .null), (3, .getfield 10, 11, 0, 145, .null), (6, .getfield 61, 3, 0, 85, .null)]
theorem t_s_X_isPast_0 : s_X_isPast_0.all (am_ok 11 cX11_isPast) = true := by decide +kernel
theorem d_X11_isPast_9 : decode cX11_isPast 9 = .ok (.invokestatic 47, 3) := by decide +kernel
theorem d_X11_isPast_12 : decode cX11_isPast 12 = .ok (.ireturn, 1) := by decide +kernel
def X_isPast (τ : am_T) (a1 : Int32) : Option (Int32 × am_T) :=
  (X_within τ a1 (nI 0) (τ.1 1 0)).bind (fun x1 =>
  am_g (am_z01 x1.1) (some (x1.1, x1.2)))
set_option maxRecDepth 20000 in
theorem ok_X_isPast {X : am_X} {a1 : Int32} {v : Int32} {τ τ' : am_T} (hF : am_F X "ShareHouse" cX11_isPast 2) (hR : am_R X 1 22) (hB : am_B X (some .boolean) (some (.int v)) (am_D τ')) (h : X_isPast τ a1 = some (v, τ')) : am_W X 2 (0, [(0, .ref 0), (1, .int a1)], [], am_D τ) := by
  unfold X_isPast at h
  refine am_seg s_X_isPast_0 (y := (9, [(0, .ref 0), (1, .int a1)], [.int (τ.1 1 0), .int (nI 0), .int a1], am_D τ)) hF t_s_X_isPast_0 rfl rfl ?_
  refine am_bd h (fun x1 hx h => ?_)
  refine am_callS (As := [.int a1, .int (nI 0), .int (τ.1 1 0)]) (r := (some (.int x1.1))) (st := []) (σ' := am_D x1.2) hF hR d_X11_isPast_9 (c_X_within (τ' := x1.2) hx) (Nat.le_refl _) (Nat.le_refl _) wl_X_47 ws_yX11_within wn_ShareHouse wc_yX11_within wy_yX11_within rfl ⟨by decide, by decide⟩ (Nat.le_of_ble_eq_true rfl) ?_
  refine am_gd h (fun hz h => ?_)
  obtain ⟨rfl, rfl⟩ := am_pair h
  exact am_zret d_X11_isPast_12 (am_z01_n hz) hF hB
theorem c_X_isPast {a1 : Int32} {v : Int32} {τ τ' : am_T} (h : X_isPast τ a1 = some (v, τ')) : am_C yX11_isPast cX11_isPast 2 (some .boolean) 1 22 [.ref 0, .int a1] (am_D τ) (some (.int v)) (am_D τ') :=
  am_enter (by decide +kernel) (Nat.le_of_ble_eq_true rfl) ⟨Nat.le_refl _, Nat.le_refl _⟩ (fun X hF hR hB => ok_X_isPast hF hR hB h)
def s_Co_add_0 : List am_Q := [(0, .aload_n 0, 0, 0, 0, .null), (1, .getfield 44, 1, 5, 33, .null), (4, .bipush 20, 0, 0, 0, .int (nI 20))]
theorem t_s_Co_add_0 : s_Co_add_0.all (am_ok 1 cX1_add) = true := by decide +kernel
theorem d_X1_add_6 : decode cX1_add 6 = .ok (.if_icmp .lt 6, 3) := by decide +kernel
def s_Co_add_1 : List am_Q := [(12, .aload_n 0, 0, 0, 0, .null), (13, .getfield 9, 1, 0, 19, .null), (16, .aload_n 0, 0, 0, 0, .null), (17, .getfield 44, 1, 5, 33, .null), (20, .iload_n 1, 0, 0, 0, .null)]
theorem t_s_Co_add_1 : s_Co_add_1.all (am_ok 1 cX1_add) = true := by decide +kernel
theorem d_X1_add_21 : decode cX1_add 21 = .ok (.iastore, 1) := by decide +kernel
def s_Co_add_2 : List am_Q := [(22, .aload_n 0, 0, 0, 0, .null), (23, .getfield 15, 1, 1, 22, .null), (26, .aload_n 0, 0, 0, 0, .null), (27, .getfield 44, 1, 5, 33, .null), (30, .iload_n 2, 0, 0, 0, .null)]
theorem t_s_Co_add_2 : s_Co_add_2.all (am_ok 1 cX1_add) = true := by decide +kernel
theorem d_X1_add_31 : decode cX1_add 31 = .ok (.iastore, 1) := by decide +kernel
def s_Co_add_3 : List am_Q := [(32, .aload_n 0, 0, 0, 0, .null), (33, .getfield 18, 1, 2, 25, .null), (36, .aload_n 0, 0, 0, 0, .null), (37, .getfield 44, 1, 5, 33, .null), (40, .iload_n 3, 0, 0, 0, .null)]
theorem t_s_Co_add_3 : s_Co_add_3.all (am_ok 1 cX1_add) = true := by decide +kernel
theorem d_X1_add_41 : decode cX1_add 41 = .ok (.iastore, 1) := by decide +kernel
def s_Co_add_4 : List am_Q := [(42, .aload_n 0, 0, 0, 0, .null), (43, .getfield 21, 1, 3, 27, .null), (46, .aload_n 0, 0, 0, 0, .null), (47, .getfield 44, 1, 5, 33, .null), (50, .iload 4, 0, 0, 0, .null)]
theorem t_s_Co_add_4 : s_Co_add_4.all (am_ok 1 cX1_add) = true := by decide +kernel
theorem d_X1_add_52 : decode cX1_add 52 = .ok (.iastore, 1) := by decide +kernel
def s_Co_add_5 : List am_Q := [(53, .aload_n 0, 0, 0, 0, .null), (54, .getfield 24, 1, 4, 29, .null), (57, .aload_n 0, 0, 0, 0, .null), (58, .getfield 44, 1, 5, 33, .null), (61, .iload 5, 0, 0, 0, .null)]
theorem t_s_Co_add_5 : s_Co_add_5.all (am_ok 1 cX1_add) = true := by decide +kernel
theorem d_X1_add_63 : decode cX1_add 63 = .ok (.bastore, 1) := by decide +kernel
def s_Co_add_6 : List am_Q := [(64, .aload_n 0, 0, 0, 0, .null), (65, .dup, 0, 0, 0, .null), (66, .getfield 44, 1, 5, 33, .null), (69, .iconst 1, 0, 0, 0, .int (nI 1)), (70, .iadd, 0, 0, 0, .null), (71, .putfield 44, 1, 5, 33, .null), (74, .aload_n 0, 0, 0, 0, .null), (75, .getfield 44, 1, 5, 33, .null), (78, .iconst 1, 0, 0, 0, .int (nI 1)), (79, .isub, 0, 0, 0, .null)]
theorem t_s_Co_add_6 : s_Co_add_6.all (am_ok 1 cX1_add) = true := by decide +kernel
theorem d_X1_add_80 : decode cX1_add 80 = .ok (.ireturn, 1) := by decide +kernel
def s_Co_add_7 : List am_Q := [(9, .bipush (-2), 0, 0, 0, .int (-2 : Int32))]
theorem t_s_Co_add_7 : s_Co_add_7.all (am_ok 1 cX1_add) = true := by decide +kernel
theorem d_X1_add_11 : decode cX1_add 11 = .ok (.ireturn, 1) := by decide +kernel
def Co_add (τ : am_T) (a1 : Int32) (a2 : Int32) (a3 : Int32) (a4 : Int32) (a5 : Int32) : Option (Int32 × am_T) :=
  if (τ.1 25 5) < (nI 20) then
  (am_g (am_in (τ.1 25 5) 20) (am_g (am_in ((am_si τ 26 ((τ.1 25 5).toNatClampNeg) a1).1 25 5) 20) (am_g (am_in ((am_si (am_si τ 26 ((τ.1 25 5).toNatClampNeg) a1) 27 (((am_si τ 26 ((τ.1 25 5).toNatClampNeg) a1).1 25 5).toNatClampNeg) a2).1 25 5) 20) (am_g (am_in ((am_si (am_si (am_si τ 26 ((τ.1 25 5).toNatClampNeg) a1) 27 (((am_si τ 26 ((τ.1 25 5).toNatClampNeg) a1).1 25 5).toNatClampNeg) a2) 28 (((am_si (am_si τ 26 ((τ.1 25 5).toNatClampNeg) a1) 27 (((am_si τ 26 ((τ.1 25 5).toNatClampNeg) a1).1 25 5).toNatClampNeg) a2).1 25 5).toNatClampNeg) a3).1 25 5) 20) (am_g (am_in ((am_si (am_si (am_si (am_si τ 26 ((τ.1 25 5).toNatClampNeg) a1) 27 (((am_si τ 26 ((τ.1 25 5).toNatClampNeg) a1).1 25 5).toNatClampNeg) a2) 28 (((am_si (am_si τ 26 ((τ.1 25 5).toNatClampNeg) a1) 27 (((am_si τ 26 ((τ.1 25 5).toNatClampNeg) a1).1 25 5).toNatClampNeg) a2).1 25 5).toNatClampNeg) a3) 29 (((am_si (am_si (am_si τ 26 ((τ.1 25 5).toNatClampNeg) a1) 27 (((am_si τ 26 ((τ.1 25 5).toNatClampNeg) a1).1 25 5).toNatClampNeg) a2) 28 (((am_si (am_si τ 26 ((τ.1 25 5).toNatClampNeg) a1) 27 (((am_si τ 26 ((τ.1 25 5).toNatClampNeg) a1).1 25 5).toNatClampNeg) a2).1 25 5).toNatClampNeg) a3).1 25 5).toNatClampNeg) a4).1 25 5) 20) (am_g (am_z01 a5) (some ((((am_si (am_si (am_si (am_si (am_si (am_si τ 26 ((τ.1 25 5).toNatClampNeg) a1) 27 (((am_si τ 26 ((τ.1 25 5).toNatClampNeg) a1).1 25 5).toNatClampNeg) a2) 28 (((am_si (am_si τ 26 ((τ.1 25 5).toNatClampNeg) a1) 27 (((am_si τ 26 ((τ.1 25 5).toNatClampNeg) a1).1 25 5).toNatClampNeg) a2).1 25 5).toNatClampNeg) a3) 29 (((am_si (am_si (am_si τ 26 ((τ.1 25 5).toNatClampNeg) a1) 27 (((am_si τ 26 ((τ.1 25 5).toNatClampNeg) a1).1 25 5).toNatClampNeg) a2) 28 (((am_si (am_si τ 26 ((τ.1 25 5).toNatClampNeg) a1) 27 (((am_si τ 26 ((τ.1 25 5).toNatClampNeg) a1).1 25 5).toNatClampNeg) a2).1 25 5).toNatClampNeg) a3).1 25 5).toNatClampNeg) a4) 30 (((am_si (am_si (am_si (am_si τ 26 ((τ.1 25 5).toNatClampNeg) a1) 27 (((am_si τ 26 ((τ.1 25 5).toNatClampNeg) a1).1 25 5).toNatClampNeg) a2) 28 (((am_si (am_si τ 26 ((τ.1 25 5).toNatClampNeg) a1) 27 (((am_si τ 26 ((τ.1 25 5).toNatClampNeg) a1).1 25 5).toNatClampNeg) a2).1 25 5).toNatClampNeg) a3) 29 (((am_si (am_si (am_si τ 26 ((τ.1 25 5).toNatClampNeg) a1) 27 (((am_si τ 26 ((τ.1 25 5).toNatClampNeg) a1).1 25 5).toNatClampNeg) a2) 28 (((am_si (am_si τ 26 ((τ.1 25 5).toNatClampNeg) a1) 27 (((am_si τ 26 ((τ.1 25 5).toNatClampNeg) a1).1 25 5).toNatClampNeg) a2).1 25 5).toNatClampNeg) a3).1 25 5).toNatClampNeg) a4).1 25 5).toNatClampNeg) a5) 25 5 (((am_si (am_si (am_si (am_si (am_si τ 26 ((τ.1 25 5).toNatClampNeg) a1) 27 (((am_si τ 26 ((τ.1 25 5).toNatClampNeg) a1).1 25 5).toNatClampNeg) a2) 28 (((am_si (am_si τ 26 ((τ.1 25 5).toNatClampNeg) a1) 27 (((am_si τ 26 ((τ.1 25 5).toNatClampNeg) a1).1 25 5).toNatClampNeg) a2).1 25 5).toNatClampNeg) a3) 29 (((am_si (am_si (am_si τ 26 ((τ.1 25 5).toNatClampNeg) a1) 27 (((am_si τ 26 ((τ.1 25 5).toNatClampNeg) a1).1 25 5).toNatClampNeg) a2) 28 (((am_si (am_si τ 26 ((τ.1 25 5).toNatClampNeg) a1) 27 (((am_si τ 26 ((τ.1 25 5).toNatClampNeg) a1).1 25 5).toNatClampNeg) a2).1 25 5).toNatClampNeg) a3).1 25 5).toNatClampNeg) a4) 30 (((am_si (am_si (am_si (am_si τ 26 ((τ.1 25 5).toNatClampNeg) a1) 27 (((am_si τ 26 ((τ.1 25 5).toNatClampNeg) a1).1 25 5).toNatClampNeg) a2) 28 (((am_si (am_si τ 26 ((τ.1 25 5).toNatClampNeg) a1) 27 (((am_si τ 26 ((τ.1 25 5).toNatClampNeg) a1).1 25 5).toNatClampNeg) a2).1 25 5).toNatClampNeg) a3) 29 (((am_si (am_si (am_si τ 26 ((τ.1 25 5).toNatClampNeg) a1) 27 (((am_si τ 26 ((τ.1 25 5).toNatClampNeg) a1).1 25 5).toNatClampNeg) a2) 28 (((am_si (am_si τ 26 ((τ.1 25 5).toNatClampNeg) a1) 27 (((am_si τ 26 ((τ.1 25 5).toNatClampNeg) a1).1 25 5).toNatClampNeg) a2).1 25 5).toNatClampNeg) a3).1 25 5).toNatClampNeg) a4).1 25 5).toNatClampNeg) a5).1 25 5) + (nI 1))).1 25 5) - (nI 1)), (am_si (am_si (am_si (am_si (am_si (am_si τ 26 ((τ.1 25 5).toNatClampNeg) a1) 27 (((am_si τ 26 ((τ.1 25 5).toNatClampNeg) a1).1 25 5).toNatClampNeg) a2) 28 (((am_si (am_si τ 26 ((τ.1 25 5).toNatClampNeg) a1) 27 (((am_si τ 26 ((τ.1 25 5).toNatClampNeg) a1).1 25 5).toNatClampNeg) a2).1 25 5).toNatClampNeg) a3) 29 (((am_si (am_si (am_si τ 26 ((τ.1 25 5).toNatClampNeg) a1) 27 (((am_si τ 26 ((τ.1 25 5).toNatClampNeg) a1).1 25 5).toNatClampNeg) a2) 28 (((am_si (am_si τ 26 ((τ.1 25 5).toNatClampNeg) a1) 27 (((am_si τ 26 ((τ.1 25 5).toNatClampNeg) a1).1 25 5).toNatClampNeg) a2).1 25 5).toNatClampNeg) a3).1 25 5).toNatClampNeg) a4) 30 (((am_si (am_si (am_si (am_si τ 26 ((τ.1 25 5).toNatClampNeg) a1) 27 (((am_si τ 26 ((τ.1 25 5).toNatClampNeg) a1).1 25 5).toNatClampNeg) a2) 28 (((am_si (am_si τ 26 ((τ.1 25 5).toNatClampNeg) a1) 27 (((am_si τ 26 ((τ.1 25 5).toNatClampNeg) a1).1 25 5).toNatClampNeg) a2).1 25 5).toNatClampNeg) a3) 29 (((am_si (am_si (am_si τ 26 ((τ.1 25 5).toNatClampNeg) a1) 27 (((am_si τ 26 ((τ.1 25 5).toNatClampNeg) a1).1 25 5).toNatClampNeg) a2) 28 (((am_si (am_si τ 26 ((τ.1 25 5).toNatClampNeg) a1) 27 (((am_si τ 26 ((τ.1 25 5).toNatClampNeg) a1).1 25 5).toNatClampNeg) a2).1 25 5).toNatClampNeg) a3).1 25 5).toNatClampNeg) a4).1 25 5).toNatClampNeg) a5) 25 5 (((am_si (am_si (am_si (am_si (am_si τ 26 ((τ.1 25 5).toNatClampNeg) a1) 27 (((am_si τ 26 ((τ.1 25 5).toNatClampNeg) a1).1 25 5).toNatClampNeg) a2) 28 (((am_si (am_si τ 26 ((τ.1 25 5).toNatClampNeg) a1) 27 (((am_si τ 26 ((τ.1 25 5).toNatClampNeg) a1).1 25 5).toNatClampNeg) a2).1 25 5).toNatClampNeg) a3) 29 (((am_si (am_si (am_si τ 26 ((τ.1 25 5).toNatClampNeg) a1) 27 (((am_si τ 26 ((τ.1 25 5).toNatClampNeg) a1).1 25 5).toNatClampNeg) a2) 28 (((am_si (am_si τ 26 ((τ.1 25 5).toNatClampNeg) a1) 27 (((am_si τ 26 ((τ.1 25 5).toNatClampNeg) a1).1 25 5).toNatClampNeg) a2).1 25 5).toNatClampNeg) a3).1 25 5).toNatClampNeg) a4) 30 (((am_si (am_si (am_si (am_si τ 26 ((τ.1 25 5).toNatClampNeg) a1) 27 (((am_si τ 26 ((τ.1 25 5).toNatClampNeg) a1).1 25 5).toNatClampNeg) a2) 28 (((am_si (am_si τ 26 ((τ.1 25 5).toNatClampNeg) a1) 27 (((am_si τ 26 ((τ.1 25 5).toNatClampNeg) a1).1 25 5).toNatClampNeg) a2).1 25 5).toNatClampNeg) a3) 29 (((am_si (am_si (am_si τ 26 ((τ.1 25 5).toNatClampNeg) a1) 27 (((am_si τ 26 ((τ.1 25 5).toNatClampNeg) a1).1 25 5).toNatClampNeg) a2) 28 (((am_si (am_si τ 26 ((τ.1 25 5).toNatClampNeg) a1) 27 (((am_si τ 26 ((τ.1 25 5).toNatClampNeg) a1).1 25 5).toNatClampNeg) a2).1 25 5).toNatClampNeg) a3).1 25 5).toNatClampNeg) a4).1 25 5).toNatClampNeg) a5).1 25 5) + (nI 1)))))))))))
else
  (some ((-2 : Int32), τ))
set_option maxRecDepth 20000 in
theorem ok_Co_add {X : am_X} {a1 : Int32} {a2 : Int32} {a3 : Int32} {a4 : Int32} {a5 : Int32} {v : Int32} {τ τ' : am_T} (hF : am_F X "ShareHouse$Costs" cX1_add 6) (hR : am_R X 0 0) (hB : am_B X (some .int) (some (.int v)) (am_D τ')) (h : Co_add τ a1 a2 a3 a4 a5 = some (v, τ')) : am_W X 6 (0, [(0, .ref 25), (1, .int a1), (2, .int a2), (3, .int a3), (4, .int a4), (5, .int a5)], [], am_D τ) := by
  unfold Co_add at h
  refine am_seg s_Co_add_0 (y := (6, [(0, .ref 25), (1, .int a1), (2, .int a2), (3, .int a3), (4, .int a4), (5, .int a5)], [.int (nI 20), .int (τ.1 25 5)], am_D τ)) hF t_s_Co_add_0 rfl rfl ?_
  refine am_ite h (fun hc h => ?_) (fun hc h => ?_)
  · refine am_icmp_lt_t (t := 12) d_X1_add_6 (by decide) hc hF ?_
    refine am_seg s_Co_add_1 (y := (21, [(0, .ref 25), (1, .int a1), (2, .int a2), (3, .int a3), (4, .int a4), (5, .int a5)], [.int a1, .int (τ.1 25 5), .ref 26], am_D τ)) hF t_s_Co_add_1 rfl rfl ?_
    refine am_gd h (fun hi h => ?_)
    refine am_iast (n := 20) (j := ((τ.1 25 5).toNatClampNeg)) d_X1_add_21 (Nat.le_of_ble_eq_true rfl) (Nat.le_of_ble_eq_true rfl) rfl hi rfl hF ?_
    refine am_seg s_Co_add_2 (y := (31, [(0, .ref 25), (1, .int a1), (2, .int a2), (3, .int a3), (4, .int a4), (5, .int a5)], [.int a2, .int ((am_si τ 26 ((τ.1 25 5).toNatClampNeg) a1).1 25 5), .ref 27], am_D (am_si τ 26 ((τ.1 25 5).toNatClampNeg) a1))) hF t_s_Co_add_2 rfl rfl ?_
    refine am_gd h (fun hi h => ?_)
    refine am_iast (n := 20) (j := (((am_si τ 26 ((τ.1 25 5).toNatClampNeg) a1).1 25 5).toNatClampNeg)) d_X1_add_31 (Nat.le_of_ble_eq_true rfl) (Nat.le_of_ble_eq_true rfl) rfl hi rfl hF ?_
    refine am_seg s_Co_add_3 (y := (41, [(0, .ref 25), (1, .int a1), (2, .int a2), (3, .int a3), (4, .int a4), (5, .int a5)], [.int a3, .int ((am_si (am_si τ 26 ((τ.1 25 5).toNatClampNeg) a1) 27 (((am_si τ 26 ((τ.1 25 5).toNatClampNeg) a1).1 25 5).toNatClampNeg) a2).1 25 5), .ref 28], am_D (am_si (am_si τ 26 ((τ.1 25 5).toNatClampNeg) a1) 27 (((am_si τ 26 ((τ.1 25 5).toNatClampNeg) a1).1 25 5).toNatClampNeg) a2))) hF t_s_Co_add_3 rfl rfl ?_
    refine am_gd h (fun hi h => ?_)
    refine am_iast (n := 20) (j := (((am_si (am_si τ 26 ((τ.1 25 5).toNatClampNeg) a1) 27 (((am_si τ 26 ((τ.1 25 5).toNatClampNeg) a1).1 25 5).toNatClampNeg) a2).1 25 5).toNatClampNeg)) d_X1_add_41 (Nat.le_of_ble_eq_true rfl) (Nat.le_of_ble_eq_true rfl) rfl hi rfl hF ?_
    refine am_seg s_Co_add_4 (y := (52, [(0, .ref 25), (1, .int a1), (2, .int a2), (3, .int a3), (4, .int a4), (5, .int a5)], [.int a4, .int ((am_si (am_si (am_si τ 26 ((τ.1 25 5).toNatClampNeg) a1) 27 (((am_si τ 26 ((τ.1 25 5).toNatClampNeg) a1).1 25 5).toNatClampNeg) a2) 28 (((am_si (am_si τ 26 ((τ.1 25 5).toNatClampNeg) a1) 27 (((am_si τ 26 ((τ.1 25 5).toNatClampNeg) a1).1 25 5).toNatClampNeg) a2).1 25 5).toNatClampNeg) a3).1 25 5), .ref 29], am_D (am_si (am_si (am_si τ 26 ((τ.1 25 5).toNatClampNeg) a1) 27 (((am_si τ 26 ((τ.1 25 5).toNatClampNeg) a1).1 25 5).toNatClampNeg) a2) 28 (((am_si (am_si τ 26 ((τ.1 25 5).toNatClampNeg) a1) 27 (((am_si τ 26 ((τ.1 25 5).toNatClampNeg) a1).1 25 5).toNatClampNeg) a2).1 25 5).toNatClampNeg) a3))) hF t_s_Co_add_4 rfl rfl ?_
    refine am_gd h (fun hi h => ?_)
    refine am_iast (n := 20) (j := (((am_si (am_si (am_si τ 26 ((τ.1 25 5).toNatClampNeg) a1) 27 (((am_si τ 26 ((τ.1 25 5).toNatClampNeg) a1).1 25 5).toNatClampNeg) a2) 28 (((am_si (am_si τ 26 ((τ.1 25 5).toNatClampNeg) a1) 27 (((am_si τ 26 ((τ.1 25 5).toNatClampNeg) a1).1 25 5).toNatClampNeg) a2).1 25 5).toNatClampNeg) a3).1 25 5).toNatClampNeg)) d_X1_add_52 (Nat.le_of_ble_eq_true rfl) (Nat.le_of_ble_eq_true rfl) rfl hi rfl hF ?_
    refine am_seg s_Co_add_5 (y := (63, [(0, .ref 25), (1, .int a1), (2, .int a2), (3, .int a3), (4, .int a4), (5, .int a5)], [.int a5, .int ((am_si (am_si (am_si (am_si τ 26 ((τ.1 25 5).toNatClampNeg) a1) 27 (((am_si τ 26 ((τ.1 25 5).toNatClampNeg) a1).1 25 5).toNatClampNeg) a2) 28 (((am_si (am_si τ 26 ((τ.1 25 5).toNatClampNeg) a1) 27 (((am_si τ 26 ((τ.1 25 5).toNatClampNeg) a1).1 25 5).toNatClampNeg) a2).1 25 5).toNatClampNeg) a3) 29 (((am_si (am_si (am_si τ 26 ((τ.1 25 5).toNatClampNeg) a1) 27 (((am_si τ 26 ((τ.1 25 5).toNatClampNeg) a1).1 25 5).toNatClampNeg) a2) 28 (((am_si (am_si τ 26 ((τ.1 25 5).toNatClampNeg) a1) 27 (((am_si τ 26 ((τ.1 25 5).toNatClampNeg) a1).1 25 5).toNatClampNeg) a2).1 25 5).toNatClampNeg) a3).1 25 5).toNatClampNeg) a4).1 25 5), .ref 30], am_D (am_si (am_si (am_si (am_si τ 26 ((τ.1 25 5).toNatClampNeg) a1) 27 (((am_si τ 26 ((τ.1 25 5).toNatClampNeg) a1).1 25 5).toNatClampNeg) a2) 28 (((am_si (am_si τ 26 ((τ.1 25 5).toNatClampNeg) a1) 27 (((am_si τ 26 ((τ.1 25 5).toNatClampNeg) a1).1 25 5).toNatClampNeg) a2).1 25 5).toNatClampNeg) a3) 29 (((am_si (am_si (am_si τ 26 ((τ.1 25 5).toNatClampNeg) a1) 27 (((am_si τ 26 ((τ.1 25 5).toNatClampNeg) a1).1 25 5).toNatClampNeg) a2) 28 (((am_si (am_si τ 26 ((τ.1 25 5).toNatClampNeg) a1) 27 (((am_si τ 26 ((τ.1 25 5).toNatClampNeg) a1).1 25 5).toNatClampNeg) a2).1 25 5).toNatClampNeg) a3).1 25 5).toNatClampNeg) a4))) hF t_s_Co_add_5 rfl rfl ?_
    refine am_gd h (fun hi h => ?_)
    refine am_gd h (fun hz h => ?_)
    refine am_zast (n := 20) (j := (((am_si (am_si (am_si (am_si τ 26 ((τ.1 25 5).toNatClampNeg) a1) 27 (((am_si τ 26 ((τ.1 25 5).toNatClampNeg) a1).1 25 5).toNatClampNeg) a2) 28 (((am_si (am_si τ 26 ((τ.1 25 5).toNatClampNeg) a1) 27 (((am_si τ 26 ((τ.1 25 5).toNatClampNeg) a1).1 25 5).toNatClampNeg) a2).1 25 5).toNatClampNeg) a3) 29 (((am_si (am_si (am_si τ 26 ((τ.1 25 5).toNatClampNeg) a1) 27 (((am_si τ 26 ((τ.1 25 5).toNatClampNeg) a1).1 25 5).toNatClampNeg) a2) 28 (((am_si (am_si τ 26 ((τ.1 25 5).toNatClampNeg) a1) 27 (((am_si τ 26 ((τ.1 25 5).toNatClampNeg) a1).1 25 5).toNatClampNeg) a2).1 25 5).toNatClampNeg) a3).1 25 5).toNatClampNeg) a4).1 25 5).toNatClampNeg)) d_X1_add_63 (Nat.le_of_ble_eq_true rfl) (Nat.le_of_ble_eq_true rfl) rfl hi rfl (am_z01_of hz) hF ?_
    refine am_seg s_Co_add_6 (y := (80, [(0, .ref 25), (1, .int a1), (2, .int a2), (3, .int a3), (4, .int a4), (5, .int a5)], [.int (((am_si (am_si (am_si (am_si (am_si (am_si τ 26 ((τ.1 25 5).toNatClampNeg) a1) 27 (((am_si τ 26 ((τ.1 25 5).toNatClampNeg) a1).1 25 5).toNatClampNeg) a2) 28 (((am_si (am_si τ 26 ((τ.1 25 5).toNatClampNeg) a1) 27 (((am_si τ 26 ((τ.1 25 5).toNatClampNeg) a1).1 25 5).toNatClampNeg) a2).1 25 5).toNatClampNeg) a3) 29 (((am_si (am_si (am_si τ 26 ((τ.1 25 5).toNatClampNeg) a1) 27 (((am_si τ 26 ((τ.1 25 5).toNatClampNeg) a1).1 25 5).toNatClampNeg) a2) 28 (((am_si (am_si τ 26 ((τ.1 25 5).toNatClampNeg) a1) 27 (((am_si τ 26 ((τ.1 25 5).toNatClampNeg) a1).1 25 5).toNatClampNeg) a2).1 25 5).toNatClampNeg) a3).1 25 5).toNatClampNeg) a4) 30 (((am_si (am_si (am_si (am_si τ 26 ((τ.1 25 5).toNatClampNeg) a1) 27 (((am_si τ 26 ((τ.1 25 5).toNatClampNeg) a1).1 25 5).toNatClampNeg) a2) 28 (((am_si (am_si τ 26 ((τ.1 25 5).toNatClampNeg) a1) 27 (((am_si τ 26 ((τ.1 25 5).toNatClampNeg) a1).1 25 5).toNatClampNeg) a2).1 25 5).toNatClampNeg) a3) 29 (((am_si (am_si (am_si τ 26 ((τ.1 25 5).toNatClampNeg) a1) 27 (((am_si τ 26 ((τ.1 25 5).toNatClampNeg) a1).1 25 5).toNatClampNeg) a2) 28 (((am_si (am_si τ 26 ((τ.1 25 5).toNatClampNeg) a1) 27 (((am_si τ 26 ((τ.1 25 5).toNatClampNeg) a1).1 25 5).toNatClampNeg) a2).1 25 5).toNatClampNeg) a3).1 25 5).toNatClampNeg) a4).1 25 5).toNatClampNeg) a5) 25 5 (((am_si (am_si (am_si (am_si (am_si τ 26 ((τ.1 25 5).toNatClampNeg) a1) 27 (((am_si τ 26 ((τ.1 25 5).toNatClampNeg) a1).1 25 5).toNatClampNeg) a2) 28 (((am_si (am_si τ 26 ((τ.1 25 5).toNatClampNeg) a1) 27 (((am_si τ 26 ((τ.1 25 5).toNatClampNeg) a1).1 25 5).toNatClampNeg) a2).1 25 5).toNatClampNeg) a3) 29 (((am_si (am_si (am_si τ 26 ((τ.1 25 5).toNatClampNeg) a1) 27 (((am_si τ 26 ((τ.1 25 5).toNatClampNeg) a1).1 25 5).toNatClampNeg) a2) 28 (((am_si (am_si τ 26 ((τ.1 25 5).toNatClampNeg) a1) 27 (((am_si τ 26 ((τ.1 25 5).toNatClampNeg) a1).1 25 5).toNatClampNeg) a2).1 25 5).toNatClampNeg) a3).1 25 5).toNatClampNeg) a4) 30 (((am_si (am_si (am_si (am_si τ 26 ((τ.1 25 5).toNatClampNeg) a1) 27 (((am_si τ 26 ((τ.1 25 5).toNatClampNeg) a1).1 25 5).toNatClampNeg) a2) 28 (((am_si (am_si τ 26 ((τ.1 25 5).toNatClampNeg) a1) 27 (((am_si τ 26 ((τ.1 25 5).toNatClampNeg) a1).1 25 5).toNatClampNeg) a2).1 25 5).toNatClampNeg) a3) 29 (((am_si (am_si (am_si τ 26 ((τ.1 25 5).toNatClampNeg) a1) 27 (((am_si τ 26 ((τ.1 25 5).toNatClampNeg) a1).1 25 5).toNatClampNeg) a2) 28 (((am_si (am_si τ 26 ((τ.1 25 5).toNatClampNeg) a1) 27 (((am_si τ 26 ((τ.1 25 5).toNatClampNeg) a1).1 25 5).toNatClampNeg) a2).1 25 5).toNatClampNeg) a3).1 25 5).toNatClampNeg) a4).1 25 5).toNatClampNeg) a5).1 25 5) + (nI 1))).1 25 5) - (nI 1))], am_D (am_si (am_si (am_si (am_si (am_si (am_si τ 26 ((τ.1 25 5).toNatClampNeg) a1) 27 (((am_si τ 26 ((τ.1 25 5).toNatClampNeg) a1).1 25 5).toNatClampNeg) a2) 28 (((am_si (am_si τ 26 ((τ.1 25 5).toNatClampNeg) a1) 27 (((am_si τ 26 ((τ.1 25 5).toNatClampNeg) a1).1 25 5).toNatClampNeg) a2).1 25 5).toNatClampNeg) a3) 29 (((am_si (am_si (am_si τ 26 ((τ.1 25 5).toNatClampNeg) a1) 27 (((am_si τ 26 ((τ.1 25 5).toNatClampNeg) a1).1 25 5).toNatClampNeg) a2) 28 (((am_si (am_si τ 26 ((τ.1 25 5).toNatClampNeg) a1) 27 (((am_si τ 26 ((τ.1 25 5).toNatClampNeg) a1).1 25 5).toNatClampNeg) a2).1 25 5).toNatClampNeg) a3).1 25 5).toNatClampNeg) a4) 30 (((am_si (am_si (am_si (am_si τ 26 ((τ.1 25 5).toNatClampNeg) a1) 27 (((am_si τ 26 ((τ.1 25 5).toNatClampNeg) a1).1 25 5).toNatClampNeg) a2) 28 (((am_si (am_si τ 26 ((τ.1 25 5).toNatClampNeg) a1) 27 (((am_si τ 26 ((τ.1 25 5).toNatClampNeg) a1).1 25 5).toNatClampNeg) a2).1 25 5).toNatClampNeg) a3) 29 (((am_si (am_si (am_si τ 26 ((τ.1 25 5).toNatClampNeg) a1) 27 (((am_si τ 26 ((τ.1 25 5).toNatClampNeg) a1).1 25 5).toNatClampNeg) a2) 28 (((am_si (am_si τ 26 ((τ.1 25 5).toNatClampNeg) a1) 27 (((am_si τ 26 ((τ.1 25 5).toNatClampNeg) a1).1 25 5).toNatClampNeg) a2).1 25 5).toNatClampNeg) a3).1 25 5).toNatClampNeg) a4).1 25 5).toNatClampNeg) a5) 25 5 (((am_si (am_si (am_si (am_si (am_si τ 26 ((τ.1 25 5).toNatClampNeg) a1) 27 (((am_si τ 26 ((τ.1 25 5).toNatClampNeg) a1).1 25 5).toNatClampNeg) a2) 28 (((am_si (am_si τ 26 ((τ.1 25 5).toNatClampNeg) a1) 27 (((am_si τ 26 ((τ.1 25 5).toNatClampNeg) a1).1 25 5).toNatClampNeg) a2).1 25 5).toNatClampNeg) a3) 29 (((am_si (am_si (am_si τ 26 ((τ.1 25 5).toNatClampNeg) a1) 27 (((am_si τ 26 ((τ.1 25 5).toNatClampNeg) a1).1 25 5).toNatClampNeg) a2) 28 (((am_si (am_si τ 26 ((τ.1 25 5).toNatClampNeg) a1) 27 (((am_si τ 26 ((τ.1 25 5).toNatClampNeg) a1).1 25 5).toNatClampNeg) a2).1 25 5).toNatClampNeg) a3).1 25 5).toNatClampNeg) a4) 30 (((am_si (am_si (am_si (am_si τ 26 ((τ.1 25 5).toNatClampNeg) a1) 27 (((am_si τ 26 ((τ.1 25 5).toNatClampNeg) a1).1 25 5).toNatClampNeg) a2) 28 (((am_si (am_si τ 26 ((τ.1 25 5).toNatClampNeg) a1) 27 (((am_si τ 26 ((τ.1 25 5).toNatClampNeg) a1).1 25 5).toNatClampNeg) a2).1 25 5).toNatClampNeg) a3) 29 (((am_si (am_si (am_si τ 26 ((τ.1 25 5).toNatClampNeg) a1) 27 (((am_si τ 26 ((τ.1 25 5).toNatClampNeg) a1).1 25 5).toNatClampNeg) a2) 28 (((am_si (am_si τ 26 ((τ.1 25 5).toNatClampNeg) a1) 27 (((am_si τ 26 ((τ.1 25 5).toNatClampNeg) a1).1 25 5).toNatClampNeg) a2).1 25 5).toNatClampNeg) a3).1 25 5).toNatClampNeg) a4).1 25 5).toNatClampNeg) a5).1 25 5) + (nI 1))))) hF t_s_Co_add_6 rfl rfl ?_
    obtain ⟨rfl, rfl⟩ := am_pair h
    exact am_iret d_X1_add_80 hF hB
  · refine am_icmp_lt_f (t := 12) d_X1_add_6 (by decide) hc hF ?_
    refine am_seg s_Co_add_7 (y := (11, [(0, .ref 25), (1, .int a1), (2, .int a2), (3, .int a3), (4, .int a4), (5, .int a5)], [.int (-2 : Int32)], am_D τ)) hF t_s_Co_add_7 rfl rfl ?_
    obtain ⟨rfl, rfl⟩ := am_pair h
    exact am_iret d_X1_add_11 hF hB
theorem c_Co_add {a1 : Int32} {a2 : Int32} {a3 : Int32} {a4 : Int32} {a5 : Int32} {v : Int32} {τ τ' : am_T} (h : Co_add τ a1 a2 a3 a4 a5 = some (v, τ')) : am_C yX1_add cX1_add 6 (some .int) 0 0 [.ref 25, .int a1, .int a2, .int a3, .int a4, .int a5] (am_D τ) (some (.int v)) (am_D τ') :=
  am_enter (by decide +kernel) (Nat.le_of_ble_eq_true rfl) ⟨Nat.le_refl _, Nat.le_refl _⟩ (fun X hF hR hB => ok_Co_add hF hR hB h)
def s_X_cost_0 : List am_Q := [(0, .iload_n 1, 0, 0, 0, .null)]
theorem t_s_X_cost_0 : s_X_cost_0.all (am_ok 11 cX11_cost) = true := by decide +kernel
theorem d_X11_cost_1 : decode cX11_cost 1 = .ok (.invokestatic 112, 3) := by decide +kernel
theorem d_X11_cost_4 : decode cX11_cost 4 = .ok (.ifCond .eq 21, 3) := by decide +kernel
def s_X_cost_1 : List am_Q := [(25, .iconst (-1), 0, 0, 0, .int (-1 : Int32))]
theorem t_s_X_cost_1 : s_X_cost_1.all (am_ok 11 cX11_cost) = true := by decide +kernel
theorem d_X11_cost_26 : decode cX11_cost 26 = .ok (.ireturn, 1) := by decide +kernel
def s_X_cost_2 : List am_Q := [(7, .aload_n 0, 0, 0, 0, .null), (8, .iload_n 2, 0, 0, 0, .null)]
theorem t_s_X_cost_2 : s_X_cost_2.all (am_ok 11 cX11_cost) = true := by decide +kernel
theorem d_X11_cost_9 : decode cX11_cost 9 = .ok (.invokevirtual 153, 3) := by decide +kernel
theorem d_X11_cost_12 : decode cX11_cost 12 = .ok (.ifCond .eq 13, 3) := by decide +kernel
def s_X_cost_3 : List am_Q := [(25, .iconst (-1), 0, 0, 0, .int (-1 : Int32))]
theorem t_s_X_cost_3 : s_X_cost_3.all (am_ok 11 cX11_cost) = true := by decide +kernel
def s_X_cost_4 : List am_Q := [(15, .iload_n 3, 0, 0, 0, .null), (16, .iconst 0, 0, 0, 0, .int (nI 0)), (17, .ldc 156, 0, 0, 1, .int (nI 99999))]
theorem t_s_X_cost_4 : s_X_cost_4.all (am_ok 11 cX11_cost) = true := by decide +kernel
theorem d_X11_cost_19 : decode cX11_cost 19 = .ok (.invokestatic 47, 3) := by decide +kernel
theorem d_X11_cost_22 : decode cX11_cost 22 = .ok (.ifCond .ne 5, 3) := by decide +kernel
def s_X_cost_5 : List am_Q := [(27, .aload_n 0, 0, 0, 0, .null), (28, .getfield 10, 11, 0, 145, .null), (31, .getfield 157, 3, 4, 101, .null), (34, .iload_n 1, 0, 0, 0, .null), (35, .iload_n 2, 0, 0, 0, .null), (36, .iload_n 3, 0, 0, 0, .null), (37, .aload_n 0, 0, 0, 0, .null), (38, .getfield 10, 11, 0, 145, .null), (41, .getfield 61, 3, 0, 85, .null), (44, .iconst 0, 0, 0, 0, .int (nI 0))]
theorem t_s_X_cost_5 : s_X_cost_5.all (am_ok 11 cX11_cost) = true := by decide +kernel
theorem d_X11_cost_45 : decode cX11_cost 45 = .ok (.invokevirtual 161, 3) := by decide +kernel
theorem d_X11_cost_48 : decode cX11_cost 48 = .ok (.ireturn, 1) := by decide +kernel
def s_X_cost_6 : List am_Q := [(25, .iconst (-1), 0, 0, 0, .int (-1 : Int32))]
theorem t_s_X_cost_6 : s_X_cost_6.all (am_ok 11 cX11_cost) = true := by decide +kernel
def X_cost (τ : am_T) (a1 : Int32) (a2 : Int32) (a3 : Int32) : Option (Int32 × am_T) :=
  (X_isHead τ a1).bind (fun x1 =>
  if x1.1 = 0 then
  (some ((-1 : Int32), x1.2))
else
  ((X_isPast x1.2 a2).bind (fun x2 =>
  if x2.1 = 0 then
  (some ((-1 : Int32), x2.2))
else
  ((X_within x2.2 a3 (nI 0) (nI 99999)).bind (fun x3 =>
  if x3.1 = 0 then
  (some ((-1 : Int32), x3.2))
else
  ((Co_add x3.2 a1 a2 a3 (x3.2.1 1 0) (nI 0)).bind (fun x4 =>
  some (x4.1, x4.2))))))))
set_option maxRecDepth 20000 in
theorem ok_X_cost {X : am_X} {a1 : Int32} {a2 : Int32} {a3 : Int32} {v : Int32} {τ τ' : am_T} (hF : am_F X "ShareHouse" cX11_cost 4) (hR : am_R X 2 43) (hB : am_B X (some .int) (some (.int v)) (am_D τ')) (h : X_cost τ a1 a2 a3 = some (v, τ')) : am_W X 4 (0, [(0, .ref 0), (1, .int a1), (2, .int a2), (3, .int a3)], [], am_D τ) := by
  unfold X_cost at h
  refine am_seg s_X_cost_0 (y := (1, [(0, .ref 0), (1, .int a1), (2, .int a2), (3, .int a3)], [.int a1], am_D τ)) hF t_s_X_cost_0 rfl rfl ?_
  refine am_bd h (fun x1 hx h => ?_)
  refine am_callS (As := [.int a1]) (r := (some (.int x1.1))) (st := []) (σ' := am_D x1.2) hF hR d_X11_cost_1 (c_X_isHead (τ' := x1.2) hx) (Nat.le_refl _) (Nat.le_refl _) wl_X_112 ws_yX11_isHead wn_ShareHouse wc_yX11_isHead wy_yX11_isHead rfl ⟨by decide, by decide⟩ (Nat.le_of_ble_eq_true rfl) ?_
  refine am_ite h (fun hc h => ?_) (fun hc h => ?_)
  · refine am_if_eq_t (t := 25) d_X11_cost_4 (by decide) hc hF ?_
    refine am_seg s_X_cost_1 (y := (26, [(0, .ref 0), (1, .int a1), (2, .int a2), (3, .int a3)], [.int (-1 : Int32)], am_D x1.2)) hF t_s_X_cost_1 rfl rfl ?_
    obtain ⟨rfl, rfl⟩ := am_pair h
    exact am_iret d_X11_cost_26 hF hB
  · refine am_if_eq_f (t := 25) d_X11_cost_4 (by decide) hc hF ?_
    refine am_seg s_X_cost_2 (y := (9, [(0, .ref 0), (1, .int a1), (2, .int a2), (3, .int a3)], [.int a2, .ref 0], am_D x1.2)) hF t_s_X_cost_2 rfl rfl ?_
    refine am_bd h (fun x2 hx h => ?_)
    refine am_callV (As := [.int a2]) (r := (some (.int x2.1))) (st := []) (σ' := am_D x2.2) (ci := 11) hF hR d_X11_cost_9 (c_X_isPast (τ' := x2.2) hx) (Nat.le_refl _) (Nat.le_refl _) wl_X_153 wi_yX11_isPast we_yX11_isPast wn_ShareHouse wc_yX11_isPast (Nat.le_of_ble_eq_true rfl) (Nat.le_of_ble_eq_true rfl) rfl rfl wy_yX11_isPast rfl ⟨by decide, by decide⟩ (Nat.le_of_ble_eq_true rfl) ?_
    refine am_ite h (fun hc h => ?_) (fun hc h => ?_)
    · refine am_if_eq_t (t := 25) d_X11_cost_12 (by decide) hc hF ?_
      refine am_seg s_X_cost_3 (y := (26, [(0, .ref 0), (1, .int a1), (2, .int a2), (3, .int a3)], [.int (-1 : Int32)], am_D x2.2)) hF t_s_X_cost_3 rfl rfl ?_
      obtain ⟨rfl, rfl⟩ := am_pair h
      exact am_iret d_X11_cost_26 hF hB
    · refine am_if_eq_f (t := 25) d_X11_cost_12 (by decide) hc hF ?_
      refine am_seg s_X_cost_4 (y := (19, [(0, .ref 0), (1, .int a1), (2, .int a2), (3, .int a3)], [.int (nI 99999), .int (nI 0), .int a3], am_D x2.2)) hF t_s_X_cost_4 rfl rfl ?_
      refine am_bd h (fun x3 hx h => ?_)
      refine am_callS (As := [.int a3, .int (nI 0), .int (nI 99999)]) (r := (some (.int x3.1))) (st := []) (σ' := am_D x3.2) hF hR d_X11_cost_19 (c_X_within (τ' := x3.2) hx) (Nat.le_refl _) (Nat.le_refl _) wl_X_47 ws_yX11_within wn_ShareHouse wc_yX11_within wy_yX11_within rfl ⟨by decide, by decide⟩ (Nat.le_of_ble_eq_true rfl) ?_
      refine am_ite h (fun hc h => ?_) (fun hc h => ?_)
      · refine am_if_ne_f (t := 27) d_X11_cost_22 (by decide) hc hF ?_
        refine am_seg s_X_cost_6 (y := (26, [(0, .ref 0), (1, .int a1), (2, .int a2), (3, .int a3)], [.int (-1 : Int32)], am_D x3.2)) hF t_s_X_cost_6 rfl rfl ?_
        obtain ⟨rfl, rfl⟩ := am_pair h
        exact am_iret d_X11_cost_26 hF hB
      · refine am_if_ne_t (t := 27) d_X11_cost_22 (by decide) hc hF ?_
        refine am_seg s_X_cost_5 (y := (45, [(0, .ref 0), (1, .int a1), (2, .int a2), (3, .int a3)], [.int (nI 0), .int (x3.2.1 1 0), .int a3, .int a2, .int a1, .ref 25], am_D x3.2)) hF t_s_X_cost_5 rfl rfl ?_
        refine am_bd h (fun x4 hx h => ?_)
        refine am_callV (As := [.int a1, .int a2, .int a3, .int (x3.2.1 1 0), .int (nI 0)]) (r := (some (.int x4.1))) (st := []) (σ' := am_D x4.2) (ci := 1) hF hR d_X11_cost_45 (c_Co_add (τ' := x4.2) hx) (Nat.le_refl _) (Nat.le_refl _) wl_X_161 wi_yX1_add we_yX1_add wn_ShareHouse_Costs wc_yX1_add (Nat.le_of_ble_eq_true rfl) (Nat.le_of_ble_eq_true rfl) rfl rfl wy_yX1_add rfl ⟨by decide, by decide⟩ (Nat.le_of_ble_eq_true rfl) ?_
        obtain ⟨rfl, rfl⟩ := am_pair h
        exact am_iret d_X11_cost_48 hF hB
theorem c_X_cost {a1 : Int32} {a2 : Int32} {a3 : Int32} {v : Int32} {τ τ' : am_T} (h : X_cost τ a1 a2 a3 = some (v, τ')) : am_C yX11_cost cX11_cost 4 (some .int) 2 43 [.ref 0, .int a1, .int a2, .int a3] (am_D τ) (some (.int v)) (am_D τ') :=
  am_enter (by decide +kernel) (Nat.le_of_ble_eq_true rfl) ⟨Nat.le_refl _, Nat.le_refl _⟩ (fun X hF hR hB => ok_X_cost hF hR hB h)
def s_Co_has_0 : List am_Q := [(0, .iload_n 1, 0, 0, 0, .null), (1, .iconst 0, 0, 0, 0, .int (nI 0)), (2, .aload_n 0, 0, 0, 0, .null), (3, .getfield 44, 1, 5, 33, .null), (6, .iconst 1, 0, 0, 0, .int (nI 1)), (7, .isub, 0, 0, 0, .null)]
theorem t_s_Co_has_0 : s_Co_has_0.all (am_ok 1 cX1_has) = true := by decide +kernel
theorem d_X1_has_8 : decode cX1_has 8 = .ok (.invokestatic 51, 3) := by decide +kernel
theorem d_X1_has_11 : decode cX1_has 11 = .ok (.ireturn, 1) := by decide +kernel
def Co_has (τ : am_T) (a1 : Int32) : Option (Int32 × am_T) :=
  (X_within τ a1 (nI 0) ((τ.1 25 5) - (nI 1))).bind (fun x1 =>
  am_g (am_z01 x1.1) (some (x1.1, x1.2)))
set_option maxRecDepth 20000 in
theorem ok_Co_has {X : am_X} {a1 : Int32} {v : Int32} {τ τ' : am_T} (hF : am_F X "ShareHouse$Costs" cX1_has 2) (hR : am_R X 1 22) (hB : am_B X (some .boolean) (some (.int v)) (am_D τ')) (h : Co_has τ a1 = some (v, τ')) : am_W X 2 (0, [(0, .ref 25), (1, .int a1)], [], am_D τ) := by
  unfold Co_has at h
  refine am_seg s_Co_has_0 (y := (8, [(0, .ref 25), (1, .int a1)], [.int ((τ.1 25 5) - (nI 1)), .int (nI 0), .int a1], am_D τ)) hF t_s_Co_has_0 rfl rfl ?_
  refine am_bd h (fun x1 hx h => ?_)
  refine am_callSN (As := [.int a1, .int (nI 0), .int ((τ.1 25 5) - (nI 1))]) (r := (some (.int x1.1))) (st := []) (σ' := am_D x1.2) (host := "ShareHouse") hF hR d_X1_has_8 (c_X_within (τ' := x1.2) hx) (Nat.le_refl _) (Nat.le_refl _) wk_Co_51 ws_yX11_within wn_ShareHouse wc_yX11_within wy_yX11_within rfl ⟨by decide, by decide⟩ (Nat.le_of_ble_eq_true rfl) ?_
  refine am_gd h (fun hz h => ?_)
  obtain ⟨rfl, rfl⟩ := am_pair h
  exact am_zret d_X1_has_11 (am_z01_n hz) hF hB
theorem c_Co_has {a1 : Int32} {v : Int32} {τ τ' : am_T} (h : Co_has τ a1 = some (v, τ')) : am_C yX1_has cX1_has 2 (some .boolean) 1 22 [.ref 25, .int a1] (am_D τ) (some (.int v)) (am_D τ') :=
  am_enter (by decide +kernel) (Nat.le_of_ble_eq_true rfl) ⟨Nat.le_refl _, Nat.le_refl _⟩ (fun X hF hR hB => ok_Co_has hF hR hB h)
def s_Co_penceOn_0 : List am_Q := [(0, .aload_n 0, 0, 0, 0, .null), (1, .getfield 48, 1, 9, 38, .null), (4, .iconst 1, 0, 0, 0, .int (nI 1)), (5, .isub, 0, 0, 0, .null), (6, .istore_n 3, 0, 0, 0, .null)]
theorem t_s_Co_penceOn_0 : s_Co_penceOn_0.all (am_ok 1 cX1_penceOn) = true := by decide +kernel
def s_Co_penceOn_1 : List am_Q := [(7, .iload_n 3, 0, 0, 0, .null)]
theorem t_s_Co_penceOn_1 : s_Co_penceOn_1.all (am_ok 1 cX1_penceOn) = true := by decide +kernel
theorem d_X1_penceOn_8 : decode cX1_penceOn 8 = .ok (.ifCond .lt 36, 3) := by decide +kernel
def s_Co_penceOn_2 : List am_Q := [(44, .aload_n 0, 0, 0, 0, .null), (45, .getfield 18, 1, 2, 25, .null), (48, .iload_n 1, 0, 0, 0, .null)]
theorem t_s_Co_penceOn_2 : s_Co_penceOn_2.all (am_ok 1 cX1_penceOn) = true := by decide +kernel
theorem d_X1_penceOn_49 : decode cX1_penceOn 49 = .ok (.iaload, 1) := by decide +kernel
theorem d_X1_penceOn_50 : decode cX1_penceOn 50 = .ok (.ireturn, 1) := by decide +kernel
def s_Co_penceOn_3 : List am_Q := [(11, .aload_n 0, 0, 0, 0, .null), (12, .getfield 28, 1, 6, 35, .null), (15, .iload_n 3, 0, 0, 0, .null)]
theorem t_s_Co_penceOn_3 : s_Co_penceOn_3.all (am_ok 1 cX1_penceOn) = true := by decide +kernel
theorem d_X1_penceOn_16 : decode cX1_penceOn 16 = .ok (.iaload, 1) := by decide +kernel
def s_Co_penceOn_4 : List am_Q := [(17, .iload_n 1, 0, 0, 0, .null)]
theorem t_s_Co_penceOn_4 : s_Co_penceOn_4.all (am_ok 1 cX1_penceOn) = true := by decide +kernel
theorem d_X1_penceOn_18 : decode cX1_penceOn 18 = .ok (.if_icmp .ne 20, 3) := by decide +kernel
def s_Co_penceOn_5 : List am_Q := [(38, .iinc 3 (-1), 0, 0, 0, .int (-1 : Int32)), (41, .goto (-34), 7, 0, 0, .null)]
theorem t_s_Co_penceOn_5 : s_Co_penceOn_5.all (am_ok 1 cX1_penceOn) = true := by decide +kernel
def s_Co_penceOn_6 : List am_Q := [(21, .aload_n 0, 0, 0, 0, .null), (22, .getfield 34, 1, 8, 37, .null), (25, .iload_n 3, 0, 0, 0, .null)]
theorem t_s_Co_penceOn_6 : s_Co_penceOn_6.all (am_ok 1 cX1_penceOn) = true := by decide +kernel
theorem d_X1_penceOn_26 : decode cX1_penceOn 26 = .ok (.iaload, 1) := by decide +kernel
def s_Co_penceOn_7 : List am_Q := [(27, .iload_n 2, 0, 0, 0, .null)]
theorem t_s_Co_penceOn_7 : s_Co_penceOn_7.all (am_ok 1 cX1_penceOn) = true := by decide +kernel
theorem d_X1_penceOn_28 : decode cX1_penceOn 28 = .ok (.if_icmp .gt 10, 3) := by decide +kernel
def s_Co_penceOn_8 : List am_Q := [(38, .iinc 3 (-1), 0, 0, 0, .int (-1 : Int32)), (41, .goto (-34), 7, 0, 0, .null)]
theorem t_s_Co_penceOn_8 : s_Co_penceOn_8.all (am_ok 1 cX1_penceOn) = true := by decide +kernel
def s_Co_penceOn_9 : List am_Q := [(31, .aload_n 0, 0, 0, 0, .null), (32, .getfield 31, 1, 7, 36, .null), (35, .iload_n 3, 0, 0, 0, .null)]
theorem t_s_Co_penceOn_9 : s_Co_penceOn_9.all (am_ok 1 cX1_penceOn) = true := by decide +kernel
theorem d_X1_penceOn_36 : decode cX1_penceOn 36 = .ok (.iaload, 1) := by decide +kernel
theorem d_X1_penceOn_37 : decode cX1_penceOn 37 = .ok (.ireturn, 1) := by decide +kernel
def Co_penceOn_7 : Nat → am_T → Int32 → Int32 → Int32 → Option (Int32 × am_T)
  | 0, _, _, _, _ => none
  | n + 1, τ, a1, a2, a3 =>
    if a3 < 0 then
  (am_g (am_in a1 20) (some ((τ.1 28 (a1.toNatClampNeg)), τ)))
else
  (am_g (am_in a3 30) (if (τ.1 31 (a3.toNatClampNeg)) = a1 then
  (am_g (am_in a3 30) (if a2 < (τ.1 33 (a3.toNatClampNeg)) then
  ((Co_penceOn_7 n) τ a1 a2 (a3 + (-1 : Int32)))
else
  (am_g (am_in a3 30) (some ((τ.1 32 (a3.toNatClampNeg)), τ)))))
else
  ((Co_penceOn_7 n) τ a1 a2 (a3 + (-1 : Int32)))))
set_option maxRecDepth 20000 in
theorem ok_Co_penceOn_7 {X : am_X} {v : Int32} {τ' : am_T} (hF : am_F X "ShareHouse$Costs" cX1_penceOn 4) (hR : am_R X 0 0) (hB : am_B X (some .int) (some (.int v)) (am_D τ')) : ∀ (n : Nat) (τ : am_T) (a1 : Int32) (a2 : Int32) (a3 : Int32), Co_penceOn_7 n τ a1 a2 a3 = some (v, τ') → am_W X 4 (7, [(0, .ref 25), (1, .int a1), (2, .int a2), (3, .int a3)], [], am_D τ) := by
  intro n
  induction n with
  | zero => intro τ a1 a2 a3 h; unfold Co_penceOn_7 at h; cases h
  | succ n ih =>
    intro τ a1 a2 a3 h
    unfold Co_penceOn_7 at h
    refine am_seg s_Co_penceOn_1 (y := (8, [(0, .ref 25), (1, .int a1), (2, .int a2), (3, .int a3)], [.int a3], am_D τ)) hF t_s_Co_penceOn_1 rfl rfl ?_
    refine am_ite h (fun hc h => ?_) (fun hc h => ?_)
    · refine am_if_lt_t (t := 44) d_X1_penceOn_8 (by decide) hc hF ?_
      refine am_seg s_Co_penceOn_2 (y := (49, [(0, .ref 25), (1, .int a1), (2, .int a2), (3, .int a3)], [.int a1, .ref 28], am_D τ)) hF t_s_Co_penceOn_2 rfl rfl ?_
      refine am_gd h (fun hi h => ?_)
      refine am_iald (n := 20) (j := (a1.toNatClampNeg)) d_X1_penceOn_49 (Nat.le_of_ble_eq_true rfl) (Nat.le_of_ble_eq_true rfl) rfl hi rfl hF ?_
      obtain ⟨rfl, rfl⟩ := am_pair h
      exact am_iret d_X1_penceOn_50 hF hB
    · refine am_if_lt_f (t := 44) d_X1_penceOn_8 (by decide) hc hF ?_
      refine am_seg s_Co_penceOn_3 (y := (16, [(0, .ref 25), (1, .int a1), (2, .int a2), (3, .int a3)], [.int a3, .ref 31], am_D τ)) hF t_s_Co_penceOn_3 rfl rfl ?_
      refine am_gd h (fun hi h => ?_)
      refine am_iald (n := 30) (j := (a3.toNatClampNeg)) d_X1_penceOn_16 (Nat.le_of_ble_eq_true rfl) (Nat.le_of_ble_eq_true rfl) rfl hi rfl hF ?_
      refine am_seg s_Co_penceOn_4 (y := (18, [(0, .ref 25), (1, .int a1), (2, .int a2), (3, .int a3)], [.int a1, .int (τ.1 31 (a3.toNatClampNeg))], am_D τ)) hF t_s_Co_penceOn_4 rfl rfl ?_
      refine am_ite h (fun hc h => ?_) (fun hc h => ?_)
      · refine am_icmp_ne_f (t := 38) d_X1_penceOn_18 (by decide) hc hF ?_
        refine am_seg s_Co_penceOn_6 (y := (26, [(0, .ref 25), (1, .int a1), (2, .int a2), (3, .int a3)], [.int a3, .ref 33], am_D τ)) hF t_s_Co_penceOn_6 rfl rfl ?_
        refine am_gd h (fun hi h => ?_)
        refine am_iald (n := 30) (j := (a3.toNatClampNeg)) d_X1_penceOn_26 (Nat.le_of_ble_eq_true rfl) (Nat.le_of_ble_eq_true rfl) rfl hi rfl hF ?_
        refine am_seg s_Co_penceOn_7 (y := (28, [(0, .ref 25), (1, .int a1), (2, .int a2), (3, .int a3)], [.int a2, .int (τ.1 33 (a3.toNatClampNeg))], am_D τ)) hF t_s_Co_penceOn_7 rfl rfl ?_
        refine am_ite h (fun hc h => ?_) (fun hc h => ?_)
        · refine am_icmp_gt_t (t := 38) d_X1_penceOn_28 (by decide) hc hF ?_
          refine am_seg s_Co_penceOn_8 (y := (7, [(3, .int (a3 + (-1 : Int32))), (0, .ref 25), (1, .int a1), (2, .int a2)], [], am_D τ)) hF t_s_Co_penceOn_8 rfl rfl ?_
          refine am_pick [1, 2, 3, 0] rfl ?_
          exact ih _ _ _ _ h
        · refine am_icmp_gt_f (t := 38) d_X1_penceOn_28 (by decide) hc hF ?_
          refine am_seg s_Co_penceOn_9 (y := (36, [(0, .ref 25), (1, .int a1), (2, .int a2), (3, .int a3)], [.int a3, .ref 32], am_D τ)) hF t_s_Co_penceOn_9 rfl rfl ?_
          refine am_gd h (fun hi h => ?_)
          refine am_iald (n := 30) (j := (a3.toNatClampNeg)) d_X1_penceOn_36 (Nat.le_of_ble_eq_true rfl) (Nat.le_of_ble_eq_true rfl) rfl hi rfl hF ?_
          obtain ⟨rfl, rfl⟩ := am_pair h
          exact am_iret d_X1_penceOn_37 hF hB
      · refine am_icmp_ne_t (t := 38) d_X1_penceOn_18 (by decide) hc hF ?_
        refine am_seg s_Co_penceOn_5 (y := (7, [(3, .int (a3 + (-1 : Int32))), (0, .ref 25), (1, .int a1), (2, .int a2)], [], am_D τ)) hF t_s_Co_penceOn_5 rfl rfl ?_
        refine am_pick [1, 2, 3, 0] rfl ?_
        exact ih _ _ _ _ h
def Co_penceOn (τ : am_T) (a1 : Int32) (a2 : Int32) : Option (Int32 × am_T) :=
  Co_penceOn_7 5000 τ a1 a2 ((τ.1 25 9) - (nI 1))
set_option maxRecDepth 20000 in
theorem ok_Co_penceOn {X : am_X} {a1 : Int32} {a2 : Int32} {v : Int32} {τ τ' : am_T} (hF : am_F X "ShareHouse$Costs" cX1_penceOn 4) (hR : am_R X 0 0) (hB : am_B X (some .int) (some (.int v)) (am_D τ')) (h : Co_penceOn τ a1 a2 = some (v, τ')) : am_W X 4 (0, [(0, .ref 25), (1, .int a1), (2, .int a2)], [], am_D τ) := by
  unfold Co_penceOn at h
  refine am_seg s_Co_penceOn_0 (y := (7, [(3, .int ((τ.1 25 9) - (nI 1))), (0, .ref 25), (1, .int a1), (2, .int a2)], [], am_D τ)) hF t_s_Co_penceOn_0 rfl rfl ?_
  refine am_pick [1, 2, 3, 0] rfl ?_
  exact ok_Co_penceOn_7 hF hR hB _ _ _ _ _ h
theorem c_Co_penceOn {a1 : Int32} {a2 : Int32} {v : Int32} {τ τ' : am_T} (h : Co_penceOn τ a1 a2 = some (v, τ')) : am_C yX1_penceOn cX1_penceOn 4 (some .int) 0 0 [.ref 25, .int a1, .int a2] (am_D τ) (some (.int v)) (am_D τ') :=
  am_enter (by decide +kernel) (Nat.le_of_ble_eq_true rfl) ⟨Nat.le_refl _, Nat.le_refl _⟩ (fun X hF hR hB => ok_Co_penceOn hF hR hB h)
def s_Co_putRight_0 : List am_Q := [(0, .iload_n 3, 0, 0, 0, .null), (1, .aload_n 0, 0, 0, 0, .null), (2, .getfield 15, 1, 1, 22, .null), (5, .iload_n 1, 0, 0, 0, .null)]
theorem t_s_Co_putRight_0 : s_Co_putRight_0.all (am_ok 1 cX1_putRight) = true := by decide +kernel
theorem d_X1_putRight_6 : decode cX1_putRight 6 = .ok (.iaload, 1) := by decide +kernel
def s_Co_putRight_1 : List am_Q := [(7, .isub, 0, 0, 0, .null), (8, .iload 4, 0, 0, 0, .null)]
theorem t_s_Co_putRight_1 : s_Co_putRight_1.all (am_ok 1 cX1_putRight) = true := by decide +kernel
theorem d_X1_putRight_10 : decode cX1_putRight 10 = .ok (.if_icmp .le 6, 3) := by decide +kernel
def s_Co_putRight_2 : List am_Q := [(16, .aload_n 0, 0, 0, 0, .null), (17, .getfield 48, 1, 9, 38, .null), (20, .bipush 30, 0, 0, 0, .int (nI 30))]
theorem t_s_Co_putRight_2 : s_Co_putRight_2.all (am_ok 1 cX1_putRight) = true := by decide +kernel
theorem d_X1_putRight_22 : decode cX1_putRight 22 = .ok (.if_icmp .lt 6, 3) := by decide +kernel
def s_Co_putRight_3 : List am_Q := [(28, .aload_n 0, 0, 0, 0, .null), (29, .getfield 28, 1, 6, 35, .null), (32, .aload_n 0, 0, 0, 0, .null), (33, .getfield 48, 1, 9, 38, .null), (36, .iload_n 1, 0, 0, 0, .null)]
theorem t_s_Co_putRight_3 : s_Co_putRight_3.all (am_ok 1 cX1_putRight) = true := by decide +kernel
theorem d_X1_putRight_37 : decode cX1_putRight 37 = .ok (.iastore, 1) := by decide +kernel
def s_Co_putRight_4 : List am_Q := [(38, .aload_n 0, 0, 0, 0, .null), (39, .getfield 31, 1, 7, 36, .null), (42, .aload_n 0, 0, 0, 0, .null), (43, .getfield 48, 1, 9, 38, .null), (46, .iload_n 2, 0, 0, 0, .null)]
theorem t_s_Co_putRight_4 : s_Co_putRight_4.all (am_ok 1 cX1_putRight) = true := by decide +kernel
theorem d_X1_putRight_47 : decode cX1_putRight 47 = .ok (.iastore, 1) := by decide +kernel
def s_Co_putRight_5 : List am_Q := [(48, .aload_n 0, 0, 0, 0, .null), (49, .getfield 34, 1, 8, 37, .null), (52, .aload_n 0, 0, 0, 0, .null), (53, .getfield 48, 1, 9, 38, .null), (56, .iload_n 3, 0, 0, 0, .null)]
theorem t_s_Co_putRight_5 : s_Co_putRight_5.all (am_ok 1 cX1_putRight) = true := by decide +kernel
theorem d_X1_putRight_57 : decode cX1_putRight 57 = .ok (.iastore, 1) := by decide +kernel
def s_Co_putRight_6 : List am_Q := [(58, .aload_n 0, 0, 0, 0, .null), (59, .dup, 0, 0, 0, .null), (60, .getfield 48, 1, 9, 38, .null), (63, .iconst 1, 0, 0, 0, .int (nI 1)), (64, .iadd, 0, 0, 0, .null), (65, .putfield 48, 1, 9, 38, .null), (68, .iconst 0, 0, 0, 0, .int (nI 0))]
theorem t_s_Co_putRight_6 : s_Co_putRight_6.all (am_ok 1 cX1_putRight) = true := by decide +kernel
theorem d_X1_putRight_69 : decode cX1_putRight 69 = .ok (.ireturn, 1) := by decide +kernel
def s_Co_putRight_7 : List am_Q := [(25, .bipush (-2), 0, 0, 0, .int (-2 : Int32))]
theorem t_s_Co_putRight_7 : s_Co_putRight_7.all (am_ok 1 cX1_putRight) = true := by decide +kernel
theorem d_X1_putRight_27 : decode cX1_putRight 27 = .ok (.ireturn, 1) := by decide +kernel
def s_Co_putRight_8 : List am_Q := [(13, .bipush (-5), 0, 0, 0, .int (-5 : Int32))]
theorem t_s_Co_putRight_8 : s_Co_putRight_8.all (am_ok 1 cX1_putRight) = true := by decide +kernel
theorem d_X1_putRight_15 : decode cX1_putRight 15 = .ok (.ireturn, 1) := by decide +kernel
def Co_putRight (τ : am_T) (a1 : Int32) (a2 : Int32) (a3 : Int32) (a4 : Int32) : Option (Int32 × am_T) :=
  am_g (am_in a1 20) (if (a3 - (τ.1 27 (a1.toNatClampNeg))) ≤ a4 then
  (if (τ.1 25 9) < (nI 30) then
  (am_g (am_in (τ.1 25 9) 30) (am_g (am_in ((am_si τ 31 ((τ.1 25 9).toNatClampNeg) a1).1 25 9) 30) (am_g (am_in ((am_si (am_si τ 31 ((τ.1 25 9).toNatClampNeg) a1) 32 (((am_si τ 31 ((τ.1 25 9).toNatClampNeg) a1).1 25 9).toNatClampNeg) a2).1 25 9) 30) (some ((nI 0), (am_si (am_si (am_si (am_si τ 31 ((τ.1 25 9).toNatClampNeg) a1) 32 (((am_si τ 31 ((τ.1 25 9).toNatClampNeg) a1).1 25 9).toNatClampNeg) a2) 33 (((am_si (am_si τ 31 ((τ.1 25 9).toNatClampNeg) a1) 32 (((am_si τ 31 ((τ.1 25 9).toNatClampNeg) a1).1 25 9).toNatClampNeg) a2).1 25 9).toNatClampNeg) a3) 25 9 (((am_si (am_si (am_si τ 31 ((τ.1 25 9).toNatClampNeg) a1) 32 (((am_si τ 31 ((τ.1 25 9).toNatClampNeg) a1).1 25 9).toNatClampNeg) a2) 33 (((am_si (am_si τ 31 ((τ.1 25 9).toNatClampNeg) a1) 32 (((am_si τ 31 ((τ.1 25 9).toNatClampNeg) a1).1 25 9).toNatClampNeg) a2).1 25 9).toNatClampNeg) a3).1 25 9) + (nI 1))))))))
else
  (some ((-2 : Int32), τ)))
else
  (some ((-5 : Int32), τ)))
set_option maxRecDepth 20000 in
theorem ok_Co_putRight {X : am_X} {a1 : Int32} {a2 : Int32} {a3 : Int32} {a4 : Int32} {v : Int32} {τ τ' : am_T} (hF : am_F X "ShareHouse$Costs" cX1_putRight 5) (hR : am_R X 0 0) (hB : am_B X (some .int) (some (.int v)) (am_D τ')) (h : Co_putRight τ a1 a2 a3 a4 = some (v, τ')) : am_W X 5 (0, [(0, .ref 25), (1, .int a1), (2, .int a2), (3, .int a3), (4, .int a4)], [], am_D τ) := by
  unfold Co_putRight at h
  refine am_seg s_Co_putRight_0 (y := (6, [(0, .ref 25), (1, .int a1), (2, .int a2), (3, .int a3), (4, .int a4)], [.int a1, .ref 27, .int a3], am_D τ)) hF t_s_Co_putRight_0 rfl rfl ?_
  refine am_gd h (fun hi h => ?_)
  refine am_iald (n := 20) (j := (a1.toNatClampNeg)) d_X1_putRight_6 (Nat.le_of_ble_eq_true rfl) (Nat.le_of_ble_eq_true rfl) rfl hi rfl hF ?_
  refine am_seg s_Co_putRight_1 (y := (10, [(0, .ref 25), (1, .int a1), (2, .int a2), (3, .int a3), (4, .int a4)], [.int a4, .int (a3 - (τ.1 27 (a1.toNatClampNeg)))], am_D τ)) hF t_s_Co_putRight_1 rfl rfl ?_
  refine am_ite h (fun hc h => ?_) (fun hc h => ?_)
  · refine am_icmp_le_t (t := 16) d_X1_putRight_10 (by decide) hc hF ?_
    refine am_seg s_Co_putRight_2 (y := (22, [(0, .ref 25), (1, .int a1), (2, .int a2), (3, .int a3), (4, .int a4)], [.int (nI 30), .int (τ.1 25 9)], am_D τ)) hF t_s_Co_putRight_2 rfl rfl ?_
    refine am_ite h (fun hc h => ?_) (fun hc h => ?_)
    · refine am_icmp_lt_t (t := 28) d_X1_putRight_22 (by decide) hc hF ?_
      refine am_seg s_Co_putRight_3 (y := (37, [(0, .ref 25), (1, .int a1), (2, .int a2), (3, .int a3), (4, .int a4)], [.int a1, .int (τ.1 25 9), .ref 31], am_D τ)) hF t_s_Co_putRight_3 rfl rfl ?_
      refine am_gd h (fun hi h => ?_)
      refine am_iast (n := 30) (j := ((τ.1 25 9).toNatClampNeg)) d_X1_putRight_37 (Nat.le_of_ble_eq_true rfl) (Nat.le_of_ble_eq_true rfl) rfl hi rfl hF ?_
      refine am_seg s_Co_putRight_4 (y := (47, [(0, .ref 25), (1, .int a1), (2, .int a2), (3, .int a3), (4, .int a4)], [.int a2, .int ((am_si τ 31 ((τ.1 25 9).toNatClampNeg) a1).1 25 9), .ref 32], am_D (am_si τ 31 ((τ.1 25 9).toNatClampNeg) a1))) hF t_s_Co_putRight_4 rfl rfl ?_
      refine am_gd h (fun hi h => ?_)
      refine am_iast (n := 30) (j := (((am_si τ 31 ((τ.1 25 9).toNatClampNeg) a1).1 25 9).toNatClampNeg)) d_X1_putRight_47 (Nat.le_of_ble_eq_true rfl) (Nat.le_of_ble_eq_true rfl) rfl hi rfl hF ?_
      refine am_seg s_Co_putRight_5 (y := (57, [(0, .ref 25), (1, .int a1), (2, .int a2), (3, .int a3), (4, .int a4)], [.int a3, .int ((am_si (am_si τ 31 ((τ.1 25 9).toNatClampNeg) a1) 32 (((am_si τ 31 ((τ.1 25 9).toNatClampNeg) a1).1 25 9).toNatClampNeg) a2).1 25 9), .ref 33], am_D (am_si (am_si τ 31 ((τ.1 25 9).toNatClampNeg) a1) 32 (((am_si τ 31 ((τ.1 25 9).toNatClampNeg) a1).1 25 9).toNatClampNeg) a2))) hF t_s_Co_putRight_5 rfl rfl ?_
      refine am_gd h (fun hi h => ?_)
      refine am_iast (n := 30) (j := (((am_si (am_si τ 31 ((τ.1 25 9).toNatClampNeg) a1) 32 (((am_si τ 31 ((τ.1 25 9).toNatClampNeg) a1).1 25 9).toNatClampNeg) a2).1 25 9).toNatClampNeg)) d_X1_putRight_57 (Nat.le_of_ble_eq_true rfl) (Nat.le_of_ble_eq_true rfl) rfl hi rfl hF ?_
      refine am_seg s_Co_putRight_6 (y := (69, [(0, .ref 25), (1, .int a1), (2, .int a2), (3, .int a3), (4, .int a4)], [.int (nI 0)], am_D (am_si (am_si (am_si (am_si τ 31 ((τ.1 25 9).toNatClampNeg) a1) 32 (((am_si τ 31 ((τ.1 25 9).toNatClampNeg) a1).1 25 9).toNatClampNeg) a2) 33 (((am_si (am_si τ 31 ((τ.1 25 9).toNatClampNeg) a1) 32 (((am_si τ 31 ((τ.1 25 9).toNatClampNeg) a1).1 25 9).toNatClampNeg) a2).1 25 9).toNatClampNeg) a3) 25 9 (((am_si (am_si (am_si τ 31 ((τ.1 25 9).toNatClampNeg) a1) 32 (((am_si τ 31 ((τ.1 25 9).toNatClampNeg) a1).1 25 9).toNatClampNeg) a2) 33 (((am_si (am_si τ 31 ((τ.1 25 9).toNatClampNeg) a1) 32 (((am_si τ 31 ((τ.1 25 9).toNatClampNeg) a1).1 25 9).toNatClampNeg) a2).1 25 9).toNatClampNeg) a3).1 25 9) + (nI 1))))) hF t_s_Co_putRight_6 rfl rfl ?_
      obtain ⟨rfl, rfl⟩ := am_pair h
      exact am_iret d_X1_putRight_69 hF hB
    · refine am_icmp_lt_f (t := 28) d_X1_putRight_22 (by decide) hc hF ?_
      refine am_seg s_Co_putRight_7 (y := (27, [(0, .ref 25), (1, .int a1), (2, .int a2), (3, .int a3), (4, .int a4)], [.int (-2 : Int32)], am_D τ)) hF t_s_Co_putRight_7 rfl rfl ?_
      obtain ⟨rfl, rfl⟩ := am_pair h
      exact am_iret d_X1_putRight_27 hF hB
  · refine am_icmp_le_f (t := 16) d_X1_putRight_10 (by decide) hc hF ?_
    refine am_seg s_Co_putRight_8 (y := (15, [(0, .ref 25), (1, .int a1), (2, .int a2), (3, .int a3), (4, .int a4)], [.int (-5 : Int32)], am_D τ)) hF t_s_Co_putRight_8 rfl rfl ?_
    obtain ⟨rfl, rfl⟩ := am_pair h
    exact am_iret d_X1_putRight_15 hF hB
theorem c_Co_putRight {a1 : Int32} {a2 : Int32} {a3 : Int32} {a4 : Int32} {v : Int32} {τ τ' : am_T} (h : Co_putRight τ a1 a2 a3 a4 = some (v, τ')) : am_C yX1_putRight cX1_putRight 5 (some .int) 0 0 [.ref 25, .int a1, .int a2, .int a3, .int a4] (am_D τ) (some (.int v)) (am_D τ') :=
  am_enter (by decide +kernel) (Nat.le_of_ble_eq_true rfl) ⟨Nat.le_refl _, Nat.le_refl _⟩ (fun X hF hR hB => ok_Co_putRight hF hR hB h)
def s_Ho_putRight_0 : List am_Q := [(0, .aload_n 0, 0, 0, 0, .null), (1, .getfield 36, 3, 4, 98, .null), (4, .iload_n 1, 0, 0, 0, .null), (5, .iload_n 2, 0, 0, 0, .null), (6, .aload_n 0, 0, 0, 0, .null), (7, .getfield 61, 3, 0, 84, .null), (10, .aload_n 0, 0, 0, 0, .null), (11, .getfield 18, 3, 1, 87, .null), (14, .iconst 0, 0, 0, 0, .int (nI 0))]
theorem t_s_Ho_putRight_0 : s_Ho_putRight_0.all (am_ok 3 cX3_putRight) = true := by decide +kernel
theorem d_X3_putRight_15 : decode cX3_putRight 15 = .ok (.iaload, 1) := by decide +kernel
theorem d_X3_putRight_16 : decode cX3_putRight 16 = .ok (.invokevirtual 85, 3) := by decide +kernel
theorem d_X3_putRight_19 : decode cX3_putRight 19 = .ok (.ireturn, 1) := by decide +kernel
def Ho_putRight (τ : am_T) (a1 : Int32) (a2 : Int32) : Option (Int32 × am_T) :=
  (Co_putRight τ a1 a2 (τ.1 1 0) (τ.1 2 0)).bind (fun x1 =>
  some (x1.1, x1.2))
set_option maxRecDepth 20000 in
theorem ok_Ho_putRight {X : am_X} {a1 : Int32} {a2 : Int32} {v : Int32} {τ τ' : am_T} (hF : am_F X "ShareHouse$House" cX3_putRight 3) (hR : am_R X 1 24) (hB : am_B X (some .int) (some (.int v)) (am_D τ')) (h : Ho_putRight τ a1 a2 = some (v, τ')) : am_W X 3 (0, [(0, .ref 1), (1, .int a1), (2, .int a2)], [], am_D τ) := by
  unfold Ho_putRight at h
  refine am_seg s_Ho_putRight_0 (y := (15, [(0, .ref 1), (1, .int a1), (2, .int a2)], [.int (nI 0), .ref 2, .int (τ.1 1 0), .int a2, .int a1, .ref 25], am_D τ)) hF t_s_Ho_putRight_0 rfl rfl ?_
  refine am_iald (n := 6) (j := 0) d_X3_putRight_15 (Nat.le_of_ble_eq_true rfl) (Nat.le_of_ble_eq_true rfl) rfl (by decide) rfl hF ?_
  refine am_bd h (fun x1 hx h => ?_)
  refine am_callV (As := [.int a1, .int a2, .int (τ.1 1 0), .int (τ.1 2 0)]) (r := (some (.int x1.1))) (st := []) (σ' := am_D x1.2) (ci := 1) hF hR d_X3_putRight_16 (c_Co_putRight (τ' := x1.2) hx) (Nat.le_refl _) (Nat.le_refl _) wl_Ho_85 wi_yX1_putRight we_yX1_putRight wn_ShareHouse_Costs wc_yX1_putRight (Nat.le_of_ble_eq_true rfl) (Nat.le_of_ble_eq_true rfl) rfl rfl wy_yX1_putRight rfl ⟨by decide, by decide⟩ (Nat.le_of_ble_eq_true rfl) ?_
  obtain ⟨rfl, rfl⟩ := am_pair h
  exact am_iret d_X3_putRight_19 hF hB
theorem c_Ho_putRight {a1 : Int32} {a2 : Int32} {v : Int32} {τ τ' : am_T} (h : Ho_putRight τ a1 a2 = some (v, τ')) : am_C yX3_putRight cX3_putRight 3 (some .int) 1 24 [.ref 1, .int a1, .int a2] (am_D τ) (some (.int v)) (am_D τ') :=
  am_enter (by decide +kernel) (Nat.le_of_ble_eq_true rfl) ⟨Nat.le_refl _, Nat.le_refl _⟩ (fun X hF hR hB => ok_Ho_putRight hF hR hB h)
def s_X_right_0 : List am_Q := [(0, .aload_n 0, 0, 0, 0, .null), (1, .getfield 10, 11, 0, 145, .null), (4, .getfield 157, 3, 4, 101, .null), (7, .iload_n 1, 0, 0, 0, .null)]
theorem t_s_X_right_0 : s_X_right_0.all (am_ok 11 cX11_right) = true := by decide +kernel
theorem d_X11_right_8 : decode cX11_right 8 = .ok (.invokevirtual 166, 3) := by decide +kernel
theorem d_X11_right_11 : decode cX11_right 11 = .ok (.ifCond .eq 13, 3) := by decide +kernel
def s_X_right_1 : List am_Q := [(24, .iconst (-1), 0, 0, 0, .int (-1 : Int32))]
theorem t_s_X_right_1 : s_X_right_1.all (am_ok 11 cX11_right) = true := by decide +kernel
theorem d_X11_right_25 : decode cX11_right 25 = .ok (.ireturn, 1) := by decide +kernel
def s_X_right_2 : List am_Q := [(14, .iload_n 2, 0, 0, 0, .null), (15, .iconst 0, 0, 0, 0, .int (nI 0)), (16, .ldc 156, 0, 0, 1, .int (nI 99999))]
theorem t_s_X_right_2 : s_X_right_2.all (am_ok 11 cX11_right) = true := by decide +kernel
theorem d_X11_right_18 : decode cX11_right 18 = .ok (.invokestatic 47, 3) := by decide +kernel
theorem d_X11_right_21 : decode cX11_right 21 = .ok (.ifCond .ne 5, 3) := by decide +kernel
def s_X_right_3 : List am_Q := [(26, .aload_n 0, 0, 0, 0, .null), (27, .getfield 10, 11, 0, 145, .null), (30, .getfield 157, 3, 4, 101, .null), (33, .iload_n 1, 0, 0, 0, .null), (34, .aload_n 0, 0, 0, 0, .null), (35, .getfield 10, 11, 0, 145, .null), (38, .getfield 61, 3, 0, 85, .null)]
theorem t_s_X_right_3 : s_X_right_3.all (am_ok 11 cX11_right) = true := by decide +kernel
theorem d_X11_right_41 : decode cX11_right 41 = .ok (.invokevirtual 167, 3) := by decide +kernel
def s_X_right_4 : List am_Q := [(44, .istore_n 3, 0, 0, 0, .null), (45, .aload_n 0, 0, 0, 0, .null), (46, .getfield 10, 11, 0, 145, .null), (49, .iload_n 1, 0, 0, 0, .null), (50, .iload_n 2, 0, 0, 0, .null)]
theorem t_s_X_right_4 : s_X_right_4.all (am_ok 11 cX11_right) = true := by decide +kernel
theorem d_X11_right_51 : decode cX11_right 51 = .ok (.invokevirtual 170, 3) := by decide +kernel
def s_X_right_5 : List am_Q := [(54, .istore 4, 0, 0, 0, .null), (56, .iload 4, 0, 0, 0, .null)]
theorem t_s_X_right_5 : s_X_right_5.all (am_ok 11 cX11_right) = true := by decide +kernel
theorem d_X11_right_58 : decode cX11_right 58 = .ok (.ifCond .ge 8, 3) := by decide +kernel
def s_X_right_6 : List am_Q := [(66, .iload_n 3, 0, 0, 0, .null)]
theorem t_s_X_right_6 : s_X_right_6.all (am_ok 11 cX11_right) = true := by decide +kernel
theorem d_X11_right_67 : decode cX11_right 67 = .ok (.ireturn, 1) := by decide +kernel
def s_X_right_7 : List am_Q := [(61, .iload 4, 0, 0, 0, .null), (63, .goto 4, 67, 0, 0, .null)]
theorem t_s_X_right_7 : s_X_right_7.all (am_ok 11 cX11_right) = true := by decide +kernel
def s_X_right_8 : List am_Q := [(24, .iconst (-1), 0, 0, 0, .int (-1 : Int32))]
theorem t_s_X_right_8 : s_X_right_8.all (am_ok 11 cX11_right) = true := by decide +kernel
def X_right (τ : am_T) (a1 : Int32) (a2 : Int32) : Option (Int32 × am_T) :=
  (Co_has τ a1).bind (fun x1 =>
  if x1.1 = 0 then
  (some ((-1 : Int32), x1.2))
else
  ((X_within x1.2 a2 (nI 0) (nI 99999)).bind (fun x2 =>
  if x2.1 = 0 then
  (some ((-1 : Int32), x2.2))
else
  ((Co_penceOn x2.2 a1 (x2.2.1 1 0)).bind (fun x3 =>
  (Ho_putRight x3.2 a1 a2).bind (fun x4 =>
  if 0 ≤ x4.1 then
  (some (x3.1, x4.2))
else
  (some (x4.1, x4.2))))))))
set_option maxRecDepth 20000 in
theorem ok_X_right {X : am_X} {a1 : Int32} {a2 : Int32} {v : Int32} {τ τ' : am_T} (hF : am_F X "ShareHouse" cX11_right 5) (hR : am_R X 2 46) (hB : am_B X (some .int) (some (.int v)) (am_D τ')) (h : X_right τ a1 a2 = some (v, τ')) : am_W X 5 (0, [(0, .ref 0), (1, .int a1), (2, .int a2)], [], am_D τ) := by
  unfold X_right at h
  refine am_seg s_X_right_0 (y := (8, [(0, .ref 0), (1, .int a1), (2, .int a2)], [.int a1, .ref 25], am_D τ)) hF t_s_X_right_0 rfl rfl ?_
  refine am_bd h (fun x1 hx h => ?_)
  refine am_callV (As := [.int a1]) (r := (some (.int x1.1))) (st := []) (σ' := am_D x1.2) (ci := 1) hF hR d_X11_right_8 (c_Co_has (τ' := x1.2) hx) (Nat.le_refl _) (Nat.le_refl _) wl_X_166 wi_yX1_has we_yX1_has wn_ShareHouse_Costs wc_yX1_has (Nat.le_of_ble_eq_true rfl) (Nat.le_of_ble_eq_true rfl) rfl rfl wy_yX1_has rfl ⟨by decide, by decide⟩ (Nat.le_of_ble_eq_true rfl) ?_
  refine am_ite h (fun hc h => ?_) (fun hc h => ?_)
  · refine am_if_eq_t (t := 24) d_X11_right_11 (by decide) hc hF ?_
    refine am_seg s_X_right_1 (y := (25, [(0, .ref 0), (1, .int a1), (2, .int a2)], [.int (-1 : Int32)], am_D x1.2)) hF t_s_X_right_1 rfl rfl ?_
    obtain ⟨rfl, rfl⟩ := am_pair h
    exact am_iret d_X11_right_25 hF hB
  · refine am_if_eq_f (t := 24) d_X11_right_11 (by decide) hc hF ?_
    refine am_seg s_X_right_2 (y := (18, [(0, .ref 0), (1, .int a1), (2, .int a2)], [.int (nI 99999), .int (nI 0), .int a2], am_D x1.2)) hF t_s_X_right_2 rfl rfl ?_
    refine am_bd h (fun x2 hx h => ?_)
    refine am_callS (As := [.int a2, .int (nI 0), .int (nI 99999)]) (r := (some (.int x2.1))) (st := []) (σ' := am_D x2.2) hF hR d_X11_right_18 (c_X_within (τ' := x2.2) hx) (Nat.le_refl _) (Nat.le_refl _) wl_X_47 ws_yX11_within wn_ShareHouse wc_yX11_within wy_yX11_within rfl ⟨by decide, by decide⟩ (Nat.le_of_ble_eq_true rfl) ?_
    refine am_ite h (fun hc h => ?_) (fun hc h => ?_)
    · refine am_if_ne_f (t := 26) d_X11_right_21 (by decide) hc hF ?_
      refine am_seg s_X_right_8 (y := (25, [(0, .ref 0), (1, .int a1), (2, .int a2)], [.int (-1 : Int32)], am_D x2.2)) hF t_s_X_right_8 rfl rfl ?_
      obtain ⟨rfl, rfl⟩ := am_pair h
      exact am_iret d_X11_right_25 hF hB
    · refine am_if_ne_t (t := 26) d_X11_right_21 (by decide) hc hF ?_
      refine am_seg s_X_right_3 (y := (41, [(0, .ref 0), (1, .int a1), (2, .int a2)], [.int (x2.2.1 1 0), .int a1, .ref 25], am_D x2.2)) hF t_s_X_right_3 rfl rfl ?_
      refine am_bd h (fun x3 hx h => ?_)
      refine am_callV (As := [.int a1, .int (x2.2.1 1 0)]) (r := (some (.int x3.1))) (st := []) (σ' := am_D x3.2) (ci := 1) hF hR d_X11_right_41 (c_Co_penceOn (τ' := x3.2) hx) (Nat.le_refl _) (Nat.le_refl _) wl_X_167 wi_yX1_penceOn we_yX1_penceOn wn_ShareHouse_Costs wc_yX1_penceOn (Nat.le_of_ble_eq_true rfl) (Nat.le_of_ble_eq_true rfl) rfl rfl wy_yX1_penceOn rfl ⟨by decide, by decide⟩ (Nat.le_of_ble_eq_true rfl) ?_
      refine am_seg s_X_right_4 (y := (51, [(3, .int x3.1), (0, .ref 0), (1, .int a1), (2, .int a2)], [.int a2, .int a1, .ref 1], am_D x3.2)) hF t_s_X_right_4 rfl rfl ?_
      refine am_bd h (fun x4 hx h => ?_)
      refine am_callV (As := [.int a1, .int a2]) (r := (some (.int x4.1))) (st := []) (σ' := am_D x4.2) (ci := 3) hF hR d_X11_right_51 (c_Ho_putRight (τ' := x4.2) hx) (Nat.le_refl _) (Nat.le_refl _) wl_X_170 wi_yX3_putRight we_yX3_putRight wn_ShareHouse_House wc_yX3_putRight (Nat.le_of_ble_eq_true rfl) (Nat.le_of_ble_eq_true rfl) rfl rfl wy_yX3_putRight rfl ⟨by decide, by decide⟩ (Nat.le_of_ble_eq_true rfl) ?_
      refine am_seg s_X_right_5 (y := (58, [(4, .int x4.1), (3, .int x3.1), (0, .ref 0), (1, .int a1), (2, .int a2)], [.int x4.1], am_D x4.2)) hF t_s_X_right_5 rfl rfl ?_
      refine am_ite h (fun hc h => ?_) (fun hc h => ?_)
      · refine am_if_ge_t (t := 66) d_X11_right_58 (by decide) hc hF ?_
        refine am_seg s_X_right_6 (y := (67, [(4, .int x4.1), (3, .int x3.1), (0, .ref 0), (1, .int a1), (2, .int a2)], [.int x3.1], am_D x4.2)) hF t_s_X_right_6 rfl rfl ?_
        obtain ⟨rfl, rfl⟩ := am_pair h
        exact am_iret d_X11_right_67 hF hB
      · refine am_if_ge_f (t := 66) d_X11_right_58 (by decide) hc hF ?_
        refine am_seg s_X_right_7 (y := (67, [(4, .int x4.1), (3, .int x3.1), (0, .ref 0), (1, .int a1), (2, .int a2)], [.int x4.1], am_D x4.2)) hF t_s_X_right_7 rfl rfl ?_
        obtain ⟨rfl, rfl⟩ := am_pair h
        exact am_iret d_X11_right_67 hF hB
theorem c_X_right {a1 : Int32} {a2 : Int32} {v : Int32} {τ τ' : am_T} (h : X_right τ a1 a2 = some (v, τ')) : am_C yX11_right cX11_right 5 (some .int) 2 46 [.ref 0, .int a1, .int a2] (am_D τ) (some (.int v)) (am_D τ') :=
  am_enter (by decide +kernel) (Nat.le_of_ble_eq_true rfl) ⟨Nat.le_refl _, Nat.le_refl _⟩ (fun X hF hR hB => ok_X_right hF hR hB h)
def s_Co_timesRight_0 : List am_Q := [(0, .iconst 0, 0, 0, 0, .int (nI 0)), (1, .istore_n 2, 0, 0, 0, .null), (2, .iconst 0, 0, 0, 0, .int (nI 0)), (3, .istore_n 3, 0, 0, 0, .null)]
theorem t_s_Co_timesRight_0 : s_Co_timesRight_0.all (am_ok 1 cX1_timesRight) = true := by decide +kernel
def s_Co_timesRight_1 : List am_Q := [(4, .iload_n 3, 0, 0, 0, .null), (5, .aload_n 0, 0, 0, 0, .null), (6, .getfield 48, 1, 9, 38, .null)]
theorem t_s_Co_timesRight_1 : s_Co_timesRight_1.all (am_ok 1 cX1_timesRight) = true := by decide +kernel
theorem d_X1_timesRight_9 : decode cX1_timesRight 9 = .ok (.if_icmp .ge 22, 3) := by decide +kernel
def s_Co_timesRight_2 : List am_Q := [(31, .iload_n 2, 0, 0, 0, .null)]
theorem t_s_Co_timesRight_2 : s_Co_timesRight_2.all (am_ok 1 cX1_timesRight) = true := by decide +kernel
theorem d_X1_timesRight_32 : decode cX1_timesRight 32 = .ok (.ireturn, 1) := by decide +kernel
def s_Co_timesRight_3 : List am_Q := [(12, .aload_n 0, 0, 0, 0, .null), (13, .getfield 28, 1, 6, 35, .null), (16, .iload_n 3, 0, 0, 0, .null)]
theorem t_s_Co_timesRight_3 : s_Co_timesRight_3.all (am_ok 1 cX1_timesRight) = true := by decide +kernel
theorem d_X1_timesRight_17 : decode cX1_timesRight 17 = .ok (.iaload, 1) := by decide +kernel
def s_Co_timesRight_4 : List am_Q := [(18, .iload_n 1, 0, 0, 0, .null)]
theorem t_s_Co_timesRight_4 : s_Co_timesRight_4.all (am_ok 1 cX1_timesRight) = true := by decide +kernel
theorem d_X1_timesRight_19 : decode cX1_timesRight 19 = .ok (.if_icmp .ne 6, 3) := by decide +kernel
def s_Co_timesRight_5 : List am_Q := [(25, .iinc 3 1, 0, 0, 0, .int (nI 1)), (28, .goto (-24), 4, 0, 0, .null)]
theorem t_s_Co_timesRight_5 : s_Co_timesRight_5.all (am_ok 1 cX1_timesRight) = true := by decide +kernel
def s_Co_timesRight_6 : List am_Q := [(22, .iinc 2 1, 0, 0, 0, .int (nI 1)), (25, .iinc 3 1, 0, 0, 0, .int (nI 1)), (28, .goto (-24), 4, 0, 0, .null)]
theorem t_s_Co_timesRight_6 : s_Co_timesRight_6.all (am_ok 1 cX1_timesRight) = true := by decide +kernel
def Co_timesRight_4 : Nat → am_T → Int32 → Int32 → Int32 → Option (Int32 × am_T)
  | 0, _, _, _, _ => none
  | n + 1, τ, a1, a2, a3 =>
    if (τ.1 25 9) ≤ a3 then
  (some (a2, τ))
else
  (am_g (am_in a3 30) (if (τ.1 31 (a3.toNatClampNeg)) = a1 then
  ((Co_timesRight_4 n) τ a1 (a2 + (nI 1)) (a3 + (nI 1)))
else
  ((Co_timesRight_4 n) τ a1 a2 (a3 + (nI 1)))))
set_option maxRecDepth 20000 in
theorem ok_Co_timesRight_4 {X : am_X} {v : Int32} {τ' : am_T} (hF : am_F X "ShareHouse$Costs" cX1_timesRight 4) (hR : am_R X 0 0) (hB : am_B X (some .int) (some (.int v)) (am_D τ')) : ∀ (n : Nat) (τ : am_T) (a1 : Int32) (a2 : Int32) (a3 : Int32), Co_timesRight_4 n τ a1 a2 a3 = some (v, τ') → am_W X 4 (4, [(0, .ref 25), (1, .int a1), (2, .int a2), (3, .int a3)], [], am_D τ) := by
  intro n
  induction n with
  | zero => intro τ a1 a2 a3 h; unfold Co_timesRight_4 at h; cases h
  | succ n ih =>
    intro τ a1 a2 a3 h
    unfold Co_timesRight_4 at h
    refine am_seg s_Co_timesRight_1 (y := (9, [(0, .ref 25), (1, .int a1), (2, .int a2), (3, .int a3)], [.int (τ.1 25 9), .int a3], am_D τ)) hF t_s_Co_timesRight_1 rfl rfl ?_
    refine am_ite h (fun hc h => ?_) (fun hc h => ?_)
    · refine am_icmp_ge_t (t := 31) d_X1_timesRight_9 (by decide) hc hF ?_
      refine am_seg s_Co_timesRight_2 (y := (32, [(0, .ref 25), (1, .int a1), (2, .int a2), (3, .int a3)], [.int a2], am_D τ)) hF t_s_Co_timesRight_2 rfl rfl ?_
      obtain ⟨rfl, rfl⟩ := am_pair h
      exact am_iret d_X1_timesRight_32 hF hB
    · refine am_icmp_ge_f (t := 31) d_X1_timesRight_9 (by decide) hc hF ?_
      refine am_seg s_Co_timesRight_3 (y := (17, [(0, .ref 25), (1, .int a1), (2, .int a2), (3, .int a3)], [.int a3, .ref 31], am_D τ)) hF t_s_Co_timesRight_3 rfl rfl ?_
      refine am_gd h (fun hi h => ?_)
      refine am_iald (n := 30) (j := (a3.toNatClampNeg)) d_X1_timesRight_17 (Nat.le_of_ble_eq_true rfl) (Nat.le_of_ble_eq_true rfl) rfl hi rfl hF ?_
      refine am_seg s_Co_timesRight_4 (y := (19, [(0, .ref 25), (1, .int a1), (2, .int a2), (3, .int a3)], [.int a1, .int (τ.1 31 (a3.toNatClampNeg))], am_D τ)) hF t_s_Co_timesRight_4 rfl rfl ?_
      refine am_ite h (fun hc h => ?_) (fun hc h => ?_)
      · refine am_icmp_ne_f (t := 25) d_X1_timesRight_19 (by decide) hc hF ?_
        refine am_seg s_Co_timesRight_6 (y := (4, [(3, .int (a3 + (nI 1))), (2, .int (a2 + (nI 1))), (0, .ref 25), (1, .int a1)], [], am_D τ)) hF t_s_Co_timesRight_6 rfl rfl ?_
        refine am_pick [2, 3, 1, 0] rfl ?_
        exact ih _ _ _ _ h
      · refine am_icmp_ne_t (t := 25) d_X1_timesRight_19 (by decide) hc hF ?_
        refine am_seg s_Co_timesRight_5 (y := (4, [(3, .int (a3 + (nI 1))), (0, .ref 25), (1, .int a1), (2, .int a2)], [], am_D τ)) hF t_s_Co_timesRight_5 rfl rfl ?_
        refine am_pick [1, 2, 3, 0] rfl ?_
        exact ih _ _ _ _ h
def Co_timesRight (τ : am_T) (a1 : Int32) : Option (Int32 × am_T) :=
  Co_timesRight_4 5000 τ a1 (nI 0) (nI 0)
set_option maxRecDepth 20000 in
theorem ok_Co_timesRight {X : am_X} {a1 : Int32} {v : Int32} {τ τ' : am_T} (hF : am_F X "ShareHouse$Costs" cX1_timesRight 4) (hR : am_R X 0 0) (hB : am_B X (some .int) (some (.int v)) (am_D τ')) (h : Co_timesRight τ a1 = some (v, τ')) : am_W X 4 (0, [(0, .ref 25), (1, .int a1)], [], am_D τ) := by
  unfold Co_timesRight at h
  refine am_seg s_Co_timesRight_0 (y := (4, [(3, .int (nI 0)), (2, .int (nI 0)), (0, .ref 25), (1, .int a1)], [], am_D τ)) hF t_s_Co_timesRight_0 rfl rfl ?_
  refine am_pick [2, 3, 1, 0] rfl ?_
  exact ok_Co_timesRight_4 hF hR hB _ _ _ _ _ h
theorem c_Co_timesRight {a1 : Int32} {v : Int32} {τ τ' : am_T} (h : Co_timesRight τ a1 = some (v, τ')) : am_C yX1_timesRight cX1_timesRight 4 (some .int) 0 0 [.ref 25, .int a1] (am_D τ) (some (.int v)) (am_D τ') :=
  am_enter (by decide +kernel) (Nat.le_of_ble_eq_true rfl) ⟨Nat.le_refl _, Nat.le_refl _⟩ (fun X hF hR hB => ok_Co_timesRight hF hR hB h)
def s_Ho_levelOf_0 : List am_Q := [(0, .aload_n 0, 0, 0, 0, .null), (1, .getfield 29, 3, 3, 94, .null)]
theorem t_s_Ho_levelOf_0 : s_Ho_levelOf_0.all (am_ok 3 cX3_levelOf) = true := by decide +kernel
theorem d_X3_levelOf_4 : decode cX3_levelOf 4 = .ok (.invokevirtual 89, 3) := by decide +kernel
def s_Ho_levelOf_1 : List am_Q := [(7, .istore_n 2, 0, 0, 0, .null), (8, .iload_n 2, 0, 0, 0, .null)]
theorem t_s_Ho_levelOf_1 : s_Ho_levelOf_1.all (am_ok 3 cX3_levelOf) = true := by decide +kernel
theorem d_X3_levelOf_9 : decode cX3_levelOf 9 = .ok (.ifCond .gt 8, 3) := by decide +kernel
def s_Ho_levelOf_2 : List am_Q := [(17, .aload_n 0, 0, 0, 0, .null), (18, .getfield 36, 3, 4, 98, .null), (21, .iload_n 1, 0, 0, 0, .null), (22, .aload_n 0, 0, 0, 0, .null), (23, .getfield 61, 3, 0, 84, .null)]
theorem t_s_Ho_levelOf_2 : s_Ho_levelOf_2.all (am_ok 3 cX3_levelOf) = true := by decide +kernel
theorem d_X3_levelOf_26 : decode cX3_levelOf 26 = .ok (.invokevirtual 93, 3) := by decide +kernel
def s_Ho_levelOf_3 : List am_Q := [(29, .bipush 100, 0, 0, 0, .int (nI 100)), (31, .imul, 0, 0, 0, .null), (32, .iload_n 2, 0, 0, 0, .null)]
theorem t_s_Ho_levelOf_3 : s_Ho_levelOf_3.all (am_ok 3 cX3_levelOf) = true := by decide +kernel
theorem d_X3_levelOf_33 : decode cX3_levelOf 33 = .ok (.idiv, 1) := by decide +kernel
theorem d_X3_levelOf_34 : decode cX3_levelOf 34 = .ok (.ireturn, 1) := by decide +kernel
def s_Ho_levelOf_4 : List am_Q := [(12, .bipush (-3), 0, 0, 0, .int (-3 : Int32)), (14, .goto 20, 34, 0, 0, .null)]
theorem t_s_Ho_levelOf_4 : s_Ho_levelOf_4.all (am_ok 3 cX3_levelOf) = true := by decide +kernel
def Ho_levelOf (τ : am_T) (a1 : Int32) : Option (Int32 × am_T) :=
  (Fl_allAreas τ).bind (fun x1 =>
  if 0 < x1.1 then
  ((Co_penceOn x1.2 a1 (x1.2.1 1 0)).bind (fun x2 =>
  if x1.1 = 0 then none else
  some (((x2.1 * (nI 100)) / x1.1), x2.2)))
else
  (some ((-3 : Int32), x1.2)))
set_option maxRecDepth 20000 in
theorem ok_Ho_levelOf {X : am_X} {a1 : Int32} {v : Int32} {τ τ' : am_T} (hF : am_F X "ShareHouse$House" cX3_levelOf 3) (hR : am_R X 1 23) (hB : am_B X (some .int) (some (.int v)) (am_D τ')) (h : Ho_levelOf τ a1 = some (v, τ')) : am_W X 3 (0, [(0, .ref 1), (1, .int a1)], [], am_D τ) := by
  unfold Ho_levelOf at h
  refine am_seg s_Ho_levelOf_0 (y := (4, [(0, .ref 1), (1, .int a1)], [.ref 4], am_D τ)) hF t_s_Ho_levelOf_0 rfl rfl ?_
  refine am_bd h (fun x1 hx h => ?_)
  refine am_callV (As := []) (r := (some (.int x1.1))) (st := []) (σ' := am_D x1.2) (ci := 2) hF hR d_X3_levelOf_4 (c_Fl_allAreas (τ' := x1.2) hx) (Nat.le_refl _) (Nat.le_refl _) wl_Ho_89 wi_yX2_allAreas we_yX2_allAreas wn_ShareHouse_Flats wc_yX2_allAreas (Nat.le_of_ble_eq_true rfl) (Nat.le_of_ble_eq_true rfl) rfl rfl wy_yX2_allAreas rfl ⟨by decide, by decide⟩ (Nat.le_of_ble_eq_true rfl) ?_
  refine am_seg s_Ho_levelOf_1 (y := (9, [(2, .int x1.1), (0, .ref 1), (1, .int a1)], [.int x1.1], am_D x1.2)) hF t_s_Ho_levelOf_1 rfl rfl ?_
  refine am_ite h (fun hc h => ?_) (fun hc h => ?_)
  · refine am_if_gt_t (t := 17) d_X3_levelOf_9 (by decide) hc hF ?_
    refine am_seg s_Ho_levelOf_2 (y := (26, [(2, .int x1.1), (0, .ref 1), (1, .int a1)], [.int (x1.2.1 1 0), .int a1, .ref 25], am_D x1.2)) hF t_s_Ho_levelOf_2 rfl rfl ?_
    refine am_bd h (fun x2 hx h => ?_)
    refine am_callV (As := [.int a1, .int (x1.2.1 1 0)]) (r := (some (.int x2.1))) (st := []) (σ' := am_D x2.2) (ci := 1) hF hR d_X3_levelOf_26 (c_Co_penceOn (τ' := x2.2) hx) (Nat.le_refl _) (Nat.le_refl _) wl_Ho_93 wi_yX1_penceOn we_yX1_penceOn wn_ShareHouse_Costs wc_yX1_penceOn (Nat.le_of_ble_eq_true rfl) (Nat.le_of_ble_eq_true rfl) rfl rfl wy_yX1_penceOn rfl ⟨by decide, by decide⟩ (Nat.le_of_ble_eq_true rfl) ?_
    refine am_seg s_Ho_levelOf_3 (y := (33, [(2, .int x1.1), (0, .ref 1), (1, .int a1)], [.int x1.1, .int (x2.1 * (nI 100))], am_D x2.2)) hF t_s_Ho_levelOf_3 rfl rfl ?_
    refine am_ite h (fun _ h => by cases h) (fun hc h => ?_)
    refine am_idiv d_X3_levelOf_33 hc hF ?_
    obtain ⟨rfl, rfl⟩ := am_pair h
    exact am_iret d_X3_levelOf_34 hF hB
  · refine am_if_gt_f (t := 17) d_X3_levelOf_9 (by decide) hc hF ?_
    refine am_seg s_Ho_levelOf_4 (y := (34, [(2, .int x1.1), (0, .ref 1), (1, .int a1)], [.int (-3 : Int32)], am_D x1.2)) hF t_s_Ho_levelOf_4 rfl rfl ?_
    obtain ⟨rfl, rfl⟩ := am_pair h
    exact am_iret d_X3_levelOf_34 hF hB
theorem c_Ho_levelOf {a1 : Int32} {v : Int32} {τ τ' : am_T} (h : Ho_levelOf τ a1 = some (v, τ')) : am_C yX3_levelOf cX3_levelOf 3 (some .int) 1 23 [.ref 1, .int a1] (am_D τ) (some (.int v)) (am_D τ') :=
  am_enter (by decide +kernel) (Nat.le_of_ble_eq_true rfl) ⟨Nat.le_refl _, Nat.le_refl _⟩ (fun X hF hR hB => ok_Ho_levelOf hF hR hB h)
def s_X_costOf_0 : List am_Q := [(0, .aload_n 0, 0, 0, 0, .null), (1, .getfield 10, 11, 0, 145, .null), (4, .getfield 157, 3, 4, 101, .null), (7, .astore_n 3, 0, 0, 0, .null), (8, .aload_n 3, 0, 0, 0, .null), (9, .iload_n 1, 0, 0, 0, .null)]
theorem t_s_X_costOf_0 : s_X_costOf_0.all (am_ok 11 cX11_costOf) = true := by decide +kernel
theorem d_X11_costOf_10 : decode cX11_costOf 10 = .ok (.invokevirtual 166, 3) := by decide +kernel
theorem d_X11_costOf_13 : decode cX11_costOf 13 = .ok (.ifCond .ne 5, 3) := by decide +kernel
def s_X_costOf_1 : List am_Q := [(18, .iload_n 2, 0, 0, 0, .null)]
theorem t_s_X_costOf_1 : s_X_costOf_1.all (am_ok 11 cX11_costOf) = true := by decide +kernel
theorem d_X11_costOf_19 : decode cX11_costOf 19 = .ok (.tableswitch 116 0 7 #[45, 52, 59, 72, 79, 86, 101, 107], 45) := by decide +kernel
def s_X_costOf_2 : List am_Q := [(135, .iconst (-1), 0, 0, 0, .int (-1 : Int32))]
theorem t_s_X_costOf_2 : s_X_costOf_2.all (am_ok 11 cX11_costOf) = true := by decide +kernel
theorem d_X11_costOf_136 : decode cX11_costOf 136 = .ok (.ireturn, 1) := by decide +kernel
def s_X_costOf_3 : List am_Q := [(64, .aload_n 3, 0, 0, 0, .null), (65, .getfield 173, 1, 0, 21, .null), (68, .iload_n 1, 0, 0, 0, .null)]
theorem t_s_X_costOf_3 : s_X_costOf_3.all (am_ok 11 cX11_costOf) = true := by decide +kernel
theorem d_X11_costOf_69 : decode cX11_costOf 69 = .ok (.iaload, 1) := by decide +kernel
theorem d_X11_costOf_70 : decode cX11_costOf 70 = .ok (.ireturn, 1) := by decide +kernel
def s_X_costOf_4 : List am_Q := [(71, .aload_n 3, 0, 0, 0, .null), (72, .getfield 176, 1, 1, 24, .null), (75, .iload_n 1, 0, 0, 0, .null)]
theorem t_s_X_costOf_4 : s_X_costOf_4.all (am_ok 11 cX11_costOf) = true := by decide +kernel
theorem d_X11_costOf_76 : decode cX11_costOf 76 = .ok (.iaload, 1) := by decide +kernel
theorem d_X11_costOf_77 : decode cX11_costOf 77 = .ok (.ireturn, 1) := by decide +kernel
def s_X_costOf_5 : List am_Q := [(78, .aload_n 3, 0, 0, 0, .null), (79, .iload_n 1, 0, 0, 0, .null), (80, .aload_n 0, 0, 0, 0, .null), (81, .getfield 10, 11, 0, 145, .null), (84, .getfield 61, 3, 0, 85, .null)]
theorem t_s_X_costOf_5 : s_X_costOf_5.all (am_ok 11 cX11_costOf) = true := by decide +kernel
theorem d_X11_costOf_87 : decode cX11_costOf 87 = .ok (.invokevirtual 167, 3) := by decide +kernel
theorem d_X11_costOf_90 : decode cX11_costOf 90 = .ok (.ireturn, 1) := by decide +kernel
def s_X_costOf_6 : List am_Q := [(91, .aload_n 3, 0, 0, 0, .null), (92, .getfield 179, 1, 2, 26, .null), (95, .iload_n 1, 0, 0, 0, .null)]
theorem t_s_X_costOf_6 : s_X_costOf_6.all (am_ok 11 cX11_costOf) = true := by decide +kernel
theorem d_X11_costOf_96 : decode cX11_costOf 96 = .ok (.iaload, 1) := by decide +kernel
theorem d_X11_costOf_97 : decode cX11_costOf 97 = .ok (.ireturn, 1) := by decide +kernel
def s_X_costOf_7 : List am_Q := [(98, .aload_n 3, 0, 0, 0, .null), (99, .getfield 182, 1, 3, 28, .null), (102, .iload_n 1, 0, 0, 0, .null)]
theorem t_s_X_costOf_7 : s_X_costOf_7.all (am_ok 11 cX11_costOf) = true := by decide +kernel
theorem d_X11_costOf_103 : decode cX11_costOf 103 = .ok (.iaload, 1) := by decide +kernel
theorem d_X11_costOf_104 : decode cX11_costOf 104 = .ok (.ireturn, 1) := by decide +kernel
def s_X_costOf_8 : List am_Q := [(105, .aload_n 3, 0, 0, 0, .null), (106, .getfield 185, 1, 4, 31, .null), (109, .iload_n 1, 0, 0, 0, .null)]
theorem t_s_X_costOf_8 : s_X_costOf_8.all (am_ok 11 cX11_costOf) = true := by decide +kernel
theorem d_X11_costOf_110 : decode cX11_costOf 110 = .ok (.baload, 1) := by decide +kernel
theorem d_X11_costOf_111 : decode cX11_costOf 111 = .ok (.ifCond .eq 7, 3) := by decide +kernel
def s_X_costOf_9 : List am_Q := [(118, .iconst 0, 0, 0, 0, .int (nI 0))]
theorem t_s_X_costOf_9 : s_X_costOf_9.all (am_ok 11 cX11_costOf) = true := by decide +kernel
theorem d_X11_costOf_119 : decode cX11_costOf 119 = .ok (.ireturn, 1) := by decide +kernel
def s_X_costOf_10 : List am_Q := [(114, .iconst 1, 0, 0, 0, .int (nI 1)), (115, .goto 4, 119, 0, 0, .null)]
theorem t_s_X_costOf_10 : s_X_costOf_10.all (am_ok 11 cX11_costOf) = true := by decide +kernel
def s_X_costOf_11 : List am_Q := [(120, .aload_n 3, 0, 0, 0, .null), (121, .iload_n 1, 0, 0, 0, .null)]
theorem t_s_X_costOf_11 : s_X_costOf_11.all (am_ok 11 cX11_costOf) = true := by decide +kernel
theorem d_X11_costOf_122 : decode cX11_costOf 122 = .ok (.invokevirtual 188, 3) := by decide +kernel
theorem d_X11_costOf_125 : decode cX11_costOf 125 = .ok (.ireturn, 1) := by decide +kernel
def s_X_costOf_12 : List am_Q := [(126, .aload_n 0, 0, 0, 0, .null), (127, .getfield 10, 11, 0, 145, .null), (130, .iload_n 1, 0, 0, 0, .null)]
theorem t_s_X_costOf_12 : s_X_costOf_12.all (am_ok 11 cX11_costOf) = true := by decide +kernel
theorem d_X11_costOf_131 : decode cX11_costOf 131 = .ok (.invokevirtual 191, 3) := by decide +kernel
theorem d_X11_costOf_134 : decode cX11_costOf 134 = .ok (.ireturn, 1) := by decide +kernel
def s_X_costOf_13 : List am_Q := [(16, .iconst (-1), 0, 0, 0, .int (-1 : Int32))]
theorem t_s_X_costOf_13 : s_X_costOf_13.all (am_ok 11 cX11_costOf) = true := by decide +kernel
theorem d_X11_costOf_17 : decode cX11_costOf 17 = .ok (.ireturn, 1) := by decide +kernel
def X_costOf (τ : am_T) (a1 : Int32) (a2 : Int32) : Option (Int32 × am_T) :=
  (Co_has τ a1).bind (fun x1 =>
  if x1.1 = 0 then
  (some ((-1 : Int32), x1.2))
else
  (if (a2 : Int32).toInt < 0 ∨ 7 < (a2 : Int32).toInt then
  (some ((-1 : Int32), x1.2))
else
  (if a2 = nI 0 then
  (am_g (am_in a1 20) (some ((x1.2.1 26 (a1.toNatClampNeg)), x1.2)))
else
  (if a2 = nI 1 then
  (am_g (am_in a1 20) (some ((x1.2.1 27 (a1.toNatClampNeg)), x1.2)))
else
  (if a2 = nI 2 then
  ((Co_penceOn x1.2 a1 (x1.2.1 1 0)).bind (fun x2 =>
  some (x2.1, x2.2)))
else
  (if a2 = nI 3 then
  (am_g (am_in a1 20) (some ((x1.2.1 28 (a1.toNatClampNeg)), x1.2)))
else
  (if a2 = nI 4 then
  (am_g (am_in a1 20) (some ((x1.2.1 29 (a1.toNatClampNeg)), x1.2)))
else
  (if a2 = nI 5 then
  (am_g (am_in a1 20) (if (x1.2.1 30 (a1.toNatClampNeg)) = 0 then
  (some ((nI 0), x1.2))
else
  (some ((nI 1), x1.2))))
else
  (if a2 = nI 6 then
  ((Co_timesRight x1.2 a1).bind (fun x3 =>
  some (x3.1, x3.2)))
else
  (if a2 = nI 7 then
  ((Ho_levelOf x1.2 a1).bind (fun x4 =>
  some (x4.1, x4.2)))
else
  (none)))))))))))
set_option maxRecDepth 20000 in
theorem ok_X_costOf {X : am_X} {a1 : Int32} {a2 : Int32} {v : Int32} {τ τ' : am_T} (hF : am_F X "ShareHouse" cX11_costOf 4) (hR : am_R X 2 45) (hB : am_B X (some .int) (some (.int v)) (am_D τ')) (h : X_costOf τ a1 a2 = some (v, τ')) : am_W X 4 (0, [(0, .ref 0), (1, .int a1), (2, .int a2)], [], am_D τ) := by
  unfold X_costOf at h
  refine am_seg s_X_costOf_0 (y := (10, [(3, .ref 25), (0, .ref 0), (1, .int a1), (2, .int a2)], [.int a1, .ref 25], am_D τ)) hF t_s_X_costOf_0 rfl rfl ?_
  refine am_bd h (fun x1 hx h => ?_)
  refine am_callV (As := [.int a1]) (r := (some (.int x1.1))) (st := []) (σ' := am_D x1.2) (ci := 1) hF hR d_X11_costOf_10 (c_Co_has (τ' := x1.2) hx) (Nat.le_refl _) (Nat.le_refl _) wl_X_166 wi_yX1_has we_yX1_has wn_ShareHouse_Costs wc_yX1_has (Nat.le_of_ble_eq_true rfl) (Nat.le_of_ble_eq_true rfl) rfl rfl wy_yX1_has rfl ⟨by decide, by decide⟩ (Nat.le_of_ble_eq_true rfl) ?_
  refine am_ite h (fun hc h => ?_) (fun hc h => ?_)
  · refine am_if_ne_f (t := 18) d_X11_costOf_13 (by decide) hc hF ?_
    refine am_seg s_X_costOf_13 (y := (17, [(3, .ref 25), (0, .ref 0), (1, .int a1), (2, .int a2)], [.int (-1 : Int32)], am_D x1.2)) hF t_s_X_costOf_13 rfl rfl ?_
    obtain ⟨rfl, rfl⟩ := am_pair h
    exact am_iret d_X11_costOf_17 hF hB
  · refine am_if_ne_t (t := 18) d_X11_costOf_13 (by decide) hc hF ?_
    refine am_seg s_X_costOf_1 (y := (19, [(3, .ref 25), (0, .ref 0), (1, .int a1), (2, .int a2)], [.int a2], am_D x1.2)) hF t_s_X_costOf_1 rfl rfl ?_
    refine am_ite h (fun hc h => ?_) (fun hc h => ?_)
    · refine am_tswOut (t := 135) d_X11_costOf_19 hc (by decide) hF ?_
      refine am_seg s_X_costOf_2 (y := (136, [(3, .ref 25), (0, .ref 0), (1, .int a1), (2, .int a2)], [.int (-1 : Int32)], am_D x1.2)) hF t_s_X_costOf_2 rfl rfl ?_
      obtain ⟨rfl, rfl⟩ := am_pair h
      exact am_iret d_X11_costOf_136 hF hB
    · refine am_ite h (fun hc h => ?_) (fun hc h => ?_)
      · refine am_tswIn (y := nI 0) (o := 45) (t := 64) d_X11_costOf_19 hc (by decide) (by decide) rfl (by decide) hF ?_
        refine am_seg s_X_costOf_3 (y := (69, [(3, .ref 25), (0, .ref 0), (1, .int a1), (2, .int a2)], [.int a1, .ref 26], am_D x1.2)) hF t_s_X_costOf_3 rfl rfl ?_
        refine am_gd h (fun hi h => ?_)
        refine am_iald (n := 20) (j := (a1.toNatClampNeg)) d_X11_costOf_69 (Nat.le_of_ble_eq_true rfl) (Nat.le_of_ble_eq_true rfl) rfl hi rfl hF ?_
        obtain ⟨rfl, rfl⟩ := am_pair h
        exact am_iret d_X11_costOf_70 hF hB
      · refine am_ite h (fun hc h => ?_) (fun hc h => ?_)
        · refine am_tswIn (y := nI 1) (o := 52) (t := 71) d_X11_costOf_19 hc (by decide) (by decide) rfl (by decide) hF ?_
          refine am_seg s_X_costOf_4 (y := (76, [(3, .ref 25), (0, .ref 0), (1, .int a1), (2, .int a2)], [.int a1, .ref 27], am_D x1.2)) hF t_s_X_costOf_4 rfl rfl ?_
          refine am_gd h (fun hi h => ?_)
          refine am_iald (n := 20) (j := (a1.toNatClampNeg)) d_X11_costOf_76 (Nat.le_of_ble_eq_true rfl) (Nat.le_of_ble_eq_true rfl) rfl hi rfl hF ?_
          obtain ⟨rfl, rfl⟩ := am_pair h
          exact am_iret d_X11_costOf_77 hF hB
        · refine am_ite h (fun hc h => ?_) (fun hc h => ?_)
          · refine am_tswIn (y := nI 2) (o := 59) (t := 78) d_X11_costOf_19 hc (by decide) (by decide) rfl (by decide) hF ?_
            refine am_seg s_X_costOf_5 (y := (87, [(3, .ref 25), (0, .ref 0), (1, .int a1), (2, .int a2)], [.int (x1.2.1 1 0), .int a1, .ref 25], am_D x1.2)) hF t_s_X_costOf_5 rfl rfl ?_
            refine am_bd h (fun x2 hx h => ?_)
            refine am_callV (As := [.int a1, .int (x1.2.1 1 0)]) (r := (some (.int x2.1))) (st := []) (σ' := am_D x2.2) (ci := 1) hF hR d_X11_costOf_87 (c_Co_penceOn (τ' := x2.2) hx) (Nat.le_refl _) (Nat.le_refl _) wl_X_167 wi_yX1_penceOn we_yX1_penceOn wn_ShareHouse_Costs wc_yX1_penceOn (Nat.le_of_ble_eq_true rfl) (Nat.le_of_ble_eq_true rfl) rfl rfl wy_yX1_penceOn rfl ⟨by decide, by decide⟩ (Nat.le_of_ble_eq_true rfl) ?_
            obtain ⟨rfl, rfl⟩ := am_pair h
            exact am_iret d_X11_costOf_90 hF hB
          · refine am_ite h (fun hc h => ?_) (fun hc h => ?_)
            · refine am_tswIn (y := nI 3) (o := 72) (t := 91) d_X11_costOf_19 hc (by decide) (by decide) rfl (by decide) hF ?_
              refine am_seg s_X_costOf_6 (y := (96, [(3, .ref 25), (0, .ref 0), (1, .int a1), (2, .int a2)], [.int a1, .ref 28], am_D x1.2)) hF t_s_X_costOf_6 rfl rfl ?_
              refine am_gd h (fun hi h => ?_)
              refine am_iald (n := 20) (j := (a1.toNatClampNeg)) d_X11_costOf_96 (Nat.le_of_ble_eq_true rfl) (Nat.le_of_ble_eq_true rfl) rfl hi rfl hF ?_
              obtain ⟨rfl, rfl⟩ := am_pair h
              exact am_iret d_X11_costOf_97 hF hB
            · refine am_ite h (fun hc h => ?_) (fun hc h => ?_)
              · refine am_tswIn (y := nI 4) (o := 79) (t := 98) d_X11_costOf_19 hc (by decide) (by decide) rfl (by decide) hF ?_
                refine am_seg s_X_costOf_7 (y := (103, [(3, .ref 25), (0, .ref 0), (1, .int a1), (2, .int a2)], [.int a1, .ref 29], am_D x1.2)) hF t_s_X_costOf_7 rfl rfl ?_
                refine am_gd h (fun hi h => ?_)
                refine am_iald (n := 20) (j := (a1.toNatClampNeg)) d_X11_costOf_103 (Nat.le_of_ble_eq_true rfl) (Nat.le_of_ble_eq_true rfl) rfl hi rfl hF ?_
                obtain ⟨rfl, rfl⟩ := am_pair h
                exact am_iret d_X11_costOf_104 hF hB
              · refine am_ite h (fun hc h => ?_) (fun hc h => ?_)
                · refine am_tswIn (y := nI 5) (o := 86) (t := 105) d_X11_costOf_19 hc (by decide) (by decide) rfl (by decide) hF ?_
                  refine am_seg s_X_costOf_8 (y := (110, [(3, .ref 25), (0, .ref 0), (1, .int a1), (2, .int a2)], [.int a1, .ref 30], am_D x1.2)) hF t_s_X_costOf_8 rfl rfl ?_
                  refine am_gd h (fun hi h => ?_)
                  refine am_zald (n := 20) (j := (a1.toNatClampNeg)) d_X11_costOf_110 (Nat.le_of_ble_eq_true rfl) (Nat.le_of_ble_eq_true rfl) rfl hi rfl hF ?_
                  refine am_ite h (fun hc h => ?_) (fun hc h => ?_)
                  · refine am_if_eq_t (t := 118) d_X11_costOf_111 (by decide) hc hF ?_
                    refine am_seg s_X_costOf_9 (y := (119, [(3, .ref 25), (0, .ref 0), (1, .int a1), (2, .int a2)], [.int (nI 0)], am_D x1.2)) hF t_s_X_costOf_9 rfl rfl ?_
                    obtain ⟨rfl, rfl⟩ := am_pair h
                    exact am_iret d_X11_costOf_119 hF hB
                  · refine am_if_eq_f (t := 118) d_X11_costOf_111 (by decide) hc hF ?_
                    refine am_seg s_X_costOf_10 (y := (119, [(3, .ref 25), (0, .ref 0), (1, .int a1), (2, .int a2)], [.int (nI 1)], am_D x1.2)) hF t_s_X_costOf_10 rfl rfl ?_
                    obtain ⟨rfl, rfl⟩ := am_pair h
                    exact am_iret d_X11_costOf_119 hF hB
                · refine am_ite h (fun hc h => ?_) (fun hc h => ?_)
                  · refine am_tswIn (y := nI 6) (o := 101) (t := 120) d_X11_costOf_19 hc (by decide) (by decide) rfl (by decide) hF ?_
                    refine am_seg s_X_costOf_11 (y := (122, [(3, .ref 25), (0, .ref 0), (1, .int a1), (2, .int a2)], [.int a1, .ref 25], am_D x1.2)) hF t_s_X_costOf_11 rfl rfl ?_
                    refine am_bd h (fun x3 hx h => ?_)
                    refine am_callV (As := [.int a1]) (r := (some (.int x3.1))) (st := []) (σ' := am_D x3.2) (ci := 1) hF hR d_X11_costOf_122 (c_Co_timesRight (τ' := x3.2) hx) (Nat.le_refl _) (Nat.le_refl _) wl_X_188 wi_yX1_timesRight we_yX1_timesRight wn_ShareHouse_Costs wc_yX1_timesRight (Nat.le_of_ble_eq_true rfl) (Nat.le_of_ble_eq_true rfl) rfl rfl wy_yX1_timesRight rfl ⟨by decide, by decide⟩ (Nat.le_of_ble_eq_true rfl) ?_
                    obtain ⟨rfl, rfl⟩ := am_pair h
                    exact am_iret d_X11_costOf_125 hF hB
                  · refine am_ite h (fun hc h => ?_) (fun hc h => ?_)
                    · refine am_tswIn (y := nI 7) (o := 107) (t := 126) d_X11_costOf_19 hc (by decide) (by decide) rfl (by decide) hF ?_
                      refine am_seg s_X_costOf_12 (y := (131, [(3, .ref 25), (0, .ref 0), (1, .int a1), (2, .int a2)], [.int a1, .ref 1], am_D x1.2)) hF t_s_X_costOf_12 rfl rfl ?_
                      refine am_bd h (fun x4 hx h => ?_)
                      refine am_callV (As := [.int a1]) (r := (some (.int x4.1))) (st := []) (σ' := am_D x4.2) (ci := 3) hF hR d_X11_costOf_131 (c_Ho_levelOf (τ' := x4.2) hx) (Nat.le_refl _) (Nat.le_refl _) wl_X_191 wi_yX3_levelOf we_yX3_levelOf wn_ShareHouse_House wc_yX3_levelOf (Nat.le_of_ble_eq_true rfl) (Nat.le_of_ble_eq_true rfl) rfl rfl wy_yX3_levelOf rfl ⟨by decide, by decide⟩ (Nat.le_of_ble_eq_true rfl) ?_
                      obtain ⟨rfl, rfl⟩ := am_pair h
                      exact am_iret d_X11_costOf_134 hF hB
                    · cases h
theorem c_X_costOf {a1 : Int32} {a2 : Int32} {v : Int32} {τ τ' : am_T} (h : X_costOf τ a1 a2 = some (v, τ')) : am_C yX11_costOf cX11_costOf 4 (some .int) 2 45 [.ref 0, .int a1, .int a2] (am_D τ) (some (.int v)) (am_D τ') :=
  am_enter (by decide +kernel) (Nat.le_of_ble_eq_true rfl) ⟨Nat.le_refl _, Nat.le_refl _⟩ (fun X hF hR hB => ok_X_costOf hF hR hB h)
def s_Co_isKnown_0 : List am_Q := [(0, .aload_n 0, 0, 0, 0, .null), (1, .getfield 21, 1, 3, 27, .null), (4, .iload_n 1, 0, 0, 0, .null)]
theorem t_s_Co_isKnown_0 : s_Co_isKnown_0.all (am_ok 1 cX1_isKnown) = true := by decide +kernel
theorem d_X1_isKnown_5 : decode cX1_isKnown 5 = .ok (.iaload, 1) := by decide +kernel
def s_Co_isKnown_1 : List am_Q := [(6, .iload_n 2, 0, 0, 0, .null)]
theorem t_s_Co_isKnown_1 : s_Co_isKnown_1.all (am_ok 1 cX1_isKnown) = true := by decide +kernel
theorem d_X1_isKnown_7 : decode cX1_isKnown 7 = .ok (.if_icmp .gt 7, 3) := by decide +kernel
def s_Co_isKnown_2 : List am_Q := [(14, .iconst 0, 0, 0, 0, .int (nI 0))]
theorem t_s_Co_isKnown_2 : s_Co_isKnown_2.all (am_ok 1 cX1_isKnown) = true := by decide +kernel
theorem d_X1_isKnown_15 : decode cX1_isKnown 15 = .ok (.ireturn, 1) := by decide +kernel
def s_Co_isKnown_3 : List am_Q := [(10, .iconst 1, 0, 0, 0, .int (nI 1)), (11, .goto 4, 15, 0, 0, .null)]
theorem t_s_Co_isKnown_3 : s_Co_isKnown_3.all (am_ok 1 cX1_isKnown) = true := by decide +kernel
def Co_isKnown (τ : am_T) (a1 : Int32) (a2 : Int32) : Option (Int32 × am_T) :=
  am_g (am_in a1 20) (if a2 < (τ.1 29 (a1.toNatClampNeg)) then
  (some ((nI 0), τ))
else
  (some ((nI 1), τ)))
set_option maxRecDepth 20000 in
theorem ok_Co_isKnown {X : am_X} {a1 : Int32} {a2 : Int32} {v : Int32} {τ τ' : am_T} (hF : am_F X "ShareHouse$Costs" cX1_isKnown 3) (hR : am_R X 0 0) (hB : am_B X (some .boolean) (some (.int v)) (am_D τ')) (h : Co_isKnown τ a1 a2 = some (v, τ')) : am_W X 3 (0, [(0, .ref 25), (1, .int a1), (2, .int a2)], [], am_D τ) := by
  unfold Co_isKnown at h
  refine am_seg s_Co_isKnown_0 (y := (5, [(0, .ref 25), (1, .int a1), (2, .int a2)], [.int a1, .ref 29], am_D τ)) hF t_s_Co_isKnown_0 rfl rfl ?_
  refine am_gd h (fun hi h => ?_)
  refine am_iald (n := 20) (j := (a1.toNatClampNeg)) d_X1_isKnown_5 (Nat.le_of_ble_eq_true rfl) (Nat.le_of_ble_eq_true rfl) rfl hi rfl hF ?_
  refine am_seg s_Co_isKnown_1 (y := (7, [(0, .ref 25), (1, .int a1), (2, .int a2)], [.int a2, .int (τ.1 29 (a1.toNatClampNeg))], am_D τ)) hF t_s_Co_isKnown_1 rfl rfl ?_
  refine am_ite h (fun hc h => ?_) (fun hc h => ?_)
  · refine am_icmp_gt_t (t := 14) d_X1_isKnown_7 (by decide) hc hF ?_
    refine am_seg s_Co_isKnown_2 (y := (15, [(0, .ref 25), (1, .int a1), (2, .int a2)], [.int (nI 0)], am_D τ)) hF t_s_Co_isKnown_2 rfl rfl ?_
    obtain ⟨rfl, rfl⟩ := am_pair h
    exact am_zret d_X1_isKnown_15 rfl hF hB
  · refine am_icmp_gt_f (t := 14) d_X1_isKnown_7 (by decide) hc hF ?_
    refine am_seg s_Co_isKnown_3 (y := (15, [(0, .ref 25), (1, .int a1), (2, .int a2)], [.int (nI 1)], am_D τ)) hF t_s_Co_isKnown_3 rfl rfl ?_
    obtain ⟨rfl, rfl⟩ := am_pair h
    exact am_zret d_X1_isKnown_15 rfl hF hB
theorem c_Co_isKnown {a1 : Int32} {a2 : Int32} {v : Int32} {τ τ' : am_T} (h : Co_isKnown τ a1 a2 = some (v, τ')) : am_C yX1_isKnown cX1_isKnown 3 (some .boolean) 0 0 [.ref 25, .int a1, .int a2] (am_D τ) (some (.int v)) (am_D τ') :=
  am_enter (by decide +kernel) (Nat.le_of_ble_eq_true rfl) ⟨Nat.le_refl _, Nat.le_refl _⟩ (fun X hF hR hB => ok_Co_isKnown hF hR hB h)
def s_Pa_allParts_0 : List am_Q := [(0, .iconst 0, 0, 0, 0, .int (nI 0)), (1, .istore_n 2, 0, 0, 0, .null), (2, .iconst 0, 0, 0, 0, .int (nI 0)), (3, .istore_n 3, 0, 0, 0, .null)]
theorem t_s_Pa_allParts_0 : s_Pa_allParts_0.all (am_ok 6 cX6_allParts) = true := by decide +kernel
def s_Pa_allParts_1 : List am_Q := [(4, .iload_n 3, 0, 0, 0, .null), (5, .iload_n 1, 0, 0, 0, .null)]
theorem t_s_Pa_allParts_1 : s_Pa_allParts_1.all (am_ok 6 cX6_allParts) = true := by decide +kernel
theorem d_X6_allParts_6 : decode cX6_allParts 6 = .ok (.if_icmp .ge 18, 3) := by decide +kernel
def s_Pa_allParts_2 : List am_Q := [(24, .iload_n 2, 0, 0, 0, .null)]
theorem t_s_Pa_allParts_2 : s_Pa_allParts_2.all (am_ok 6 cX6_allParts) = true := by decide +kernel
theorem d_X6_allParts_25 : decode cX6_allParts 25 = .ok (.ireturn, 1) := by decide +kernel
def s_Pa_allParts_3 : List am_Q := [(9, .iload_n 2, 0, 0, 0, .null), (10, .aload_n 0, 0, 0, 0, .null), (11, .getfield 24, 6, 4, 134, .null), (14, .iload_n 3, 0, 0, 0, .null)]
theorem t_s_Pa_allParts_3 : s_Pa_allParts_3.all (am_ok 6 cX6_allParts) = true := by decide +kernel
theorem d_X6_allParts_15 : decode cX6_allParts 15 = .ok (.iaload, 1) := by decide +kernel
def s_Pa_allParts_4 : List am_Q := [(16, .iadd, 0, 0, 0, .null), (17, .istore_n 2, 0, 0, 0, .null), (18, .iinc 3 1, 0, 0, 0, .int (nI 1)), (21, .goto (-17), 4, 0, 0, .null)]
theorem t_s_Pa_allParts_4 : s_Pa_allParts_4.all (am_ok 6 cX6_allParts) = true := by decide +kernel
def Pa_allParts_4 : Nat → am_T → Int32 → Int32 → Int32 → Option (Int32 × am_T)
  | 0, _, _, _, _ => none
  | n + 1, τ, a1, a2, a3 =>
    if a1 ≤ a3 then
  (some (a2, τ))
else
  (am_g (am_in a3 8) ((Pa_allParts_4 n) τ a1 (a2 + (τ.1 126 (a3.toNatClampNeg))) (a3 + (nI 1))))
set_option maxRecDepth 20000 in
theorem ok_Pa_allParts_4 {X : am_X} {v : Int32} {τ' : am_T} (hF : am_F X "ShareHouse$Parting" cX6_allParts 4) (hR : am_R X 0 0) (hB : am_B X (some .int) (some (.int v)) (am_D τ')) : ∀ (n : Nat) (τ : am_T) (a1 : Int32) (a2 : Int32) (a3 : Int32), Pa_allParts_4 n τ a1 a2 a3 = some (v, τ') → am_W X 4 (4, [(0, .ref 121), (1, .int a1), (2, .int a2), (3, .int a3)], [], am_D τ) := by
  intro n
  induction n with
  | zero => intro τ a1 a2 a3 h; unfold Pa_allParts_4 at h; cases h
  | succ n ih =>
    intro τ a1 a2 a3 h
    unfold Pa_allParts_4 at h
    refine am_seg s_Pa_allParts_1 (y := (6, [(0, .ref 121), (1, .int a1), (2, .int a2), (3, .int a3)], [.int a1, .int a3], am_D τ)) hF t_s_Pa_allParts_1 rfl rfl ?_
    refine am_ite h (fun hc h => ?_) (fun hc h => ?_)
    · refine am_icmp_ge_t (t := 24) d_X6_allParts_6 (by decide) hc hF ?_
      refine am_seg s_Pa_allParts_2 (y := (25, [(0, .ref 121), (1, .int a1), (2, .int a2), (3, .int a3)], [.int a2], am_D τ)) hF t_s_Pa_allParts_2 rfl rfl ?_
      obtain ⟨rfl, rfl⟩ := am_pair h
      exact am_iret d_X6_allParts_25 hF hB
    · refine am_icmp_ge_f (t := 24) d_X6_allParts_6 (by decide) hc hF ?_
      refine am_seg s_Pa_allParts_3 (y := (15, [(0, .ref 121), (1, .int a1), (2, .int a2), (3, .int a3)], [.int a3, .ref 126, .int a2], am_D τ)) hF t_s_Pa_allParts_3 rfl rfl ?_
      refine am_gd h (fun hi h => ?_)
      refine am_iald (n := 8) (j := (a3.toNatClampNeg)) d_X6_allParts_15 (Nat.le_of_ble_eq_true rfl) (Nat.le_of_ble_eq_true rfl) rfl hi rfl hF ?_
      refine am_seg s_Pa_allParts_4 (y := (4, [(3, .int (a3 + (nI 1))), (2, .int (a2 + (τ.1 126 (a3.toNatClampNeg)))), (0, .ref 121), (1, .int a1)], [], am_D τ)) hF t_s_Pa_allParts_4 rfl rfl ?_
      refine am_pick [2, 3, 1, 0] rfl ?_
      exact ih _ _ _ _ h
def Pa_allParts (τ : am_T) (a1 : Int32) : Option (Int32 × am_T) :=
  Pa_allParts_4 5000 τ a1 (nI 0) (nI 0)
set_option maxRecDepth 20000 in
theorem ok_Pa_allParts {X : am_X} {a1 : Int32} {v : Int32} {τ τ' : am_T} (hF : am_F X "ShareHouse$Parting" cX6_allParts 4) (hR : am_R X 0 0) (hB : am_B X (some .int) (some (.int v)) (am_D τ')) (h : Pa_allParts τ a1 = some (v, τ')) : am_W X 4 (0, [(0, .ref 121), (1, .int a1)], [], am_D τ) := by
  unfold Pa_allParts at h
  refine am_seg s_Pa_allParts_0 (y := (4, [(3, .int (nI 0)), (2, .int (nI 0)), (0, .ref 121), (1, .int a1)], [], am_D τ)) hF t_s_Pa_allParts_0 rfl rfl ?_
  refine am_pick [2, 3, 1, 0] rfl ?_
  exact ok_Pa_allParts_4 hF hR hB _ _ _ _ _ h
theorem c_Pa_allParts {a1 : Int32} {v : Int32} {τ τ' : am_T} (h : Pa_allParts τ a1 = some (v, τ')) : am_C yX6_allParts cX6_allParts 4 (some .int) 0 0 [.ref 121, .int a1] (am_D τ) (some (.int v)) (am_D τ') :=
  am_enter (by decide +kernel) (Nat.le_of_ble_eq_true rfl) ⟨Nat.le_refl _, Nat.le_refl _⟩ (fun X hF hR hB => ok_Pa_allParts hF hR hB h)

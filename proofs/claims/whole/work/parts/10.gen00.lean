def s_X_within_0 : List am_Q := [(0, .iload_n 0, 0, 0, 0, .null), (1, .iload_n 1, 0, 0, 0, .null)]
theorem t_s_X_within_0 : s_X_within_0.all (am_ok 11 cX11_within) = true := by decide +kernel
theorem d_X11_within_2 : decode cX11_within 2 = .ok (.if_icmp .lt 12, 3) := by decide +kernel
def s_X_within_1 : List am_Q := [(14, .iconst 0, 0, 0, 0, .int (nI 0))]
theorem t_s_X_within_1 : s_X_within_1.all (am_ok 11 cX11_within) = true := by decide +kernel
theorem d_X11_within_15 : decode cX11_within 15 = .ok (.ireturn, 1) := by decide +kernel
def s_X_within_2 : List am_Q := [(5, .iload_n 0, 0, 0, 0, .null), (6, .iload_n 2, 0, 0, 0, .null)]
theorem t_s_X_within_2 : s_X_within_2.all (am_ok 11 cX11_within) = true := by decide +kernel
theorem d_X11_within_7 : decode cX11_within 7 = .ok (.if_icmp .gt 7, 3) := by decide +kernel
def s_X_within_3 : List am_Q := [(14, .iconst 0, 0, 0, 0, .int (nI 0))]
theorem t_s_X_within_3 : s_X_within_3.all (am_ok 11 cX11_within) = true := by decide +kernel
def s_X_within_4 : List am_Q := [(10, .iconst 1, 0, 0, 0, .int (nI 1)), (11, .goto 4, 15, 0, 0, .null)]
theorem t_s_X_within_4 : s_X_within_4.all (am_ok 11 cX11_within) = true := by decide +kernel
def X_within (τ : am_T) (a0 : Int32) (a1 : Int32) (a2 : Int32) : Option (Int32 × am_T) :=
  if a0 < a1 then
  (some ((nI 0), τ))
else
  (if a2 < a0 then
  (some ((nI 0), τ))
else
  (some ((nI 1), τ)))
set_option maxRecDepth 20000 in
theorem ok_X_within {X : am_X} {a0 : Int32} {a1 : Int32} {a2 : Int32} {v : Int32} {τ τ' : am_T} (hF : am_F X "ShareHouse" cX11_within 3) (hR : am_R X 0 0) (hB : am_B X (some .boolean) (some (.int v)) (am_D τ')) (h : X_within τ a0 a1 a2 = some (v, τ')) : am_W X 3 (0, [(0, .int a0), (1, .int a1), (2, .int a2)], [], am_D τ) := by
  unfold X_within at h
  refine am_seg s_X_within_0 (y := (2, [(0, .int a0), (1, .int a1), (2, .int a2)], [.int a1, .int a0], am_D τ)) hF t_s_X_within_0 rfl rfl ?_
  refine am_ite h (fun hc h => ?_) (fun hc h => ?_)
  · refine am_icmp_lt_t (t := 14) d_X11_within_2 (by decide) hc hF ?_
    refine am_seg s_X_within_1 (y := (15, [(0, .int a0), (1, .int a1), (2, .int a2)], [.int (nI 0)], am_D τ)) hF t_s_X_within_1 rfl rfl ?_
    obtain ⟨rfl, rfl⟩ := am_pair h
    exact am_zret d_X11_within_15 rfl hF hB
  · refine am_icmp_lt_f (t := 14) d_X11_within_2 (by decide) hc hF ?_
    refine am_seg s_X_within_2 (y := (7, [(0, .int a0), (1, .int a1), (2, .int a2)], [.int a2, .int a0], am_D τ)) hF t_s_X_within_2 rfl rfl ?_
    refine am_ite h (fun hc h => ?_) (fun hc h => ?_)
    · refine am_icmp_gt_t (t := 14) d_X11_within_7 (by decide) hc hF ?_
      refine am_seg s_X_within_3 (y := (15, [(0, .int a0), (1, .int a1), (2, .int a2)], [.int (nI 0)], am_D τ)) hF t_s_X_within_3 rfl rfl ?_
      obtain ⟨rfl, rfl⟩ := am_pair h
      exact am_zret d_X11_within_15 rfl hF hB
    · refine am_icmp_gt_f (t := 14) d_X11_within_7 (by decide) hc hF ?_
      refine am_seg s_X_within_4 (y := (15, [(0, .int a0), (1, .int a1), (2, .int a2)], [.int (nI 1)], am_D τ)) hF t_s_X_within_4 rfl rfl ?_
      obtain ⟨rfl, rfl⟩ := am_pair h
      exact am_zret d_X11_within_15 rfl hF hB
theorem c_X_within {a0 : Int32} {a1 : Int32} {a2 : Int32} {v : Int32} {τ τ' : am_T} (h : X_within τ a0 a1 a2 = some (v, τ')) : am_C yX11_within cX11_within 3 (some .boolean) 0 0 [.int a0, .int a1, .int a2] (am_D τ) (some (.int v)) (am_D τ') :=
  am_enter (by decide +kernel) (Nat.le_of_ble_eq_true rfl) ⟨Nat.le_refl _, Nat.le_refl _⟩ (fun X hF hR hB => ok_X_within hF hR hB h)
def s_Fl_add_0 : List am_Q := [(0, .aload_n 0, 0, 0, 0, .null), (1, .getfield 40, 2, 4, 16, .null), (4, .bipush 8, 0, 0, 0, .int (nI 8))]
theorem t_s_Fl_add_0 : s_Fl_add_0.all (am_ok 2 cX2_add) = true := by decide +kernel
theorem d_X2_add_6 : decode cX2_add 6 = .ok (.if_icmp .lt 6, 3) := by decide +kernel
def s_Fl_add_1 : List am_Q := [(12, .aload_n 0, 0, 0, 0, .null), (13, .getfield 9, 2, 0, 4, .null), (16, .aload_n 0, 0, 0, 0, .null), (17, .getfield 40, 2, 4, 16, .null), (20, .iload_n 1, 0, 0, 0, .null)]
theorem t_s_Fl_add_1 : s_Fl_add_1.all (am_ok 2 cX2_add) = true := by decide +kernel
theorem d_X2_add_21 : decode cX2_add 21 = .ok (.iastore, 1) := by decide +kernel
def s_Fl_add_2 : List am_Q := [(22, .aload_n 0, 0, 0, 0, .null), (23, .getfield 15, 2, 1, 7, .null), (26, .aload_n 0, 0, 0, 0, .null), (27, .getfield 40, 2, 4, 16, .null), (30, .iload_n 2, 0, 0, 0, .null)]
theorem t_s_Fl_add_2 : s_Fl_add_2.all (am_ok 2 cX2_add) = true := by decide +kernel
theorem d_X2_add_31 : decode cX2_add 31 = .ok (.iastore, 1) := by decide +kernel
def s_Fl_add_3 : List am_Q := [(32, .aload_n 0, 0, 0, 0, .null), (33, .getfield 18, 2, 2, 10, .null), (36, .aload_n 0, 0, 0, 0, .null), (37, .getfield 40, 2, 4, 16, .null), (40, .iload_n 3, 0, 0, 0, .null)]
theorem t_s_Fl_add_3 : s_Fl_add_3.all (am_ok 2 cX2_add) = true := by decide +kernel
theorem d_X2_add_41 : decode cX2_add 41 = .ok (.bastore, 1) := by decide +kernel
def s_Fl_add_4 : List am_Q := [(42, .aload_n 0, 0, 0, 0, .null), (43, .dup, 0, 0, 0, .null), (44, .getfield 40, 2, 4, 16, .null), (47, .iconst 1, 0, 0, 0, .int (nI 1)), (48, .iadd, 0, 0, 0, .null), (49, .putfield 40, 2, 4, 16, .null), (52, .aload_n 0, 0, 0, 0, .null), (53, .getfield 40, 2, 4, 16, .null), (56, .iconst 1, 0, 0, 0, .int (nI 1)), (57, .isub, 0, 0, 0, .null)]
theorem t_s_Fl_add_4 : s_Fl_add_4.all (am_ok 2 cX2_add) = true := by decide +kernel
theorem d_X2_add_58 : decode cX2_add 58 = .ok (.ireturn, 1) := by decide +kernel
def s_Fl_add_5 : List am_Q := [(9, .bipush (-2), 0, 0, 0, .int (-2 : Int32))]
theorem t_s_Fl_add_5 : s_Fl_add_5.all (am_ok 2 cX2_add) = true := by decide +kernel
theorem d_X2_add_11 : decode cX2_add 11 = .ok (.ireturn, 1) := by decide +kernel
def Fl_add (τ : am_T) (a1 : Int32) (a2 : Int32) (a3 : Int32) : Option (Int32 × am_T) :=
  if (τ.1 4 4) < (nI 8) then
  (am_g (am_in (τ.1 4 4) 8) (am_g (am_in ((am_si τ 5 ((τ.1 4 4).toNatClampNeg) a1).1 4 4) 8) (am_g (am_in ((am_si (am_si τ 5 ((τ.1 4 4).toNatClampNeg) a1) 6 (((am_si τ 5 ((τ.1 4 4).toNatClampNeg) a1).1 4 4).toNatClampNeg) a2).1 4 4) 8) (am_g (am_z01 a3) (some ((((am_si (am_si (am_si (am_si τ 5 ((τ.1 4 4).toNatClampNeg) a1) 6 (((am_si τ 5 ((τ.1 4 4).toNatClampNeg) a1).1 4 4).toNatClampNeg) a2) 7 (((am_si (am_si τ 5 ((τ.1 4 4).toNatClampNeg) a1) 6 (((am_si τ 5 ((τ.1 4 4).toNatClampNeg) a1).1 4 4).toNatClampNeg) a2).1 4 4).toNatClampNeg) a3) 4 4 (((am_si (am_si (am_si τ 5 ((τ.1 4 4).toNatClampNeg) a1) 6 (((am_si τ 5 ((τ.1 4 4).toNatClampNeg) a1).1 4 4).toNatClampNeg) a2) 7 (((am_si (am_si τ 5 ((τ.1 4 4).toNatClampNeg) a1) 6 (((am_si τ 5 ((τ.1 4 4).toNatClampNeg) a1).1 4 4).toNatClampNeg) a2).1 4 4).toNatClampNeg) a3).1 4 4) + (nI 1))).1 4 4) - (nI 1)), (am_si (am_si (am_si (am_si τ 5 ((τ.1 4 4).toNatClampNeg) a1) 6 (((am_si τ 5 ((τ.1 4 4).toNatClampNeg) a1).1 4 4).toNatClampNeg) a2) 7 (((am_si (am_si τ 5 ((τ.1 4 4).toNatClampNeg) a1) 6 (((am_si τ 5 ((τ.1 4 4).toNatClampNeg) a1).1 4 4).toNatClampNeg) a2).1 4 4).toNatClampNeg) a3) 4 4 (((am_si (am_si (am_si τ 5 ((τ.1 4 4).toNatClampNeg) a1) 6 (((am_si τ 5 ((τ.1 4 4).toNatClampNeg) a1).1 4 4).toNatClampNeg) a2) 7 (((am_si (am_si τ 5 ((τ.1 4 4).toNatClampNeg) a1) 6 (((am_si τ 5 ((τ.1 4 4).toNatClampNeg) a1).1 4 4).toNatClampNeg) a2).1 4 4).toNatClampNeg) a3).1 4 4) + (nI 1)))))))))
else
  (some ((-2 : Int32), τ))
set_option maxRecDepth 20000 in
theorem ok_Fl_add {X : am_X} {a1 : Int32} {a2 : Int32} {a3 : Int32} {v : Int32} {τ τ' : am_T} (hF : am_F X "ShareHouse$Flats" cX2_add 4) (hR : am_R X 0 0) (hB : am_B X (some .int) (some (.int v)) (am_D τ')) (h : Fl_add τ a1 a2 a3 = some (v, τ')) : am_W X 4 (0, [(0, .ref 4), (1, .int a1), (2, .int a2), (3, .int a3)], [], am_D τ) := by
  unfold Fl_add at h
  refine am_seg s_Fl_add_0 (y := (6, [(0, .ref 4), (1, .int a1), (2, .int a2), (3, .int a3)], [.int (nI 8), .int (τ.1 4 4)], am_D τ)) hF t_s_Fl_add_0 rfl rfl ?_
  refine am_ite h (fun hc h => ?_) (fun hc h => ?_)
  · refine am_icmp_lt_t (t := 12) d_X2_add_6 (by decide) hc hF ?_
    refine am_seg s_Fl_add_1 (y := (21, [(0, .ref 4), (1, .int a1), (2, .int a2), (3, .int a3)], [.int a1, .int (τ.1 4 4), .ref 5], am_D τ)) hF t_s_Fl_add_1 rfl rfl ?_
    refine am_gd h (fun hi h => ?_)
    refine am_iast (n := 8) (j := ((τ.1 4 4).toNatClampNeg)) d_X2_add_21 (Nat.le_of_ble_eq_true rfl) (Nat.le_of_ble_eq_true rfl) rfl hi rfl hF ?_
    refine am_seg s_Fl_add_2 (y := (31, [(0, .ref 4), (1, .int a1), (2, .int a2), (3, .int a3)], [.int a2, .int ((am_si τ 5 ((τ.1 4 4).toNatClampNeg) a1).1 4 4), .ref 6], am_D (am_si τ 5 ((τ.1 4 4).toNatClampNeg) a1))) hF t_s_Fl_add_2 rfl rfl ?_
    refine am_gd h (fun hi h => ?_)
    refine am_iast (n := 8) (j := (((am_si τ 5 ((τ.1 4 4).toNatClampNeg) a1).1 4 4).toNatClampNeg)) d_X2_add_31 (Nat.le_of_ble_eq_true rfl) (Nat.le_of_ble_eq_true rfl) rfl hi rfl hF ?_
    refine am_seg s_Fl_add_3 (y := (41, [(0, .ref 4), (1, .int a1), (2, .int a2), (3, .int a3)], [.int a3, .int ((am_si (am_si τ 5 ((τ.1 4 4).toNatClampNeg) a1) 6 (((am_si τ 5 ((τ.1 4 4).toNatClampNeg) a1).1 4 4).toNatClampNeg) a2).1 4 4), .ref 7], am_D (am_si (am_si τ 5 ((τ.1 4 4).toNatClampNeg) a1) 6 (((am_si τ 5 ((τ.1 4 4).toNatClampNeg) a1).1 4 4).toNatClampNeg) a2))) hF t_s_Fl_add_3 rfl rfl ?_
    refine am_gd h (fun hi h => ?_)
    refine am_gd h (fun hz h => ?_)
    refine am_zast (n := 8) (j := (((am_si (am_si τ 5 ((τ.1 4 4).toNatClampNeg) a1) 6 (((am_si τ 5 ((τ.1 4 4).toNatClampNeg) a1).1 4 4).toNatClampNeg) a2).1 4 4).toNatClampNeg)) d_X2_add_41 (Nat.le_of_ble_eq_true rfl) (Nat.le_of_ble_eq_true rfl) rfl hi rfl (am_z01_of hz) hF ?_
    refine am_seg s_Fl_add_4 (y := (58, [(0, .ref 4), (1, .int a1), (2, .int a2), (3, .int a3)], [.int (((am_si (am_si (am_si (am_si τ 5 ((τ.1 4 4).toNatClampNeg) a1) 6 (((am_si τ 5 ((τ.1 4 4).toNatClampNeg) a1).1 4 4).toNatClampNeg) a2) 7 (((am_si (am_si τ 5 ((τ.1 4 4).toNatClampNeg) a1) 6 (((am_si τ 5 ((τ.1 4 4).toNatClampNeg) a1).1 4 4).toNatClampNeg) a2).1 4 4).toNatClampNeg) a3) 4 4 (((am_si (am_si (am_si τ 5 ((τ.1 4 4).toNatClampNeg) a1) 6 (((am_si τ 5 ((τ.1 4 4).toNatClampNeg) a1).1 4 4).toNatClampNeg) a2) 7 (((am_si (am_si τ 5 ((τ.1 4 4).toNatClampNeg) a1) 6 (((am_si τ 5 ((τ.1 4 4).toNatClampNeg) a1).1 4 4).toNatClampNeg) a2).1 4 4).toNatClampNeg) a3).1 4 4) + (nI 1))).1 4 4) - (nI 1))], am_D (am_si (am_si (am_si (am_si τ 5 ((τ.1 4 4).toNatClampNeg) a1) 6 (((am_si τ 5 ((τ.1 4 4).toNatClampNeg) a1).1 4 4).toNatClampNeg) a2) 7 (((am_si (am_si τ 5 ((τ.1 4 4).toNatClampNeg) a1) 6 (((am_si τ 5 ((τ.1 4 4).toNatClampNeg) a1).1 4 4).toNatClampNeg) a2).1 4 4).toNatClampNeg) a3) 4 4 (((am_si (am_si (am_si τ 5 ((τ.1 4 4).toNatClampNeg) a1) 6 (((am_si τ 5 ((τ.1 4 4).toNatClampNeg) a1).1 4 4).toNatClampNeg) a2) 7 (((am_si (am_si τ 5 ((τ.1 4 4).toNatClampNeg) a1) 6 (((am_si τ 5 ((τ.1 4 4).toNatClampNeg) a1).1 4 4).toNatClampNeg) a2).1 4 4).toNatClampNeg) a3).1 4 4) + (nI 1))))) hF t_s_Fl_add_4 rfl rfl ?_
    obtain ⟨rfl, rfl⟩ := am_pair h
    exact am_iret d_X2_add_58 hF hB
  · refine am_icmp_lt_f (t := 12) d_X2_add_6 (by decide) hc hF ?_
    refine am_seg s_Fl_add_5 (y := (11, [(0, .ref 4), (1, .int a1), (2, .int a2), (3, .int a3)], [.int (-2 : Int32)], am_D τ)) hF t_s_Fl_add_5 rfl rfl ?_
    obtain ⟨rfl, rfl⟩ := am_pair h
    exact am_iret d_X2_add_11 hF hB
theorem c_Fl_add {a1 : Int32} {a2 : Int32} {a3 : Int32} {v : Int32} {τ τ' : am_T} (h : Fl_add τ a1 a2 a3 = some (v, τ')) : am_C yX2_add cX2_add 4 (some .int) 0 0 [.ref 4, .int a1, .int a2, .int a3] (am_D τ) (some (.int v)) (am_D τ') :=
  am_enter (by decide +kernel) (Nat.le_of_ble_eq_true rfl) ⟨Nat.le_refl _, Nat.le_refl _⟩ (fun X hF hR hB => ok_Fl_add hF hR hB h)
def s_X_flat_0 : List am_Q := [(0, .iload_n 1, 0, 0, 0, .null), (1, .iconst 0, 0, 0, 0, .int (nI 0)), (2, .bipush 9, 0, 0, 0, .int (nI 9))]
theorem t_s_X_flat_0 : s_X_flat_0.all (am_ok 11 cX11_flat) = true := by decide +kernel
theorem d_X11_flat_4 : decode cX11_flat 4 = .ok (.invokestatic 47, 3) := by decide +kernel
theorem d_X11_flat_7 : decode cX11_flat 7 = .ok (.ifCond .eq 14, 3) := by decide +kernel
def s_X_flat_1 : List am_Q := [(21, .iconst (-1), 0, 0, 0, .int (-1 : Int32))]
theorem t_s_X_flat_1 : s_X_flat_1.all (am_ok 11 cX11_flat) = true := by decide +kernel
theorem d_X11_flat_22 : decode cX11_flat 22 = .ok (.ireturn, 1) := by decide +kernel
def s_X_flat_2 : List am_Q := [(10, .iload_n 2, 0, 0, 0, .null), (11, .iconst 1, 0, 0, 0, .int (nI 1)), (12, .sipush 300, 0, 0, 0, .int (nI 300))]
theorem t_s_X_flat_2 : s_X_flat_2.all (am_ok 11 cX11_flat) = true := by decide +kernel
theorem d_X11_flat_15 : decode cX11_flat 15 = .ok (.invokestatic 47, 3) := by decide +kernel
theorem d_X11_flat_18 : decode cX11_flat 18 = .ok (.ifCond .ne 5, 3) := by decide +kernel
def s_X_flat_3 : List am_Q := [(23, .aload_n 0, 0, 0, 0, .null), (24, .getfield 10, 11, 0, 145, .null), (27, .getfield 51, 3, 3, 95, .null), (30, .iload_n 1, 0, 0, 0, .null), (31, .iload_n 2, 0, 0, 0, .null), (32, .iload_n 3, 0, 0, 0, .null)]
theorem t_s_X_flat_3 : s_X_flat_3.all (am_ok 11 cX11_flat) = true := by decide +kernel
theorem d_X11_flat_33 : decode cX11_flat 33 = .ok (.invokevirtual 55, 3) := by decide +kernel
theorem d_X11_flat_36 : decode cX11_flat 36 = .ok (.ireturn, 1) := by decide +kernel
def s_X_flat_4 : List am_Q := [(21, .iconst (-1), 0, 0, 0, .int (-1 : Int32))]
theorem t_s_X_flat_4 : s_X_flat_4.all (am_ok 11 cX11_flat) = true := by decide +kernel
def X_flat (τ : am_T) (a1 : Int32) (a2 : Int32) (a3 : Int32) : Option (Int32 × am_T) :=
  (X_within τ a1 (nI 0) (nI 9)).bind (fun x1 =>
  if x1.1 = 0 then
  (some ((-1 : Int32), x1.2))
else
  ((X_within x1.2 a2 (nI 1) (nI 300)).bind (fun x2 =>
  if x2.1 = 0 then
  (some ((-1 : Int32), x2.2))
else
  ((Fl_add x2.2 a1 a2 a3).bind (fun x3 =>
  some (x3.1, x3.2))))))
set_option maxRecDepth 20000 in
theorem ok_X_flat {X : am_X} {a1 : Int32} {a2 : Int32} {a3 : Int32} {v : Int32} {τ τ' : am_T} (hF : am_F X "ShareHouse" cX11_flat 4) (hR : am_R X 1 23) (hB : am_B X (some .int) (some (.int v)) (am_D τ')) (h : X_flat τ a1 a2 a3 = some (v, τ')) : am_W X 4 (0, [(0, .ref 0), (1, .int a1), (2, .int a2), (3, .int a3)], [], am_D τ) := by
  unfold X_flat at h
  refine am_seg s_X_flat_0 (y := (4, [(0, .ref 0), (1, .int a1), (2, .int a2), (3, .int a3)], [.int (nI 9), .int (nI 0), .int a1], am_D τ)) hF t_s_X_flat_0 rfl rfl ?_
  refine am_bd h (fun x1 hx h => ?_)
  refine am_callS (As := [.int a1, .int (nI 0), .int (nI 9)]) (r := (some (.int x1.1))) (st := []) (σ' := am_D x1.2) hF hR d_X11_flat_4 (c_X_within (τ' := x1.2) hx) (Nat.le_refl _) (Nat.le_refl _) wl_X_47 ws_yX11_within wn_ShareHouse wc_yX11_within wy_yX11_within rfl ⟨by decide, by decide⟩ (Nat.le_of_ble_eq_true rfl) ?_
  refine am_ite h (fun hc h => ?_) (fun hc h => ?_)
  · refine am_if_eq_t (t := 21) d_X11_flat_7 (by decide) hc hF ?_
    refine am_seg s_X_flat_1 (y := (22, [(0, .ref 0), (1, .int a1), (2, .int a2), (3, .int a3)], [.int (-1 : Int32)], am_D x1.2)) hF t_s_X_flat_1 rfl rfl ?_
    obtain ⟨rfl, rfl⟩ := am_pair h
    exact am_iret d_X11_flat_22 hF hB
  · refine am_if_eq_f (t := 21) d_X11_flat_7 (by decide) hc hF ?_
    refine am_seg s_X_flat_2 (y := (15, [(0, .ref 0), (1, .int a1), (2, .int a2), (3, .int a3)], [.int (nI 300), .int (nI 1), .int a2], am_D x1.2)) hF t_s_X_flat_2 rfl rfl ?_
    refine am_bd h (fun x2 hx h => ?_)
    refine am_callS (As := [.int a2, .int (nI 1), .int (nI 300)]) (r := (some (.int x2.1))) (st := []) (σ' := am_D x2.2) hF hR d_X11_flat_15 (c_X_within (τ' := x2.2) hx) (Nat.le_refl _) (Nat.le_refl _) wl_X_47 ws_yX11_within wn_ShareHouse wc_yX11_within wy_yX11_within rfl ⟨by decide, by decide⟩ (Nat.le_of_ble_eq_true rfl) ?_
    refine am_ite h (fun hc h => ?_) (fun hc h => ?_)
    · refine am_if_ne_f (t := 23) d_X11_flat_18 (by decide) hc hF ?_
      refine am_seg s_X_flat_4 (y := (22, [(0, .ref 0), (1, .int a1), (2, .int a2), (3, .int a3)], [.int (-1 : Int32)], am_D x2.2)) hF t_s_X_flat_4 rfl rfl ?_
      obtain ⟨rfl, rfl⟩ := am_pair h
      exact am_iret d_X11_flat_22 hF hB
    · refine am_if_ne_t (t := 23) d_X11_flat_18 (by decide) hc hF ?_
      refine am_seg s_X_flat_3 (y := (33, [(0, .ref 0), (1, .int a1), (2, .int a2), (3, .int a3)], [.int a3, .int a2, .int a1, .ref 4], am_D x2.2)) hF t_s_X_flat_3 rfl rfl ?_
      refine am_bd h (fun x3 hx h => ?_)
      refine am_callV (As := [.int a1, .int a2, .int a3]) (r := (some (.int x3.1))) (st := []) (σ' := am_D x3.2) (ci := 2) hF hR d_X11_flat_33 (c_Fl_add (τ' := x3.2) hx) (Nat.le_refl _) (Nat.le_refl _) wl_X_55 wi_yX2_add we_yX2_add wn_ShareHouse_Flats wc_yX2_add (Nat.le_of_ble_eq_true rfl) (Nat.le_of_ble_eq_true rfl) rfl rfl wy_yX2_add rfl ⟨by decide, by decide⟩ (Nat.le_of_ble_eq_true rfl) ?_
      obtain ⟨rfl, rfl⟩ := am_pair h
      exact am_iret d_X11_flat_36 hF hB
theorem c_X_flat {a1 : Int32} {a2 : Int32} {a3 : Int32} {v : Int32} {τ τ' : am_T} (h : X_flat τ a1 a2 a3 = some (v, τ')) : am_C yX11_flat cX11_flat 4 (some .int) 1 23 [.ref 0, .int a1, .int a2, .int a3] (am_D τ) (some (.int v)) (am_D τ') :=
  am_enter (by decide +kernel) (Nat.le_of_ble_eq_true rfl) ⟨Nat.le_refl _, Nat.le_refl _⟩ (fun X hF hR hB => ok_X_flat hF hR hB h)
def s_X_days_0 : List am_Q := [(0, .iload_n 1, 0, 0, 0, .null), (1, .iconst 1, 0, 0, 0, .int (nI 1)), (2, .bipush 100, 0, 0, 0, .int (nI 100))]
theorem t_s_X_days_0 : s_X_days_0.all (am_ok 11 cX11_days) = true := by decide +kernel
theorem d_X11_days_4 : decode cX11_days 4 = .ok (.invokestatic 47, 3) := by decide +kernel
theorem d_X11_days_7 : decode cX11_days 7 = .ok (.ifCond .ne 5, 3) := by decide +kernel
def s_X_days_1 : List am_Q := [(12, .aload_n 0, 0, 0, 0, .null), (13, .getfield 10, 11, 0, 145, .null), (16, .getfield 61, 3, 0, 85, .null), (19, .iload_n 1, 0, 0, 0, .null), (20, .iadd, 0, 0, 0, .null), (21, .sipush 900, 0, 0, 0, .int (nI 900))]
theorem t_s_X_days_1 : s_X_days_1.all (am_ok 11 cX11_days) = true := by decide +kernel
theorem d_X11_days_24 : decode cX11_days 24 = .ok (.if_icmp .le 6, 3) := by decide +kernel
def s_X_days_2 : List am_Q := [(30, .aload_n 0, 0, 0, 0, .null), (31, .getfield 10, 11, 0, 145, .null), (34, .dup, 0, 0, 0, .null), (35, .getfield 61, 3, 0, 85, .null), (38, .iload_n 1, 0, 0, 0, .null), (39, .iadd, 0, 0, 0, .null), (40, .putfield 61, 3, 0, 85, .null), (43, .aload_n 0, 0, 0, 0, .null), (44, .getfield 10, 11, 0, 145, .null), (47, .getfield 61, 3, 0, 85, .null)]
theorem t_s_X_days_2 : s_X_days_2.all (am_ok 11 cX11_days) = true := by decide +kernel
theorem d_X11_days_50 : decode cX11_days 50 = .ok (.ireturn, 1) := by decide +kernel
def s_X_days_3 : List am_Q := [(27, .bipush (-4), 0, 0, 0, .int (-4 : Int32))]
theorem t_s_X_days_3 : s_X_days_3.all (am_ok 11 cX11_days) = true := by decide +kernel
theorem d_X11_days_29 : decode cX11_days 29 = .ok (.ireturn, 1) := by decide +kernel
def s_X_days_4 : List am_Q := [(10, .iconst (-1), 0, 0, 0, .int (-1 : Int32))]
theorem t_s_X_days_4 : s_X_days_4.all (am_ok 11 cX11_days) = true := by decide +kernel
theorem d_X11_days_11 : decode cX11_days 11 = .ok (.ireturn, 1) := by decide +kernel
def X_days (τ : am_T) (a1 : Int32) : Option (Int32 × am_T) :=
  (X_within τ a1 (nI 1) (nI 100)).bind (fun x1 =>
  if x1.1 = 0 then
  (some ((-1 : Int32), x1.2))
else
  (if ((x1.2.1 1 0) + a1) ≤ (nI 900) then
  (some (((am_si x1.2 1 0 ((x1.2.1 1 0) + a1)).1 1 0), (am_si x1.2 1 0 ((x1.2.1 1 0) + a1))))
else
  (some ((-4 : Int32), x1.2))))
set_option maxRecDepth 20000 in
theorem ok_X_days {X : am_X} {a1 : Int32} {v : Int32} {τ τ' : am_T} (hF : am_F X "ShareHouse" cX11_days 2) (hR : am_R X 1 22) (hB : am_B X (some .int) (some (.int v)) (am_D τ')) (h : X_days τ a1 = some (v, τ')) : am_W X 2 (0, [(0, .ref 0), (1, .int a1)], [], am_D τ) := by
  unfold X_days at h
  refine am_seg s_X_days_0 (y := (4, [(0, .ref 0), (1, .int a1)], [.int (nI 100), .int (nI 1), .int a1], am_D τ)) hF t_s_X_days_0 rfl rfl ?_
  refine am_bd h (fun x1 hx h => ?_)
  refine am_callS (As := [.int a1, .int (nI 1), .int (nI 100)]) (r := (some (.int x1.1))) (st := []) (σ' := am_D x1.2) hF hR d_X11_days_4 (c_X_within (τ' := x1.2) hx) (Nat.le_refl _) (Nat.le_refl _) wl_X_47 ws_yX11_within wn_ShareHouse wc_yX11_within wy_yX11_within rfl ⟨by decide, by decide⟩ (Nat.le_of_ble_eq_true rfl) ?_
  refine am_ite h (fun hc h => ?_) (fun hc h => ?_)
  · refine am_if_ne_f (t := 12) d_X11_days_7 (by decide) hc hF ?_
    refine am_seg s_X_days_4 (y := (11, [(0, .ref 0), (1, .int a1)], [.int (-1 : Int32)], am_D x1.2)) hF t_s_X_days_4 rfl rfl ?_
    obtain ⟨rfl, rfl⟩ := am_pair h
    exact am_iret d_X11_days_11 hF hB
  · refine am_if_ne_t (t := 12) d_X11_days_7 (by decide) hc hF ?_
    refine am_seg s_X_days_1 (y := (24, [(0, .ref 0), (1, .int a1)], [.int (nI 900), .int ((x1.2.1 1 0) + a1)], am_D x1.2)) hF t_s_X_days_1 rfl rfl ?_
    refine am_ite h (fun hc h => ?_) (fun hc h => ?_)
    · refine am_icmp_le_t (t := 30) d_X11_days_24 (by decide) hc hF ?_
      refine am_seg s_X_days_2 (y := (50, [(0, .ref 0), (1, .int a1)], [.int ((am_si x1.2 1 0 ((x1.2.1 1 0) + a1)).1 1 0)], am_D (am_si x1.2 1 0 ((x1.2.1 1 0) + a1)))) hF t_s_X_days_2 rfl rfl ?_
      obtain ⟨rfl, rfl⟩ := am_pair h
      exact am_iret d_X11_days_50 hF hB
    · refine am_icmp_le_f (t := 30) d_X11_days_24 (by decide) hc hF ?_
      refine am_seg s_X_days_3 (y := (29, [(0, .ref 0), (1, .int a1)], [.int (-4 : Int32)], am_D x1.2)) hF t_s_X_days_3 rfl rfl ?_
      obtain ⟨rfl, rfl⟩ := am_pair h
      exact am_iret d_X11_days_29 hF hB
theorem c_X_days {a1 : Int32} {v : Int32} {τ τ' : am_T} (h : X_days τ a1 = some (v, τ')) : am_C yX11_days cX11_days 2 (some .int) 1 22 [.ref 0, .int a1] (am_D τ) (some (.int v)) (am_D τ') :=
  am_enter (by decide +kernel) (Nat.le_of_ble_eq_true rfl) ⟨Nat.le_refl _, Nat.le_refl _⟩ (fun X hF hR hB => ok_X_days hF hR hB h)
def s_Ta_kindOf_0 : List am_Q := [(0, .iload_n 0, 0, 0, 0, .null), (1, .bipush 97, 0, 0, 0, .int (nI 97)), (3, .bipush 122, 0, 0, 0, .int (nI 122))]
theorem t_s_Ta_kindOf_0 : s_Ta_kindOf_0.all (am_ok 9 cX9_kindOf) = true := by decide +kernel
theorem d_X9_kindOf_5 : decode cX9_kindOf 5 = .ok (.invokestatic 113, 3) := by decide +kernel
theorem d_X9_kindOf_8 : decode cX9_kindOf 8 = .ok (.ifCond .eq 5, 3) := by decide +kernel
def s_Ta_kindOf_1 : List am_Q := [(13, .iload_n 0, 0, 0, 0, .null), (14, .bipush 48, 0, 0, 0, .int (nI 48)), (16, .bipush 57, 0, 0, 0, .int (nI 57))]
theorem t_s_Ta_kindOf_1 : s_Ta_kindOf_1.all (am_ok 9 cX9_kindOf) = true := by decide +kernel
theorem d_X9_kindOf_18 : decode cX9_kindOf 18 = .ok (.invokestatic 113, 3) := by decide +kernel
theorem d_X9_kindOf_21 : decode cX9_kindOf 21 = .ok (.ifCond .eq 7, 3) := by decide +kernel
def s_Ta_kindOf_2 : List am_Q := [(28, .iconst 3, 0, 0, 0, .int (nI 3))]
theorem t_s_Ta_kindOf_2 : s_Ta_kindOf_2.all (am_ok 9 cX9_kindOf) = true := by decide +kernel
theorem d_X9_kindOf_29 : decode cX9_kindOf 29 = .ok (.ireturn, 1) := by decide +kernel
def s_Ta_kindOf_3 : List am_Q := [(24, .iconst 2, 0, 0, 0, .int (nI 2)), (25, .goto 4, 29, 0, 0, .null)]
theorem t_s_Ta_kindOf_3 : s_Ta_kindOf_3.all (am_ok 9 cX9_kindOf) = true := by decide +kernel
def s_Ta_kindOf_4 : List am_Q := [(11, .iconst 1, 0, 0, 0, .int (nI 1))]
theorem t_s_Ta_kindOf_4 : s_Ta_kindOf_4.all (am_ok 9 cX9_kindOf) = true := by decide +kernel
theorem d_X9_kindOf_12 : decode cX9_kindOf 12 = .ok (.ireturn, 1) := by decide +kernel
def Ta_kindOf (τ : am_T) (a0 : Int32) : Option (Int32 × am_T) :=
  (X_within τ a0 (nI 97) (nI 122)).bind (fun x1 =>
  if x1.1 = 0 then
  ((X_within x1.2 a0 (nI 48) (nI 57)).bind (fun x2 =>
  if x2.1 = 0 then
  (some ((nI 3), x2.2))
else
  (some ((nI 2), x2.2))))
else
  (some ((nI 1), x1.2)))
set_option maxRecDepth 20000 in
theorem ok_Ta_kindOf {X : am_X} {a0 : Int32} {v : Int32} {τ τ' : am_T} (hF : am_F X "ShareHouse$Tape" cX9_kindOf 1) (hR : am_R X 1 22) (hB : am_B X (some .int) (some (.int v)) (am_D τ')) (h : Ta_kindOf τ a0 = some (v, τ')) : am_W X 1 (0, [(0, .int a0)], [], am_D τ) := by
  unfold Ta_kindOf at h
  refine am_seg s_Ta_kindOf_0 (y := (5, [(0, .int a0)], [.int (nI 122), .int (nI 97), .int a0], am_D τ)) hF t_s_Ta_kindOf_0 rfl rfl ?_
  refine am_bd h (fun x1 hx h => ?_)
  refine am_callSN (As := [.int a0, .int (nI 97), .int (nI 122)]) (r := (some (.int x1.1))) (st := []) (σ' := am_D x1.2) (host := "ShareHouse") hF hR d_X9_kindOf_5 (c_X_within (τ' := x1.2) hx) (Nat.le_refl _) (Nat.le_refl _) wk_Ta_113 ws_yX11_within wn_ShareHouse wc_yX11_within wy_yX11_within rfl ⟨by decide, by decide⟩ (Nat.le_of_ble_eq_true rfl) ?_
  refine am_ite h (fun hc h => ?_) (fun hc h => ?_)
  · refine am_if_eq_t (t := 13) d_X9_kindOf_8 (by decide) hc hF ?_
    refine am_seg s_Ta_kindOf_1 (y := (18, [(0, .int a0)], [.int (nI 57), .int (nI 48), .int a0], am_D x1.2)) hF t_s_Ta_kindOf_1 rfl rfl ?_
    refine am_bd h (fun x2 hx h => ?_)
    refine am_callSN (As := [.int a0, .int (nI 48), .int (nI 57)]) (r := (some (.int x2.1))) (st := []) (σ' := am_D x2.2) (host := "ShareHouse") hF hR d_X9_kindOf_18 (c_X_within (τ' := x2.2) hx) (Nat.le_refl _) (Nat.le_refl _) wk_Ta_113 ws_yX11_within wn_ShareHouse wc_yX11_within wy_yX11_within rfl ⟨by decide, by decide⟩ (Nat.le_of_ble_eq_true rfl) ?_
    refine am_ite h (fun hc h => ?_) (fun hc h => ?_)
    · refine am_if_eq_t (t := 28) d_X9_kindOf_21 (by decide) hc hF ?_
      refine am_seg s_Ta_kindOf_2 (y := (29, [(0, .int a0)], [.int (nI 3)], am_D x2.2)) hF t_s_Ta_kindOf_2 rfl rfl ?_
      obtain ⟨rfl, rfl⟩ := am_pair h
      exact am_iret d_X9_kindOf_29 hF hB
    · refine am_if_eq_f (t := 28) d_X9_kindOf_21 (by decide) hc hF ?_
      refine am_seg s_Ta_kindOf_3 (y := (29, [(0, .int a0)], [.int (nI 2)], am_D x2.2)) hF t_s_Ta_kindOf_3 rfl rfl ?_
      obtain ⟨rfl, rfl⟩ := am_pair h
      exact am_iret d_X9_kindOf_29 hF hB
  · refine am_if_eq_f (t := 13) d_X9_kindOf_8 (by decide) hc hF ?_
    refine am_seg s_Ta_kindOf_4 (y := (12, [(0, .int a0)], [.int (nI 1)], am_D x1.2)) hF t_s_Ta_kindOf_4 rfl rfl ?_
    obtain ⟨rfl, rfl⟩ := am_pair h
    exact am_iret d_X9_kindOf_12 hF hB
theorem c_Ta_kindOf {a0 : Int32} {v : Int32} {τ τ' : am_T} (h : Ta_kindOf τ a0 = some (v, τ')) : am_C yX9_kindOf cX9_kindOf 1 (some .int) 1 22 [.int a0] (am_D τ) (some (.int v)) (am_D τ') :=
  am_enter (by decide +kernel) (Nat.le_of_ble_eq_true rfl) ⟨Nat.le_refl _, Nat.le_refl _⟩ (fun X hF hR hB => ok_Ta_kindOf hF hR hB h)
def s_Ta_add_0 : List am_Q := [(0, .aload_n 0, 0, 0, 0, .null), (1, .getfield 25, 9, 2, 111, .null), (4, .iload_n 3, 0, 0, 0, .null), (5, .iadd, 0, 0, 0, .null), (6, .sipush 200, 0, 0, 0, .int (nI 200))]
theorem t_s_Ta_add_0 : s_Ta_add_0.all (am_ok 9 cX9_add) = true := by decide +kernel
theorem d_X9_add_9 : decode cX9_add 9 = .ok (.if_icmp .le 6, 3) := by decide +kernel
def s_Ta_add_1 : List am_Q := [(15, .iconst 0, 0, 0, 0, .int (nI 0)), (16, .istore 4, 0, 0, 0, .null)]
theorem t_s_Ta_add_1 : s_Ta_add_1.all (am_ok 9 cX9_add) = true := by decide +kernel
def s_Ta_add_2 : List am_Q := [(18, .iload 4, 0, 0, 0, .null), (20, .iload_n 3, 0, 0, 0, .null)]
theorem t_s_Ta_add_2 : s_Ta_add_2.all (am_ok 9 cX9_add) = true := by decide +kernel
theorem d_X9_add_21 : decode cX9_add 21 = .ok (.if_icmp .ge 60, 3) := by decide +kernel
def s_Ta_add_3 : List am_Q := [(81, .aload_n 0, 0, 0, 0, .null), (82, .dup, 0, 0, 0, .null), (83, .getfield 25, 9, 2, 111, .null), (86, .iload_n 3, 0, 0, 0, .null), (87, .iadd, 0, 0, 0, .null), (88, .putfield 25, 9, 2, 111, .null), (91, .aload_n 0, 0, 0, 0, .null), (92, .getfield 25, 9, 2, 111, .null)]
theorem t_s_Ta_add_3 : s_Ta_add_3.all (am_ok 9 cX9_add) = true := by decide +kernel
theorem d_X9_add_95 : decode cX9_add 95 = .ok (.ireturn, 1) := by decide +kernel
def s_Ta_add_4 : List am_Q := [(24, .aload_n 0, 0, 0, 0, .null), (25, .getfield 11, 9, 0, 109, .null), (28, .aload_n 0, 0, 0, 0, .null), (29, .getfield 25, 9, 2, 111, .null), (32, .iload 4, 0, 0, 0, .null), (34, .iadd, 0, 0, 0, .null), (35, .lload_n 1, 0, 0, 0, .null), (36, .bipush 8, 0, 0, 0, .int (nI 8)), (38, .iload 4, 0, 0, 0, .null), (40, .imul, 0, 0, 0, .null), (41, .lushr, 0, 0, 0, .null), (42, .l2i, 0, 0, 0, .null), (43, .sipush 255, 0, 0, 0, .int (nI 255)), (46, .iand, 0, 0, 0, .null)]
theorem t_s_Ta_add_4 : s_Ta_add_4.all (am_ok 9 cX9_add) = true := by decide +kernel
theorem d_X9_add_47 : decode cX9_add 47 = .ok (.iastore, 1) := by decide +kernel
def s_Ta_add_5 : List am_Q := [(48, .aload_n 0, 0, 0, 0, .null), (49, .getfield 15, 9, 1, 110, .null), (52, .aload_n 0, 0, 0, 0, .null), (53, .getfield 25, 9, 2, 111, .null), (56, .iload 4, 0, 0, 0, .null), (58, .iadd, 0, 0, 0, .null), (59, .aload_n 0, 0, 0, 0, .null), (60, .getfield 11, 9, 0, 109, .null), (63, .aload_n 0, 0, 0, 0, .null), (64, .getfield 25, 9, 2, 111, .null), (67, .iload 4, 0, 0, 0, .null), (69, .iadd, 0, 0, 0, .null)]
theorem t_s_Ta_add_5 : s_Ta_add_5.all (am_ok 9 cX9_add) = true := by decide +kernel
theorem d_X9_add_70 : decode cX9_add 70 = .ok (.iaload, 1) := by decide +kernel
theorem d_X9_add_71 : decode cX9_add 71 = .ok (.invokestatic 29, 3) := by decide +kernel
theorem d_X9_add_74 : decode cX9_add 74 = .ok (.iastore, 1) := by decide +kernel
def s_Ta_add_6 : List am_Q := [(75, .iinc 4 1, 0, 0, 0, .int (nI 1)), (78, .goto (-60), 18, 0, 0, .null)]
theorem t_s_Ta_add_6 : s_Ta_add_6.all (am_ok 9 cX9_add) = true := by decide +kernel
def s_Ta_add_7 : List am_Q := [(12, .bipush (-2), 0, 0, 0, .int (-2 : Int32))]
theorem t_s_Ta_add_7 : s_Ta_add_7.all (am_ok 9 cX9_add) = true := by decide +kernel
theorem d_X9_add_14 : decode cX9_add 14 = .ok (.ireturn, 1) := by decide +kernel
def Ta_add_18 : Nat → am_T → Int64 → Int32 → Int32 → Option (Int32 × am_T)
  | 0, _, _, _, _ => none
  | n + 1, τ, a1, a3, a4 =>
    if a3 ≤ a4 then
  (some (((am_si τ 113 2 ((τ.1 113 2) + a3)).1 113 2), (am_si τ 113 2 ((τ.1 113 2) + a3))))
else
  (am_g (am_in ((τ.1 113 2) + a4) 200) (am_g (am_in (((am_si τ 114 (((τ.1 113 2) + a4).toNatClampNeg) ((Int64.toInt32 (Int64.toUInt64 a1 >>> (Int64.toUInt64 (Int32.toInt64 ((nI 8) * a4)) &&& Int64.toUInt64 63)).toInt64) &&& (nI 255))).1 113 2) + a4) 200) ((Ta_kindOf (am_si τ 114 (((τ.1 113 2) + a4).toNatClampNeg) ((Int64.toInt32 (Int64.toUInt64 a1 >>> (Int64.toUInt64 (Int32.toInt64 ((nI 8) * a4)) &&& Int64.toUInt64 63)).toInt64) &&& (nI 255))) ((am_si τ 114 (((τ.1 113 2) + a4).toNatClampNeg) ((Int64.toInt32 (Int64.toUInt64 a1 >>> (Int64.toUInt64 (Int32.toInt64 ((nI 8) * a4)) &&& Int64.toUInt64 63)).toInt64) &&& (nI 255))).1 114 ((((am_si τ 114 (((τ.1 113 2) + a4).toNatClampNeg) ((Int64.toInt32 (Int64.toUInt64 a1 >>> (Int64.toUInt64 (Int32.toInt64 ((nI 8) * a4)) &&& Int64.toUInt64 63)).toInt64) &&& (nI 255))).1 113 2) + a4).toNatClampNeg))).bind (fun x1 =>
  am_g (am_in (((am_si τ 114 (((τ.1 113 2) + a4).toNatClampNeg) ((Int64.toInt32 (Int64.toUInt64 a1 >>> (Int64.toUInt64 (Int32.toInt64 ((nI 8) * a4)) &&& Int64.toUInt64 63)).toInt64) &&& (nI 255))).1 113 2) + a4) 200) ((Ta_add_18 n) (am_si x1.2 115 ((((am_si τ 114 (((τ.1 113 2) + a4).toNatClampNeg) ((Int64.toInt32 (Int64.toUInt64 a1 >>> (Int64.toUInt64 (Int32.toInt64 ((nI 8) * a4)) &&& Int64.toUInt64 63)).toInt64) &&& (nI 255))).1 113 2) + a4).toNatClampNeg) x1.1) a1 a3 (a4 + (nI 1)))))))
set_option maxRecDepth 20000 in
theorem ok_Ta_add_18 {X : am_X} {v : Int32} {τ' : am_T} (hF : am_F X "ShareHouse$Tape" cX9_add 5) (hR : am_R X 2 42) (hB : am_B X (some .int) (some (.int v)) (am_D τ')) : ∀ (n : Nat) (τ : am_T) (a1 : Int64) (a3 : Int32) (a4 : Int32), Ta_add_18 n τ a1 a3 a4 = some (v, τ') → am_W X 5 (18, [(0, .ref 113), (1, .long a1), (3, .int a3), (4, .int a4)], [], am_D τ) := by
  intro n
  induction n with
  | zero => intro τ a1 a3 a4 h; unfold Ta_add_18 at h; cases h
  | succ n ih =>
    intro τ a1 a3 a4 h
    unfold Ta_add_18 at h
    refine am_seg s_Ta_add_2 (y := (21, [(0, .ref 113), (1, .long a1), (3, .int a3), (4, .int a4)], [.int a3, .int a4], am_D τ)) hF t_s_Ta_add_2 rfl rfl ?_
    refine am_ite h (fun hc h => ?_) (fun hc h => ?_)
    · refine am_icmp_ge_t (t := 81) d_X9_add_21 (by decide) hc hF ?_
      refine am_seg s_Ta_add_3 (y := (95, [(0, .ref 113), (1, .long a1), (3, .int a3), (4, .int a4)], [.int ((am_si τ 113 2 ((τ.1 113 2) + a3)).1 113 2)], am_D (am_si τ 113 2 ((τ.1 113 2) + a3)))) hF t_s_Ta_add_3 rfl rfl ?_
      obtain ⟨rfl, rfl⟩ := am_pair h
      exact am_iret d_X9_add_95 hF hB
    · refine am_icmp_ge_f (t := 81) d_X9_add_21 (by decide) hc hF ?_
      refine am_seg s_Ta_add_4 (y := (47, [(0, .ref 113), (1, .long a1), (3, .int a3), (4, .int a4)], [.int ((Int64.toInt32 (Int64.toUInt64 a1 >>> (Int64.toUInt64 (Int32.toInt64 ((nI 8) * a4)) &&& Int64.toUInt64 63)).toInt64) &&& (nI 255)), .int ((τ.1 113 2) + a4), .ref 114], am_D τ)) hF t_s_Ta_add_4 rfl rfl ?_
      refine am_gd h (fun hi h => ?_)
      refine am_iast (n := 200) (j := (((τ.1 113 2) + a4).toNatClampNeg)) d_X9_add_47 (Nat.le_of_ble_eq_true rfl) (Nat.le_of_ble_eq_true rfl) rfl hi rfl hF ?_
      refine am_seg s_Ta_add_5 (y := (70, [(0, .ref 113), (1, .long a1), (3, .int a3), (4, .int a4)], [.int (((am_si τ 114 (((τ.1 113 2) + a4).toNatClampNeg) ((Int64.toInt32 (Int64.toUInt64 a1 >>> (Int64.toUInt64 (Int32.toInt64 ((nI 8) * a4)) &&& Int64.toUInt64 63)).toInt64) &&& (nI 255))).1 113 2) + a4), .ref 114, .int (((am_si τ 114 (((τ.1 113 2) + a4).toNatClampNeg) ((Int64.toInt32 (Int64.toUInt64 a1 >>> (Int64.toUInt64 (Int32.toInt64 ((nI 8) * a4)) &&& Int64.toUInt64 63)).toInt64) &&& (nI 255))).1 113 2) + a4), .ref 115], am_D (am_si τ 114 (((τ.1 113 2) + a4).toNatClampNeg) ((Int64.toInt32 (Int64.toUInt64 a1 >>> (Int64.toUInt64 (Int32.toInt64 ((nI 8) * a4)) &&& Int64.toUInt64 63)).toInt64) &&& (nI 255))))) hF t_s_Ta_add_5 rfl rfl ?_
      refine am_gd h (fun hi h => ?_)
      refine am_iald (n := 200) (j := ((((am_si τ 114 (((τ.1 113 2) + a4).toNatClampNeg) ((Int64.toInt32 (Int64.toUInt64 a1 >>> (Int64.toUInt64 (Int32.toInt64 ((nI 8) * a4)) &&& Int64.toUInt64 63)).toInt64) &&& (nI 255))).1 113 2) + a4).toNatClampNeg)) d_X9_add_70 (Nat.le_of_ble_eq_true rfl) (Nat.le_of_ble_eq_true rfl) rfl hi rfl hF ?_
      refine am_bd h (fun x1 hx h => ?_)
      refine am_callS (As := [.int ((am_si τ 114 (((τ.1 113 2) + a4).toNatClampNeg) ((Int64.toInt32 (Int64.toUInt64 a1 >>> (Int64.toUInt64 (Int32.toInt64 ((nI 8) * a4)) &&& Int64.toUInt64 63)).toInt64) &&& (nI 255))).1 114 ((((am_si τ 114 (((τ.1 113 2) + a4).toNatClampNeg) ((Int64.toInt32 (Int64.toUInt64 a1 >>> (Int64.toUInt64 (Int32.toInt64 ((nI 8) * a4)) &&& Int64.toUInt64 63)).toInt64) &&& (nI 255))).1 113 2) + a4).toNatClampNeg))]) (r := (some (.int x1.1))) (st := [.int (((am_si τ 114 (((τ.1 113 2) + a4).toNatClampNeg) ((Int64.toInt32 (Int64.toUInt64 a1 >>> (Int64.toUInt64 (Int32.toInt64 ((nI 8) * a4)) &&& Int64.toUInt64 63)).toInt64) &&& (nI 255))).1 113 2) + a4), .ref 115]) (σ' := am_D x1.2) hF hR d_X9_add_71 (c_Ta_kindOf (τ' := x1.2) hx) (Nat.le_refl _) (Nat.le_refl _) wl_Ta_29 ws_yX9_kindOf wn_ShareHouse_Tape wc_yX9_kindOf wy_yX9_kindOf rfl ⟨by decide, by decide⟩ (Nat.le_of_ble_eq_true rfl) ?_
      refine am_gd h (fun hi h => ?_)
      refine am_iast (n := 200) (j := ((((am_si τ 114 (((τ.1 113 2) + a4).toNatClampNeg) ((Int64.toInt32 (Int64.toUInt64 a1 >>> (Int64.toUInt64 (Int32.toInt64 ((nI 8) * a4)) &&& Int64.toUInt64 63)).toInt64) &&& (nI 255))).1 113 2) + a4).toNatClampNeg)) d_X9_add_74 (Nat.le_of_ble_eq_true rfl) (Nat.le_of_ble_eq_true rfl) rfl hi rfl hF ?_
      refine am_seg s_Ta_add_6 (y := (18, [(4, .int (a4 + (nI 1))), (0, .ref 113), (1, .long a1), (3, .int a3)], [], am_D (am_si x1.2 115 ((((am_si τ 114 (((τ.1 113 2) + a4).toNatClampNeg) ((Int64.toInt32 (Int64.toUInt64 a1 >>> (Int64.toUInt64 (Int32.toInt64 ((nI 8) * a4)) &&& Int64.toUInt64 63)).toInt64) &&& (nI 255))).1 113 2) + a4).toNatClampNeg) x1.1))) hF t_s_Ta_add_6 rfl rfl ?_
      refine am_pick [1, 2, 3, 0] rfl ?_
      exact ih _ _ _ _ h
def Ta_add (τ : am_T) (a1 : Int64) (a3 : Int32) : Option (Int32 × am_T) :=
  if ((τ.1 113 2) + a3) ≤ (nI 200) then
  (Ta_add_18 5000 τ a1 a3 (nI 0))
else
  (some ((-2 : Int32), τ))
set_option maxRecDepth 20000 in
theorem ok_Ta_add {X : am_X} {a1 : Int64} {a3 : Int32} {v : Int32} {τ τ' : am_T} (hF : am_F X "ShareHouse$Tape" cX9_add 5) (hR : am_R X 2 42) (hB : am_B X (some .int) (some (.int v)) (am_D τ')) (h : Ta_add τ a1 a3 = some (v, τ')) : am_W X 5 (0, [(0, .ref 113), (1, .long a1), (3, .int a3)], [], am_D τ) := by
  unfold Ta_add at h
  refine am_seg s_Ta_add_0 (y := (9, [(0, .ref 113), (1, .long a1), (3, .int a3)], [.int (nI 200), .int ((τ.1 113 2) + a3)], am_D τ)) hF t_s_Ta_add_0 rfl rfl ?_
  refine am_ite h (fun hc h => ?_) (fun hc h => ?_)
  · refine am_icmp_le_t (t := 15) d_X9_add_9 (by decide) hc hF ?_
    refine am_seg s_Ta_add_1 (y := (18, [(4, .int (nI 0)), (0, .ref 113), (1, .long a1), (3, .int a3)], [], am_D τ)) hF t_s_Ta_add_1 rfl rfl ?_
    refine am_pick [1, 2, 3, 0] rfl ?_
    exact ok_Ta_add_18 hF hR hB _ _ _ _ _ h
  · refine am_icmp_le_f (t := 15) d_X9_add_9 (by decide) hc hF ?_
    refine am_seg s_Ta_add_7 (y := (14, [(0, .ref 113), (1, .long a1), (3, .int a3)], [.int (-2 : Int32)], am_D τ)) hF t_s_Ta_add_7 rfl rfl ?_
    obtain ⟨rfl, rfl⟩ := am_pair h
    exact am_iret d_X9_add_14 hF hB
theorem c_Ta_add {a1 : Int64} {a3 : Int32} {v : Int32} {τ τ' : am_T} (h : Ta_add τ a1 a3 = some (v, τ')) : am_C yX9_add cX9_add 5 (some .int) 2 42 [.ref 113, .long a1, .int a3] (am_D τ) (some (.int v)) (am_D τ') :=
  am_enter (by decide +kernel) (Nat.le_of_ble_eq_true rfl) ⟨Nat.le_refl _, Nat.le_refl _⟩ (fun X hF hR hB => ok_Ta_add hF hR hB h)
def s_X_feed_0 : List am_Q := [(0, .iload_n 3, 0, 0, 0, .null), (1, .iconst 1, 0, 0, 0, .int (nI 1)), (2, .bipush 8, 0, 0, 0, .int (nI 8))]
theorem t_s_X_feed_0 : s_X_feed_0.all (am_ok 11 cX11_feed) = true := by decide +kernel
theorem d_X11_feed_4 : decode cX11_feed 4 = .ok (.invokestatic 47, 3) := by decide +kernel
theorem d_X11_feed_7 : decode cX11_feed 7 = .ok (.ifCond .ne 5, 3) := by decide +kernel
def s_X_feed_1 : List am_Q := [(12, .aload_n 0, 0, 0, 0, .null), (13, .getfield 22, 11, 3, 148, .null), (16, .lload_n 1, 0, 0, 0, .null), (17, .iload_n 3, 0, 0, 0, .null)]
theorem t_s_X_feed_1 : s_X_feed_1.all (am_ok 11 cX11_feed) = true := by decide +kernel
theorem d_X11_feed_18 : decode cX11_feed 18 = .ok (.invokevirtual 65, 3) := by decide +kernel
theorem d_X11_feed_21 : decode cX11_feed 21 = .ok (.ireturn, 1) := by decide +kernel
def s_X_feed_2 : List am_Q := [(10, .iconst (-1), 0, 0, 0, .int (-1 : Int32))]
theorem t_s_X_feed_2 : s_X_feed_2.all (am_ok 11 cX11_feed) = true := by decide +kernel
theorem d_X11_feed_11 : decode cX11_feed 11 = .ok (.ireturn, 1) := by decide +kernel
def X_feed (τ : am_T) (a1 : Int64) (a3 : Int32) : Option (Int32 × am_T) :=
  (X_within τ a3 (nI 1) (nI 8)).bind (fun x1 =>
  if x1.1 = 0 then
  (some ((-1 : Int32), x1.2))
else
  ((Ta_add x1.2 a1 a3).bind (fun x2 =>
  some (x2.1, x2.2))))
set_option maxRecDepth 20000 in
theorem ok_X_feed {X : am_X} {a1 : Int64} {a3 : Int32} {v : Int32} {τ τ' : am_T} (hF : am_F X "ShareHouse" cX11_feed 4) (hR : am_R X 3 66) (hB : am_B X (some .int) (some (.int v)) (am_D τ')) (h : X_feed τ a1 a3 = some (v, τ')) : am_W X 4 (0, [(0, .ref 0), (1, .long a1), (3, .int a3)], [], am_D τ) := by
  unfold X_feed at h
  refine am_seg s_X_feed_0 (y := (4, [(0, .ref 0), (1, .long a1), (3, .int a3)], [.int (nI 8), .int (nI 1), .int a3], am_D τ)) hF t_s_X_feed_0 rfl rfl ?_
  refine am_bd h (fun x1 hx h => ?_)
  refine am_callS (As := [.int a3, .int (nI 1), .int (nI 8)]) (r := (some (.int x1.1))) (st := []) (σ' := am_D x1.2) hF hR d_X11_feed_4 (c_X_within (τ' := x1.2) hx) (Nat.le_refl _) (Nat.le_refl _) wl_X_47 ws_yX11_within wn_ShareHouse wc_yX11_within wy_yX11_within rfl ⟨by decide, by decide⟩ (Nat.le_of_ble_eq_true rfl) ?_
  refine am_ite h (fun hc h => ?_) (fun hc h => ?_)
  · refine am_if_ne_f (t := 12) d_X11_feed_7 (by decide) hc hF ?_
    refine am_seg s_X_feed_2 (y := (11, [(0, .ref 0), (1, .long a1), (3, .int a3)], [.int (-1 : Int32)], am_D x1.2)) hF t_s_X_feed_2 rfl rfl ?_
    obtain ⟨rfl, rfl⟩ := am_pair h
    exact am_iret d_X11_feed_11 hF hB
  · refine am_if_ne_t (t := 12) d_X11_feed_7 (by decide) hc hF ?_
    refine am_seg s_X_feed_1 (y := (18, [(0, .ref 0), (1, .long a1), (3, .int a3)], [.int a3, .long a1, .ref 113], am_D x1.2)) hF t_s_X_feed_1 rfl rfl ?_
    refine am_bd h (fun x2 hx h => ?_)
    refine am_callV (As := [.long a1, .int a3]) (r := (some (.int x2.1))) (st := []) (σ' := am_D x2.2) (ci := 9) hF hR d_X11_feed_18 (c_Ta_add (τ' := x2.2) hx) (Nat.le_refl _) (Nat.le_refl _) wl_X_65 wi_yX9_add we_yX9_add wn_ShareHouse_Tape wc_yX9_add (Nat.le_of_ble_eq_true rfl) (Nat.le_of_ble_eq_true rfl) rfl rfl wy_yX9_add rfl ⟨by decide, by decide⟩ (Nat.le_of_ble_eq_true rfl) ?_
    obtain ⟨rfl, rfl⟩ := am_pair h
    exact am_iret d_X11_feed_21 hF hB
theorem c_X_feed {a1 : Int64} {a3 : Int32} {v : Int32} {τ τ' : am_T} (h : X_feed τ a1 a3 = some (v, τ')) : am_C yX11_feed cX11_feed 4 (some .int) 3 66 [.ref 0, .long a1, .int a3] (am_D τ) (some (.int v)) (am_D τ') :=
  am_enter (by decide +kernel) (Nat.le_of_ble_eq_true rfl) ⟨Nat.le_refl _, Nat.le_refl _⟩ (fun X hF hR hB => ok_X_feed hF hR hB h)
def s_Fl_has_0 : List am_Q := [(0, .iload_n 1, 0, 0, 0, .null), (1, .iconst 0, 0, 0, 0, .int (nI 0)), (2, .aload_n 0, 0, 0, 0, .null), (3, .getfield 40, 2, 4, 16, .null), (6, .iconst 1, 0, 0, 0, .int (nI 1)), (7, .isub, 0, 0, 0, .null)]
theorem t_s_Fl_has_0 : s_Fl_has_0.all (am_ok 2 cX2_has) = true := by decide +kernel
theorem d_X2_has_8 : decode cX2_has 8 = .ok (.invokestatic 44, 3) := by decide +kernel
theorem d_X2_has_11 : decode cX2_has 11 = .ok (.ireturn, 1) := by decide +kernel
def Fl_has (τ : am_T) (a1 : Int32) : Option (Int32 × am_T) :=
  (X_within τ a1 (nI 0) ((τ.1 4 4) - (nI 1))).bind (fun x1 =>
  am_g (am_z01 x1.1) (some (x1.1, x1.2)))
set_option maxRecDepth 20000 in
theorem ok_Fl_has {X : am_X} {a1 : Int32} {v : Int32} {τ τ' : am_T} (hF : am_F X "ShareHouse$Flats" cX2_has 2) (hR : am_R X 1 22) (hB : am_B X (some .boolean) (some (.int v)) (am_D τ')) (h : Fl_has τ a1 = some (v, τ')) : am_W X 2 (0, [(0, .ref 4), (1, .int a1)], [], am_D τ) := by
  unfold Fl_has at h
  refine am_seg s_Fl_has_0 (y := (8, [(0, .ref 4), (1, .int a1)], [.int ((τ.1 4 4) - (nI 1)), .int (nI 0), .int a1], am_D τ)) hF t_s_Fl_has_0 rfl rfl ?_
  refine am_bd h (fun x1 hx h => ?_)
  refine am_callSN (As := [.int a1, .int (nI 0), .int ((τ.1 4 4) - (nI 1))]) (r := (some (.int x1.1))) (st := []) (σ' := am_D x1.2) (host := "ShareHouse") hF hR d_X2_has_8 (c_X_within (τ' := x1.2) hx) (Nat.le_refl _) (Nat.le_refl _) wk_Fl_44 ws_yX11_within wn_ShareHouse wc_yX11_within wy_yX11_within rfl ⟨by decide, by decide⟩ (Nat.le_of_ble_eq_true rfl) ?_
  refine am_gd h (fun hz h => ?_)
  obtain ⟨rfl, rfl⟩ := am_pair h
  exact am_zret d_X2_has_11 (am_z01_n hz) hF hB
theorem c_Fl_has {a1 : Int32} {v : Int32} {τ τ' : am_T} (h : Fl_has τ a1 = some (v, τ')) : am_C yX2_has cX2_has 2 (some .boolean) 1 22 [.ref 4, .int a1] (am_D τ) (some (.int v)) (am_D τ') :=
  am_enter (by decide +kernel) (Nat.le_of_ble_eq_true rfl) ⟨Nat.le_refl _, Nat.le_refl _⟩ (fun X hF hR hB => ok_Fl_has hF hR hB h)
def s_Ta_clear_0 : List am_Q := [(0, .aload_n 0, 0, 0, 0, .null), (1, .iconst 0, 0, 0, 0, .int (nI 0)), (2, .putfield 25, 9, 2, 111, .null)]
theorem t_s_Ta_clear_0 : s_Ta_clear_0.all (am_ok 9 cX9_clear) = true := by decide +kernel
theorem d_X9_clear_5 : decode cX9_clear 5 = .ok (.return_, 1) := by decide +kernel
def Ta_clear (τ : am_T) : Option (am_T) :=
  some (am_si τ 113 2 (nI 0))
set_option maxRecDepth 20000 in
theorem ok_Ta_clear {X : am_X} {τ τ' : am_T} (hF : am_F X "ShareHouse$Tape" cX9_clear 1) (hR : am_R X 0 0) (hB : am_B X none none (am_D τ')) (h : Ta_clear τ = some τ') : am_W X 1 (0, [(0, .ref 113)], [], am_D τ) := by
  unfold Ta_clear at h
  refine am_seg s_Ta_clear_0 (y := (5, [(0, .ref 113)], [], am_D (am_si τ 113 2 (nI 0)))) hF t_s_Ta_clear_0 rfl rfl ?_
  obtain rfl := am_one h
  exact am_vret d_X9_clear_5 hF hB
theorem c_Ta_clear {τ τ' : am_T} (h : Ta_clear τ = some τ') : am_C yX9_clear cX9_clear 1 none 0 0 [.ref 113] (am_D τ) none (am_D τ') :=
  am_enter (by decide +kernel) (Nat.le_of_ble_eq_true rfl) ⟨Nat.le_refl _, Nat.le_refl _⟩ (fun X hF hR hB => ok_Ta_clear hF hR hB h)
def s_Ta_step_0 : List am_Q := [(0, .aload_n 0, 0, 0, 0, .null), (1, .aload_n 0, 0, 0, 0, .null), (2, .getfield 41, 9, 5, 116, .null), (5, .putfield 54, 9, 4, 115, .null)]
theorem t_s_Ta_step_0 : s_Ta_step_0.all (am_ok 9 cX9_step) = true := by decide +kernel
def s_Ta_step_1 : List am_Q := [(8, .aload_n 0, 0, 0, 0, .null), (9, .getfield 54, 9, 4, 115, .null), (12, .aload_n 0, 0, 0, 0, .null), (13, .getfield 25, 9, 2, 111, .null)]
theorem t_s_Ta_step_1 : s_Ta_step_1.all (am_ok 9 cX9_step) = true := by decide +kernel
theorem d_X9_step_16 : decode cX9_step 16 = .ok (.if_icmp .ge 30, 3) := by decide +kernel
def s_Ta_step_2 : List am_Q := [(46, .aload_n 0, 0, 0, 0, .null), (47, .aload_n 0, 0, 0, 0, .null), (48, .getfield 54, 9, 4, 115, .null), (51, .aload_n 0, 0, 0, 0, .null), (52, .getfield 25, 9, 2, 111, .null)]
theorem t_s_Ta_step_2 : s_Ta_step_2.all (am_ok 9 cX9_step) = true := by decide +kernel
theorem d_X9_step_55 : decode cX9_step 55 = .ok (.if_icmp .ge 15, 3) := by decide +kernel
def s_Ta_step_3 : List am_Q := [(70, .iconst 0, 0, 0, 0, .int (nI 0))]
theorem t_s_Ta_step_3 : s_Ta_step_3.all (am_ok 9 cX9_step) = true := by decide +kernel
def s_Ta_step_4 : List am_Q := [(71, .putfield 47, 9, 6, 117, .null), (74, .aload_n 0, 0, 0, 0, .null), (75, .aload_n 0, 0, 0, 0, .null), (76, .getfield 47, 9, 6, 117, .null)]
theorem t_s_Ta_step_4 : s_Ta_step_4.all (am_ok 9 cX9_step) = true := by decide +kernel
theorem d_X9_step_79 : decode cX9_step 79 = .ok (.ifCond .ne 10, 3) := by decide +kernel
def s_Ta_step_5 : List am_Q := [(89, .aload_n 0, 0, 0, 0, .null), (90, .getfield 54, 9, 4, 115, .null), (93, .iconst 1, 0, 0, 0, .int (nI 1)), (94, .iadd, 0, 0, 0, .null), (95, .putfield 41, 9, 5, 116, .null)]
theorem t_s_Ta_step_5 : s_Ta_step_5.all (am_ok 9 cX9_step) = true := by decide +kernel
def s_Ta_step_6 : List am_Q := [(98, .aload_n 0, 0, 0, 0, .null), (99, .getfield 47, 9, 6, 117, .null), (102, .iconst 3, 0, 0, 0, .int (nI 3))]
theorem t_s_Ta_step_6 : s_Ta_step_6.all (am_ok 9 cX9_step) = true := by decide +kernel
theorem d_X9_step_103 : decode cX9_step 103 = .ok (.if_icmp .eq 43, 3) := by decide +kernel
theorem d_X9_step_146 : decode cX9_step 146 = .ok (.return_, 1) := by decide +kernel
def s_Ta_step_7 : List am_Q := [(106, .aload_n 0, 0, 0, 0, .null), (107, .getfield 41, 9, 5, 116, .null), (110, .aload_n 0, 0, 0, 0, .null), (111, .getfield 25, 9, 2, 111, .null)]
theorem t_s_Ta_step_7 : s_Ta_step_7.all (am_ok 9 cX9_step) = true := by decide +kernel
theorem d_X9_step_114 : decode cX9_step 114 = .ok (.if_icmp .ge 32, 3) := by decide +kernel
def s_Ta_step_8 : List am_Q := [(117, .aload_n 0, 0, 0, 0, .null), (118, .getfield 15, 9, 1, 110, .null), (121, .aload_n 0, 0, 0, 0, .null), (122, .getfield 41, 9, 5, 116, .null)]
theorem t_s_Ta_step_8 : s_Ta_step_8.all (am_ok 9 cX9_step) = true := by decide +kernel
theorem d_X9_step_125 : decode cX9_step 125 = .ok (.iaload, 1) := by decide +kernel
def s_Ta_step_9 : List am_Q := [(126, .aload_n 0, 0, 0, 0, .null), (127, .getfield 47, 9, 6, 117, .null)]
theorem t_s_Ta_step_9 : s_Ta_step_9.all (am_ok 9 cX9_step) = true := by decide +kernel
theorem d_X9_step_130 : decode cX9_step 130 = .ok (.if_icmp .ne 16, 3) := by decide +kernel
def s_Ta_step_10 : List am_Q := [(133, .aload_n 0, 0, 0, 0, .null), (134, .dup, 0, 0, 0, .null), (135, .getfield 41, 9, 5, 116, .null), (138, .iconst 1, 0, 0, 0, .int (nI 1)), (139, .iadd, 0, 0, 0, .null), (140, .putfield 41, 9, 5, 116, .null), (143, .goto (-45), 98, 0, 0, .null)]
theorem t_s_Ta_step_10 : s_Ta_step_10.all (am_ok 9 cX9_step) = true := by decide +kernel
def s_Ta_step_11 : List am_Q := [(82, .aload_n 0, 0, 0, 0, .null), (83, .getfield 54, 9, 4, 115, .null), (86, .goto 9, 95, 0, 0, .null), (95, .putfield 41, 9, 5, 116, .null)]
theorem t_s_Ta_step_11 : s_Ta_step_11.all (am_ok 9 cX9_step) = true := by decide +kernel
def s_Ta_step_12 : List am_Q := [(58, .aload_n 0, 0, 0, 0, .null), (59, .getfield 15, 9, 1, 110, .null), (62, .aload_n 0, 0, 0, 0, .null), (63, .getfield 54, 9, 4, 115, .null)]
theorem t_s_Ta_step_12 : s_Ta_step_12.all (am_ok 9 cX9_step) = true := by decide +kernel
theorem d_X9_step_66 : decode cX9_step 66 = .ok (.iaload, 1) := by decide +kernel
def s_Ta_step_13 : List am_Q := [(67, .goto 4, 71, 0, 0, .null)]
theorem t_s_Ta_step_13 : s_Ta_step_13.all (am_ok 9 cX9_step) = true := by decide +kernel
def s_Ta_step_14 : List am_Q := [(19, .aload_n 0, 0, 0, 0, .null), (20, .getfield 11, 9, 0, 109, .null), (23, .aload_n 0, 0, 0, 0, .null), (24, .getfield 54, 9, 4, 115, .null)]
theorem t_s_Ta_step_14 : s_Ta_step_14.all (am_ok 9 cX9_step) = true := by decide +kernel
theorem d_X9_step_27 : decode cX9_step 27 = .ok (.iaload, 1) := by decide +kernel
def s_Ta_step_15 : List am_Q := [(28, .bipush 32, 0, 0, 0, .int (nI 32))]
theorem t_s_Ta_step_15 : s_Ta_step_15.all (am_ok 9 cX9_step) = true := by decide +kernel
theorem d_X9_step_30 : decode cX9_step 30 = .ok (.if_icmp .ne 16, 3) := by decide +kernel
def s_Ta_step_16 : List am_Q := [(33, .aload_n 0, 0, 0, 0, .null), (34, .dup, 0, 0, 0, .null), (35, .getfield 54, 9, 4, 115, .null), (38, .iconst 1, 0, 0, 0, .int (nI 1)), (39, .iadd, 0, 0, 0, .null), (40, .putfield 54, 9, 4, 115, .null), (43, .goto (-35), 8, 0, 0, .null)]
theorem t_s_Ta_step_16 : s_Ta_step_16.all (am_ok 9 cX9_step) = true := by decide +kernel
def Ta_step_98 : Nat → am_T → Option (am_T)
  | 0, _ => none
  | n + 1, τ =>
    if (τ.1 113 6) = (nI 3) then
  (some τ)
else
  (if (τ.1 113 2) ≤ (τ.1 113 5) then
  (some τ)
else
  (am_g (am_in (τ.1 113 5) 200) (if (τ.1 115 ((τ.1 113 5).toNatClampNeg)) = (τ.1 113 6) then
  ((Ta_step_98 n) (am_si τ 113 5 ((τ.1 113 5) + (nI 1))))
else
  (some τ))))
set_option maxRecDepth 20000 in
theorem ok_Ta_step_98 {X : am_X} {τ' : am_T} (hF : am_F X "ShareHouse$Tape" cX9_step 1) (hR : am_R X 0 0) (hB : am_B X none none (am_D τ')) : ∀ (n : Nat) (τ : am_T), Ta_step_98 n τ = some τ' → am_W X 1 (98, [(0, .ref 113)], [], am_D τ) := by
  intro n
  induction n with
  | zero => intro τ h; unfold Ta_step_98 at h; cases h
  | succ n ih =>
    intro τ h
    unfold Ta_step_98 at h
    refine am_seg s_Ta_step_6 (y := (103, [(0, .ref 113)], [.int (nI 3), .int (τ.1 113 6)], am_D τ)) hF t_s_Ta_step_6 rfl rfl ?_
    refine am_ite h (fun hc h => ?_) (fun hc h => ?_)
    · refine am_icmp_eq_t (t := 146) d_X9_step_103 (by decide) hc hF ?_
      obtain rfl := am_one h
      exact am_vret d_X9_step_146 hF hB
    · refine am_icmp_eq_f (t := 146) d_X9_step_103 (by decide) hc hF ?_
      refine am_seg s_Ta_step_7 (y := (114, [(0, .ref 113)], [.int (τ.1 113 2), .int (τ.1 113 5)], am_D τ)) hF t_s_Ta_step_7 rfl rfl ?_
      refine am_ite h (fun hc h => ?_) (fun hc h => ?_)
      · refine am_icmp_ge_t (t := 146) d_X9_step_114 (by decide) hc hF ?_
        obtain rfl := am_one h
        exact am_vret d_X9_step_146 hF hB
      · refine am_icmp_ge_f (t := 146) d_X9_step_114 (by decide) hc hF ?_
        refine am_seg s_Ta_step_8 (y := (125, [(0, .ref 113)], [.int (τ.1 113 5), .ref 115], am_D τ)) hF t_s_Ta_step_8 rfl rfl ?_
        refine am_gd h (fun hi h => ?_)
        refine am_iald (n := 200) (j := ((τ.1 113 5).toNatClampNeg)) d_X9_step_125 (Nat.le_of_ble_eq_true rfl) (Nat.le_of_ble_eq_true rfl) rfl hi rfl hF ?_
        refine am_seg s_Ta_step_9 (y := (130, [(0, .ref 113)], [.int (τ.1 113 6), .int (τ.1 115 ((τ.1 113 5).toNatClampNeg))], am_D τ)) hF t_s_Ta_step_9 rfl rfl ?_
        refine am_ite h (fun hc h => ?_) (fun hc h => ?_)
        · refine am_icmp_ne_f (t := 146) d_X9_step_130 (by decide) hc hF ?_
          refine am_seg s_Ta_step_10 (y := (98, [(0, .ref 113)], [], am_D (am_si τ 113 5 ((τ.1 113 5) + (nI 1))))) hF t_s_Ta_step_10 rfl rfl ?_
          exact ih _ h
        · refine am_icmp_ne_t (t := 146) d_X9_step_130 (by decide) hc hF ?_
          obtain rfl := am_one h
          exact am_vret d_X9_step_146 hF hB
def Ta_step_71 (τ : am_T) (s0 : Int32) : Option (am_T) :=
  if ((am_si τ 113 6 s0).1 113 6) = 0 then
  (Ta_step_98 5000 (am_si (am_si τ 113 6 s0) 113 5 ((am_si τ 113 6 s0).1 113 4)))
else
  (Ta_step_98 5000 (am_si (am_si τ 113 6 s0) 113 5 (((am_si τ 113 6 s0).1 113 4) + (nI 1))))
set_option maxRecDepth 20000 in
theorem ok_Ta_step_71 {X : am_X} {τ' : am_T} (hF : am_F X "ShareHouse$Tape" cX9_step 1) (hR : am_R X 0 0) (hB : am_B X none none (am_D τ')) {τ : am_T} {s0 : Int32} (h : Ta_step_71 τ s0 = some τ') : am_W X 1 (71, [(0, .ref 113)], [.int s0, .ref 113], am_D τ) := by
  unfold Ta_step_71 at h
  refine am_seg s_Ta_step_4 (y := (79, [(0, .ref 113)], [.int ((am_si τ 113 6 s0).1 113 6), .ref 113], am_D (am_si τ 113 6 s0))) hF t_s_Ta_step_4 rfl rfl ?_
  refine am_ite h (fun hc h => ?_) (fun hc h => ?_)
  · refine am_if_ne_f (t := 89) d_X9_step_79 (by decide) hc hF ?_
    refine am_seg s_Ta_step_11 (y := (98, [(0, .ref 113)], [], am_D (am_si (am_si τ 113 6 s0) 113 5 ((am_si τ 113 6 s0).1 113 4)))) hF t_s_Ta_step_11 rfl rfl ?_
    exact ok_Ta_step_98 hF hR hB _ _ h
  · refine am_if_ne_t (t := 89) d_X9_step_79 (by decide) hc hF ?_
    refine am_seg s_Ta_step_5 (y := (98, [(0, .ref 113)], [], am_D (am_si (am_si τ 113 6 s0) 113 5 (((am_si τ 113 6 s0).1 113 4) + (nI 1))))) hF t_s_Ta_step_5 rfl rfl ?_
    exact ok_Ta_step_98 hF hR hB _ _ h
def Ta_step_46 (τ : am_T) : Option (am_T) :=
  if (τ.1 113 2) ≤ (τ.1 113 4) then
  (Ta_step_71 τ (nI 0))
else
  (am_g (am_in (τ.1 113 4) 200) (Ta_step_71 τ (τ.1 115 ((τ.1 113 4).toNatClampNeg))))
set_option maxRecDepth 20000 in
theorem ok_Ta_step_46 {X : am_X} {τ' : am_T} (hF : am_F X "ShareHouse$Tape" cX9_step 1) (hR : am_R X 0 0) (hB : am_B X none none (am_D τ')) {τ : am_T} (h : Ta_step_46 τ = some τ') : am_W X 1 (46, [(0, .ref 113)], [], am_D τ) := by
  unfold Ta_step_46 at h
  refine am_seg s_Ta_step_2 (y := (55, [(0, .ref 113)], [.int (τ.1 113 2), .int (τ.1 113 4), .ref 113], am_D τ)) hF t_s_Ta_step_2 rfl rfl ?_
  refine am_ite h (fun hc h => ?_) (fun hc h => ?_)
  · refine am_icmp_ge_t (t := 70) d_X9_step_55 (by decide) hc hF ?_
    refine am_seg s_Ta_step_3 (y := (71, [(0, .ref 113)], [.int (nI 0), .ref 113], am_D τ)) hF t_s_Ta_step_3 rfl rfl ?_
    exact ok_Ta_step_71 hF hR hB h
  · refine am_icmp_ge_f (t := 70) d_X9_step_55 (by decide) hc hF ?_
    refine am_seg s_Ta_step_12 (y := (66, [(0, .ref 113)], [.int (τ.1 113 4), .ref 115, .ref 113], am_D τ)) hF t_s_Ta_step_12 rfl rfl ?_
    refine am_gd h (fun hi h => ?_)
    refine am_iald (n := 200) (j := ((τ.1 113 4).toNatClampNeg)) d_X9_step_66 (Nat.le_of_ble_eq_true rfl) (Nat.le_of_ble_eq_true rfl) rfl hi rfl hF ?_
    refine am_seg s_Ta_step_13 (y := (71, [(0, .ref 113)], [.int (τ.1 115 ((τ.1 113 4).toNatClampNeg)), .ref 113], am_D τ)) hF t_s_Ta_step_13 rfl rfl ?_
    exact ok_Ta_step_71 hF hR hB h
def Ta_step_8 : Nat → am_T → Option (am_T)
  | 0, _ => none
  | n + 1, τ =>
    if (τ.1 113 2) ≤ (τ.1 113 4) then
  (Ta_step_46 τ)
else
  (am_g (am_in (τ.1 113 4) 200) (if (τ.1 114 ((τ.1 113 4).toNatClampNeg)) = (nI 32) then
  ((Ta_step_8 n) (am_si τ 113 4 ((τ.1 113 4) + (nI 1))))
else
  (Ta_step_46 τ)))
set_option maxRecDepth 20000 in
theorem ok_Ta_step_8 {X : am_X} {τ' : am_T} (hF : am_F X "ShareHouse$Tape" cX9_step 1) (hR : am_R X 0 0) (hB : am_B X none none (am_D τ')) : ∀ (n : Nat) (τ : am_T), Ta_step_8 n τ = some τ' → am_W X 1 (8, [(0, .ref 113)], [], am_D τ) := by
  intro n
  induction n with
  | zero => intro τ h; unfold Ta_step_8 at h; cases h
  | succ n ih =>
    intro τ h
    unfold Ta_step_8 at h
    refine am_seg s_Ta_step_1 (y := (16, [(0, .ref 113)], [.int (τ.1 113 2), .int (τ.1 113 4)], am_D τ)) hF t_s_Ta_step_1 rfl rfl ?_
    refine am_ite h (fun hc h => ?_) (fun hc h => ?_)
    · refine am_icmp_ge_t (t := 46) d_X9_step_16 (by decide) hc hF ?_
      exact ok_Ta_step_46 hF hR hB h
    · refine am_icmp_ge_f (t := 46) d_X9_step_16 (by decide) hc hF ?_
      refine am_seg s_Ta_step_14 (y := (27, [(0, .ref 113)], [.int (τ.1 113 4), .ref 114], am_D τ)) hF t_s_Ta_step_14 rfl rfl ?_
      refine am_gd h (fun hi h => ?_)
      refine am_iald (n := 200) (j := ((τ.1 113 4).toNatClampNeg)) d_X9_step_27 (Nat.le_of_ble_eq_true rfl) (Nat.le_of_ble_eq_true rfl) rfl hi rfl hF ?_
      refine am_seg s_Ta_step_15 (y := (30, [(0, .ref 113)], [.int (nI 32), .int (τ.1 114 ((τ.1 113 4).toNatClampNeg))], am_D τ)) hF t_s_Ta_step_15 rfl rfl ?_
      refine am_ite h (fun hc h => ?_) (fun hc h => ?_)
      · refine am_icmp_ne_f (t := 46) d_X9_step_30 (by decide) hc hF ?_
        refine am_seg s_Ta_step_16 (y := (8, [(0, .ref 113)], [], am_D (am_si τ 113 4 ((τ.1 113 4) + (nI 1))))) hF t_s_Ta_step_16 rfl rfl ?_
        exact ih _ h
      · refine am_icmp_ne_t (t := 46) d_X9_step_30 (by decide) hc hF ?_
        exact ok_Ta_step_46 hF hR hB h
def Ta_step (τ : am_T) : Option (am_T) :=
  Ta_step_8 5000 (am_si τ 113 4 (τ.1 113 5))
set_option maxRecDepth 20000 in
theorem ok_Ta_step {X : am_X} {τ τ' : am_T} (hF : am_F X "ShareHouse$Tape" cX9_step 1) (hR : am_R X 0 0) (hB : am_B X none none (am_D τ')) (h : Ta_step τ = some τ') : am_W X 1 (0, [(0, .ref 113)], [], am_D τ) := by
  unfold Ta_step at h
  refine am_seg s_Ta_step_0 (y := (8, [(0, .ref 113)], [], am_D (am_si τ 113 4 (τ.1 113 5)))) hF t_s_Ta_step_0 rfl rfl ?_
  exact ok_Ta_step_8 hF hR hB _ _ h
theorem c_Ta_step {τ τ' : am_T} (h : Ta_step τ = some τ') : am_C yX9_step cX9_step 1 none 0 0 [.ref 113] (am_D τ) none (am_D τ') :=
  am_enter (by decide +kernel) (Nat.le_of_ble_eq_true rfl) ⟨Nat.le_refl _, Nat.le_refl _⟩ (fun X hF hR hB => ok_Ta_step hF hR hB h)
def s_Le_put_0 : List am_Q := [(0, .aload_n 0, 0, 0, 0, .null)]
theorem t_s_Le_put_0 : s_Le_put_0.all (am_ok 4 cX4_put) = true := by decide +kernel
theorem d_X4_put_1 : decode cX4_put 1 = .ok (.getfield 19, 3) := by decide +kernel
def s_Le_put_1 : List am_Q := [(4, .bipush 12, 0, 0, 0, .int (nI 12))]
theorem t_s_Le_put_1 : s_Le_put_1.all (am_ok 4 cX4_put) = true := by decide +kernel
theorem d_X4_put_6 : decode cX4_put 6 = .ok (.if_icmp .ge 18, 3) := by decide +kernel
theorem d_X4_put_24 : decode cX4_put 24 = .ok (.return_, 1) := by decide +kernel
def s_Le_put_2 : List am_Q := [(9, .aload_n 0, 0, 0, 0, .null)]
theorem t_s_Le_put_2 : s_Le_put_2.all (am_ok 4 cX4_put) = true := by decide +kernel
theorem d_X4_put_10 : decode cX4_put 10 = .ok (.getfield 9, 3) := by decide +kernel
def s_Le_put_3 : List am_Q := [(13, .aload_n 0, 0, 0, 0, .null)]
theorem t_s_Le_put_3 : s_Le_put_3.all (am_ok 4 cX4_put) = true := by decide +kernel
theorem d_X4_put_14 : decode cX4_put 14 = .ok (.getfield 19, 3) := by decide +kernel
def s_Le_put_4 : List am_Q := [(17, .bipush 6, 0, 0, 0, .int (nI 6)), (19, .imul, 0, 0, 0, .null), (20, .iload_n 1, 0, 0, 0, .null), (21, .iadd, 0, 0, 0, .null), (22, .iload_n 2, 0, 0, 0, .null)]
theorem t_s_Le_put_4 : s_Le_put_4.all (am_ok 4 cX4_put) = true := by decide +kernel
theorem d_X4_put_23 : decode cX4_put 23 = .ok (.iastore, 1) := by decide +kernel
def Le_put (τ : am_T) (a0 : Nat) (a1 : Int32) (a2 : Int32) : Option (am_T) :=
  am_g (am_isO a0 4) (if (nI 12) ≤ (τ.1 a0 1) then
  (some τ)
else
  (am_g (am_isO a0 4) ((am_RF a0 0).bind fun q1 =>
  am_g (am_isO a0 4) (am_g (am_isI q1) (am_g (am_in (((τ.1 a0 1) * (nI 6)) + a1) (am_sh q1).2) (some (am_si τ q1 ((((τ.1 a0 1) * (nI 6)) + a1).toNatClampNeg) a2)))))))
set_option maxRecDepth 20000 in
theorem ok_Le_put {X : am_X} {a0 : Nat} {a1 : Int32} {a2 : Int32} {τ τ' : am_T} (hF : am_F X "ShareHouse$Lease" cX4_put 3) (hR : am_R X 0 0) (hB : am_B X none none (am_D τ')) (h : Le_put τ a0 a1 a2 = some τ') : am_W X 3 (0, [(0, .ref a0), (1, .int a1), (2, .int a2)], [], am_D τ) := by
  unfold Le_put at h
  refine am_seg s_Le_put_0 (y := (1, [(0, .ref a0), (1, .int a1), (2, .int a2)], [.ref a0], am_D τ)) hF t_s_Le_put_0 rfl rfl ?_
  refine am_gd h (fun hg h => ?_)
  refine am_get (b := 1) (v := .int (τ.1 a0 1)) d_X4_put_1 (am_isO_of hg).1 (am_isO_of hg).2.1 (am_isO_of hg).2.2 rfl (Nat.le_of_ble_eq_true rfl) am_fl1 rfl hF ?_
  refine am_seg s_Le_put_1 (y := (6, [(0, .ref a0), (1, .int a1), (2, .int a2)], [.int (nI 12), .int (τ.1 a0 1)], am_D τ)) hF t_s_Le_put_1 rfl rfl ?_
  refine am_ite h (fun hc h => ?_) (fun hc h => ?_)
  · refine am_icmp_ge_t (t := 24) d_X4_put_6 (by decide) hc hF ?_
    obtain rfl := am_one h
    exact am_vret d_X4_put_24 hF hB
  · refine am_icmp_ge_f (t := 24) d_X4_put_6 (by decide) hc hF ?_
    refine am_seg s_Le_put_2 (y := (10, [(0, .ref a0), (1, .int a1), (2, .int a2)], [.ref a0], am_D τ)) hF t_s_Le_put_2 rfl rfl ?_
    refine am_gd h (fun hg h => ?_)
    refine am_bd h (fun q1 hq h => ?_)
    refine am_get (b := 0) (v := .ref q1) d_X4_put_10 (am_isO_of hg).1 (am_isO_of hg).2.1 (am_isO_of hg).2.2 rfl (Nat.le_of_ble_eq_true rfl) am_fl0 (by show (am_RF _ _).map Value.ref = _; rw [hq]; rfl) hF ?_
    refine am_seg s_Le_put_3 (y := (14, [(0, .ref a0), (1, .int a1), (2, .int a2)], [.ref a0, .ref q1], am_D τ)) hF t_s_Le_put_3 rfl rfl ?_
    refine am_gd h (fun hg h => ?_)
    refine am_get (b := 1) (v := .int (τ.1 a0 1)) d_X4_put_14 (am_isO_of hg).1 (am_isO_of hg).2.1 (am_isO_of hg).2.2 rfl (Nat.le_of_ble_eq_true rfl) am_fl1 rfl hF ?_
    refine am_seg s_Le_put_4 (y := (23, [(0, .ref a0), (1, .int a1), (2, .int a2)], [.int a2, .int (((τ.1 a0 1) * (nI 6)) + a1), .ref q1], am_D τ)) hF t_s_Le_put_4 rfl rfl ?_
    refine am_gd h (fun hg h => ?_)
    refine am_gd h (fun hi h => ?_)
    refine am_iast (n := (am_sh q1).2) (j := ((((τ.1 a0 1) * (nI 6)) + a1).toNatClampNeg)) d_X4_put_23 (am_isI_of hg).1 (am_isI_of hg).2.1 (am_isI_of hg).2.2 hi rfl hF ?_
    obtain rfl := am_one h
    exact am_vret d_X4_put_24 hF hB
theorem c_Le_put {a0 : Nat} {a1 : Int32} {a2 : Int32} {τ τ' : am_T} (h : Le_put τ a0 a1 a2 = some τ') : am_C yX4_put cX4_put 3 none 0 0 [.ref a0, .int a1, .int a2] (am_D τ) none (am_D τ') :=
  am_enter (by decide +kernel) (Nat.le_of_ble_eq_true rfl) ⟨Nat.le_refl _, Nat.le_refl _⟩ (fun X hF hR hB => ok_Le_put hF hR hB h)
def s_Ta_isAtHand_0 : List am_Q := [(0, .aload_n 0, 0, 0, 0, .null), (1, .getfield 47, 9, 6, 117, .null), (4, .iconst 1, 0, 0, 0, .int (nI 1))]
theorem t_s_Ta_isAtHand_0 : s_Ta_isAtHand_0.all (am_ok 9 cX9_isAtHand) = true := by decide +kernel
theorem d_X9_isAtHand_5 : decode cX9_isAtHand 5 = .ok (.if_icmp .ne 19, 3) := by decide +kernel
def s_Ta_isAtHand_1 : List am_Q := [(24, .iconst 0, 0, 0, 0, .int (nI 0))]
theorem t_s_Ta_isAtHand_1 : s_Ta_isAtHand_1.all (am_ok 9 cX9_isAtHand) = true := by decide +kernel
theorem d_X9_isAtHand_25 : decode cX9_isAtHand 25 = .ok (.ireturn, 1) := by decide +kernel
def s_Ta_isAtHand_2 : List am_Q := [(8, .aload_n 0, 0, 0, 0, .null), (9, .getfield 41, 9, 5, 116, .null), (12, .aload_n 0, 0, 0, 0, .null), (13, .getfield 54, 9, 4, 115, .null), (16, .isub, 0, 0, 0, .null), (17, .aload_n 1, 0, 0, 0, .null)]
theorem t_s_Ta_isAtHand_2 : s_Ta_isAtHand_2.all (am_ok 9 cX9_isAtHand) = true := by decide +kernel
theorem d_X9_isAtHand_18 : decode cX9_isAtHand 18 = .ok (.invokevirtual 142, 3) := by decide +kernel
theorem d_X9_isAtHand_21 : decode cX9_isAtHand 21 = .ok (.if_icmp .eq 5, 3) := by decide +kernel
def s_Ta_isAtHand_3 : List am_Q := [(26, .iconst 0, 0, 0, 0, .int (nI 0)), (27, .istore_n 2, 0, 0, 0, .null)]
theorem t_s_Ta_isAtHand_3 : s_Ta_isAtHand_3.all (am_ok 9 cX9_isAtHand) = true := by decide +kernel
def s_Ta_isAtHand_4 : List am_Q := [(28, .iload_n 2, 0, 0, 0, .null), (29, .aload_n 1, 0, 0, 0, .null)]
theorem t_s_Ta_isAtHand_4 : s_Ta_isAtHand_4.all (am_ok 9 cX9_isAtHand) = true := by decide +kernel
theorem d_X9_isAtHand_30 : decode cX9_isAtHand 30 = .ok (.invokevirtual 142, 3) := by decide +kernel
theorem d_X9_isAtHand_33 : decode cX9_isAtHand 33 = .ok (.if_icmp .ge 30, 3) := by decide +kernel
def s_Ta_isAtHand_5 : List am_Q := [(63, .iconst 1, 0, 0, 0, .int (nI 1))]
theorem t_s_Ta_isAtHand_5 : s_Ta_isAtHand_5.all (am_ok 9 cX9_isAtHand) = true := by decide +kernel
theorem d_X9_isAtHand_64 : decode cX9_isAtHand 64 = .ok (.ireturn, 1) := by decide +kernel
def s_Ta_isAtHand_6 : List am_Q := [(36, .aload_n 0, 0, 0, 0, .null), (37, .getfield 11, 9, 0, 109, .null), (40, .aload_n 0, 0, 0, 0, .null), (41, .getfield 54, 9, 4, 115, .null), (44, .iload_n 2, 0, 0, 0, .null), (45, .iadd, 0, 0, 0, .null)]
theorem t_s_Ta_isAtHand_6 : s_Ta_isAtHand_6.all (am_ok 9 cX9_isAtHand) = true := by decide +kernel
theorem d_X9_isAtHand_46 : decode cX9_isAtHand 46 = .ok (.iaload, 1) := by decide +kernel
def s_Ta_isAtHand_7 : List am_Q := [(47, .aload_n 1, 0, 0, 0, .null), (48, .iload_n 2, 0, 0, 0, .null)]
theorem t_s_Ta_isAtHand_7 : s_Ta_isAtHand_7.all (am_ok 9 cX9_isAtHand) = true := by decide +kernel
theorem d_X9_isAtHand_49 : decode cX9_isAtHand 49 = .ok (.invokevirtual 147, 3) := by decide +kernel
theorem d_X9_isAtHand_52 : decode cX9_isAtHand 52 = .ok (.if_icmp .eq 5, 3) := by decide +kernel
def s_Ta_isAtHand_8 : List am_Q := [(57, .iinc 2 1, 0, 0, 0, .int (nI 1)), (60, .goto (-32), 28, 0, 0, .null)]
theorem t_s_Ta_isAtHand_8 : s_Ta_isAtHand_8.all (am_ok 9 cX9_isAtHand) = true := by decide +kernel
def s_Ta_isAtHand_9 : List am_Q := [(55, .iconst 0, 0, 0, 0, .int (nI 0))]
theorem t_s_Ta_isAtHand_9 : s_Ta_isAtHand_9.all (am_ok 9 cX9_isAtHand) = true := by decide +kernel
theorem d_X9_isAtHand_56 : decode cX9_isAtHand 56 = .ok (.ireturn, 1) := by decide +kernel
def s_Ta_isAtHand_10 : List am_Q := [(24, .iconst 0, 0, 0, 0, .int (nI 0))]
theorem t_s_Ta_isAtHand_10 : s_Ta_isAtHand_10.all (am_ok 9 cX9_isAtHand) = true := by decide +kernel
def Ta_isAtHand_28 : Nat → am_T → Nat → Int32 → Option (Int32 × am_T)
  | 0, _, _, _ => none
  | n + 1, τ, a1, a2 =>
    (S_length τ a1).bind (fun x2 =>
  if x2.1 ≤ a2 then
  (some ((nI 1), x2.2))
else
  (am_g (am_in ((x2.2.1 113 4) + a2) 200) ((S_charAt x2.2 a1 a2).bind (fun x3 =>
  if (x2.2.1 114 (((x2.2.1 113 4) + a2).toNatClampNeg)) = x3.1 then
  ((Ta_isAtHand_28 n) x3.2 a1 (a2 + (nI 1)))
else
  (some ((nI 0), x3.2))))))
set_option maxRecDepth 20000 in
theorem ok_Ta_isAtHand_28 {X : am_X} {v : Int32} {τ' : am_T} (hF : am_F X "ShareHouse$Tape" cX9_isAtHand 3) (hR : am_R X 4 85) (hB : am_B X (some .boolean) (some (.int v)) (am_D τ')) : ∀ (n : Nat) (τ : am_T) (a1 : Nat) (a2 : Int32), Ta_isAtHand_28 n τ a1 a2 = some (v, τ') → am_W X 3 (28, [(0, .ref 113), (1, .ref a1), (2, .int a2)], [], am_D τ) := by
  intro n
  induction n with
  | zero => intro τ a1 a2 h; unfold Ta_isAtHand_28 at h; cases h
  | succ n ih =>
    intro τ a1 a2 h
    unfold Ta_isAtHand_28 at h
    refine am_seg s_Ta_isAtHand_4 (y := (30, [(0, .ref 113), (1, .ref a1), (2, .int a2)], [.ref a1, .int a2], am_D τ)) hF t_s_Ta_isAtHand_4 rfl rfl ?_
    refine am_bd h (fun x2 hx h => ?_)
    refine am_callStr (As := []) (r := (some (.int x2.1))) (st := [.int a2]) (σ' := am_D x2.2) hF hR d_X9_isAtHand_30 (c_S_length (τ' := x2.2) hx) (S_length_rng hx) (Nat.le_refl _) (Nat.le_refl _) wl_Ta_142 wi_yJ0_length_8abf5 we_yJ0_length_8abf5 wn_java_lang_String wc_yJ0_length_8abf5 wy_yJ0_length_8abf5 rfl ⟨by decide, by decide⟩ (Nat.le_of_ble_eq_true rfl) rfl ?_
    refine am_ite h (fun hc h => ?_) (fun hc h => ?_)
    · refine am_icmp_ge_t (t := 63) d_X9_isAtHand_33 (by decide) hc hF ?_
      refine am_seg s_Ta_isAtHand_5 (y := (64, [(0, .ref 113), (1, .ref a1), (2, .int a2)], [.int (nI 1)], am_D x2.2)) hF t_s_Ta_isAtHand_5 rfl rfl ?_
      obtain ⟨rfl, rfl⟩ := am_pair h
      exact am_zret d_X9_isAtHand_64 rfl hF hB
    · refine am_icmp_ge_f (t := 63) d_X9_isAtHand_33 (by decide) hc hF ?_
      refine am_seg s_Ta_isAtHand_6 (y := (46, [(0, .ref 113), (1, .ref a1), (2, .int a2)], [.int ((x2.2.1 113 4) + a2), .ref 114], am_D x2.2)) hF t_s_Ta_isAtHand_6 rfl rfl ?_
      refine am_gd h (fun hi h => ?_)
      refine am_iald (n := 200) (j := (((x2.2.1 113 4) + a2).toNatClampNeg)) d_X9_isAtHand_46 (Nat.le_of_ble_eq_true rfl) (Nat.le_of_ble_eq_true rfl) rfl hi rfl hF ?_
      refine am_seg s_Ta_isAtHand_7 (y := (49, [(0, .ref 113), (1, .ref a1), (2, .int a2)], [.int a2, .ref a1, .int (x2.2.1 114 (((x2.2.1 113 4) + a2).toNatClampNeg))], am_D x2.2)) hF t_s_Ta_isAtHand_7 rfl rfl ?_
      refine am_bd h (fun x3 hx h => ?_)
      refine am_callStr (As := [.int a2]) (r := (some (.int x3.1))) (st := [.int (x2.2.1 114 (((x2.2.1 113 4) + a2).toNatClampNeg))]) (σ' := am_D x3.2) hF hR d_X9_isAtHand_49 (c_S_charAt (τ' := x3.2) hx) (S_charAt_rng hx) (Nat.le_refl _) (Nat.le_refl _) wl_Ta_147 wi_yJ0_charAt_5068e we_yJ0_charAt_5068e wn_java_lang_String wc_yJ0_charAt_5068e wy_yJ0_charAt_5068e rfl ⟨by decide, by decide⟩ (Nat.le_of_ble_eq_true rfl) rfl ?_
      refine am_ite h (fun hc h => ?_) (fun hc h => ?_)
      · refine am_icmp_eq_t (t := 57) d_X9_isAtHand_52 (by decide) hc hF ?_
        refine am_seg s_Ta_isAtHand_8 (y := (28, [(2, .int (a2 + (nI 1))), (0, .ref 113), (1, .ref a1)], [], am_D x3.2)) hF t_s_Ta_isAtHand_8 rfl rfl ?_
        refine am_pick [1, 2, 0] rfl ?_
        exact ih _ _ _ h
      · refine am_icmp_eq_f (t := 57) d_X9_isAtHand_52 (by decide) hc hF ?_
        refine am_seg s_Ta_isAtHand_9 (y := (56, [(0, .ref 113), (1, .ref a1), (2, .int a2)], [.int (nI 0)], am_D x3.2)) hF t_s_Ta_isAtHand_9 rfl rfl ?_
        obtain ⟨rfl, rfl⟩ := am_pair h
        exact am_zret d_X9_isAtHand_56 rfl hF hB
def Ta_isAtHand (τ : am_T) (a1 : Nat) : Option (Int32 × am_T) :=
  if (τ.1 113 6) = (nI 1) then
  ((S_length τ a1).bind (fun x1 =>
  if ((τ.1 113 5) - (τ.1 113 4)) = x1.1 then
  (Ta_isAtHand_28 5000 x1.2 a1 (nI 0))
else
  (some ((nI 0), x1.2))))
else
  (some ((nI 0), τ))
set_option maxRecDepth 20000 in
theorem ok_Ta_isAtHand {X : am_X} {a1 : Nat} {v : Int32} {τ τ' : am_T} (hF : am_F X "ShareHouse$Tape" cX9_isAtHand 3) (hR : am_R X 4 85) (hB : am_B X (some .boolean) (some (.int v)) (am_D τ')) (h : Ta_isAtHand τ a1 = some (v, τ')) : am_W X 3 (0, [(0, .ref 113), (1, .ref a1)], [], am_D τ) := by
  unfold Ta_isAtHand at h
  refine am_seg s_Ta_isAtHand_0 (y := (5, [(0, .ref 113), (1, .ref a1)], [.int (nI 1), .int (τ.1 113 6)], am_D τ)) hF t_s_Ta_isAtHand_0 rfl rfl ?_
  refine am_ite h (fun hc h => ?_) (fun hc h => ?_)
  · refine am_icmp_ne_f (t := 24) d_X9_isAtHand_5 (by decide) hc hF ?_
    refine am_seg s_Ta_isAtHand_2 (y := (18, [(0, .ref 113), (1, .ref a1)], [.ref a1, .int ((τ.1 113 5) - (τ.1 113 4))], am_D τ)) hF t_s_Ta_isAtHand_2 rfl rfl ?_
    refine am_bd h (fun x1 hx h => ?_)
    refine am_callStr (As := []) (r := (some (.int x1.1))) (st := [.int ((τ.1 113 5) - (τ.1 113 4))]) (σ' := am_D x1.2) hF hR d_X9_isAtHand_18 (c_S_length (τ' := x1.2) hx) (S_length_rng hx) (Nat.le_refl _) (Nat.le_refl _) wl_Ta_142 wi_yJ0_length_8abf5 we_yJ0_length_8abf5 wn_java_lang_String wc_yJ0_length_8abf5 wy_yJ0_length_8abf5 rfl ⟨by decide, by decide⟩ (Nat.le_of_ble_eq_true rfl) rfl ?_
    refine am_ite h (fun hc h => ?_) (fun hc h => ?_)
    · refine am_icmp_eq_t (t := 26) d_X9_isAtHand_21 (by decide) hc hF ?_
      refine am_seg s_Ta_isAtHand_3 (y := (28, [(2, .int (nI 0)), (0, .ref 113), (1, .ref a1)], [], am_D x1.2)) hF t_s_Ta_isAtHand_3 rfl rfl ?_
      refine am_pick [1, 2, 0] rfl ?_
      exact ok_Ta_isAtHand_28 hF hR hB _ _ _ _ h
    · refine am_icmp_eq_f (t := 26) d_X9_isAtHand_21 (by decide) hc hF ?_
      refine am_seg s_Ta_isAtHand_10 (y := (25, [(0, .ref 113), (1, .ref a1)], [.int (nI 0)], am_D x1.2)) hF t_s_Ta_isAtHand_10 rfl rfl ?_
      obtain ⟨rfl, rfl⟩ := am_pair h
      exact am_zret d_X9_isAtHand_25 rfl hF hB
  · refine am_icmp_ne_t (t := 24) d_X9_isAtHand_5 (by decide) hc hF ?_
    refine am_seg s_Ta_isAtHand_1 (y := (25, [(0, .ref 113), (1, .ref a1)], [.int (nI 0)], am_D τ)) hF t_s_Ta_isAtHand_1 rfl rfl ?_
    obtain ⟨rfl, rfl⟩ := am_pair h
    exact am_zret d_X9_isAtHand_25 rfl hF hB
theorem c_Ta_isAtHand {a1 : Nat} {v : Int32} {τ τ' : am_T} (h : Ta_isAtHand τ a1 = some (v, τ')) : am_C yX9_isAtHand cX9_isAtHand 3 (some .boolean) 4 85 [.ref 113, .ref a1] (am_D τ) (some (.int v)) (am_D τ') :=
  am_enter (by decide +kernel) (Nat.le_of_ble_eq_true rfl) ⟨Nat.le_refl _, Nat.le_refl _⟩ (fun X hF hR hB => ok_Ta_isAtHand hF hR hB h)
def s_Ta_take_0 : List am_Q := [(0, .aload_n 0, 0, 0, 0, .null), (1, .aload_n 1, 0, 0, 0, .null)]
theorem t_s_Ta_take_0 : s_Ta_take_0.all (am_ok 9 cX9_take) = true := by decide +kernel
theorem d_X9_take_2 : decode cX9_take 2 = .ok (.invokevirtual 94, 3) := by decide +kernel
theorem d_X9_take_5 : decode cX9_take 5 = .ok (.ifCond .ne 5, 3) := by decide +kernel
def s_Ta_take_1 : List am_Q := [(10, .aload_n 0, 0, 0, 0, .null)]
theorem t_s_Ta_take_1 : s_Ta_take_1.all (am_ok 9 cX9_take) = true := by decide +kernel
theorem d_X9_take_11 : decode cX9_take 11 = .ok (.invokevirtual 44, 3) := by decide +kernel
def s_Ta_take_2 : List am_Q := [(14, .iconst 1, 0, 0, 0, .int (nI 1))]
theorem t_s_Ta_take_2 : s_Ta_take_2.all (am_ok 9 cX9_take) = true := by decide +kernel
theorem d_X9_take_15 : decode cX9_take 15 = .ok (.ireturn, 1) := by decide +kernel
def s_Ta_take_3 : List am_Q := [(8, .iconst 0, 0, 0, 0, .int (nI 0))]
theorem t_s_Ta_take_3 : s_Ta_take_3.all (am_ok 9 cX9_take) = true := by decide +kernel
theorem d_X9_take_9 : decode cX9_take 9 = .ok (.ireturn, 1) := by decide +kernel
def Ta_take (τ : am_T) (a1 : Nat) : Option (Int32 × am_T) :=
  (Ta_isAtHand τ a1).bind (fun x1 =>
  if x1.1 = 0 then
  (some ((nI 0), x1.2))
else
  ((Ta_step x1.2).bind (fun x2 =>
  some ((nI 1), x2))))
set_option maxRecDepth 20000 in
theorem ok_Ta_take {X : am_X} {a1 : Nat} {v : Int32} {τ τ' : am_T} (hF : am_F X "ShareHouse$Tape" cX9_take 2) (hR : am_R X 5 107) (hB : am_B X (some .boolean) (some (.int v)) (am_D τ')) (h : Ta_take τ a1 = some (v, τ')) : am_W X 2 (0, [(0, .ref 113), (1, .ref a1)], [], am_D τ) := by
  unfold Ta_take at h
  refine am_seg s_Ta_take_0 (y := (2, [(0, .ref 113), (1, .ref a1)], [.ref a1, .ref 113], am_D τ)) hF t_s_Ta_take_0 rfl rfl ?_
  refine am_bd h (fun x1 hx h => ?_)
  refine am_callV (As := [.ref a1]) (r := (some (.int x1.1))) (st := []) (σ' := am_D x1.2) (ci := 9) hF hR d_X9_take_2 (c_Ta_isAtHand (τ' := x1.2) hx) (Nat.le_refl _) (Nat.le_refl _) wl_Ta_94 wi_yX9_isAtHand we_yX9_isAtHand wn_ShareHouse_Tape wc_yX9_isAtHand (Nat.le_of_ble_eq_true rfl) (Nat.le_of_ble_eq_true rfl) rfl rfl wy_yX9_isAtHand rfl ⟨by decide, by decide⟩ (Nat.le_of_ble_eq_true rfl) ?_
  refine am_ite h (fun hc h => ?_) (fun hc h => ?_)
  · refine am_if_ne_f (t := 10) d_X9_take_5 (by decide) hc hF ?_
    refine am_seg s_Ta_take_3 (y := (9, [(0, .ref 113), (1, .ref a1)], [.int (nI 0)], am_D x1.2)) hF t_s_Ta_take_3 rfl rfl ?_
    obtain ⟨rfl, rfl⟩ := am_pair h
    exact am_zret d_X9_take_9 rfl hF hB
  · refine am_if_ne_t (t := 10) d_X9_take_5 (by decide) hc hF ?_
    refine am_seg s_Ta_take_1 (y := (11, [(0, .ref 113), (1, .ref a1)], [.ref 113], am_D x1.2)) hF t_s_Ta_take_1 rfl rfl ?_
    refine am_bd h (fun x2 hx h => ?_)
    refine am_callV (As := []) (r := none) (st := []) (σ' := am_D x2) (ci := 9) hF hR d_X9_take_11 (c_Ta_step (τ' := x2) hx) (Nat.le_refl _) (Nat.le_refl _) wl_Ta_44 wi_yX9_step we_yX9_step wn_ShareHouse_Tape wc_yX9_step (Nat.le_of_ble_eq_true rfl) (Nat.le_of_ble_eq_true rfl) rfl rfl wy_yX9_step rfl ⟨by decide, by decide⟩ (Nat.le_of_ble_eq_true rfl) ?_
    refine am_seg s_Ta_take_2 (y := (15, [(0, .ref 113), (1, .ref a1)], [.int (nI 1)], am_D x2)) hF t_s_Ta_take_2 rfl rfl ?_
    obtain ⟨rfl, rfl⟩ := am_pair h
    exact am_zret d_X9_take_15 rfl hF hB
theorem c_Ta_take {a1 : Nat} {v : Int32} {τ τ' : am_T} (h : Ta_take τ a1 = some (v, τ')) : am_C yX9_take cX9_take 2 (some .boolean) 5 107 [.ref 113, .ref a1] (am_D τ) (some (.int v)) (am_D τ') :=
  am_enter (by decide +kernel) (Nat.le_of_ble_eq_true rfl) ⟨Nat.le_refl _, Nat.le_refl _⟩ (fun X hF hR hB => ok_Ta_take hF hR hB h)
def s_Ta_headAtHand_0 : List am_Q := [(0, .aload_n 0, 0, 0, 0, .null), (1, .ldc 92, 1, 0, 0, .ref 1001)]
theorem t_s_Ta_headAtHand_0 : s_Ta_headAtHand_0.all (am_ok 9 cX9_headAtHand) = true := by decide +kernel
theorem d_X9_headAtHand_3 : decode cX9_headAtHand 3 = .ok (.invokevirtual 94, 3) := by decide +kernel
theorem d_X9_headAtHand_6 : decode cX9_headAtHand 6 = .ok (.ifCond .eq 5, 3) := by decide +kernel
def s_Ta_headAtHand_1 : List am_Q := [(11, .aload_n 0, 0, 0, 0, .null), (12, .ldc 97, 2, 0, 0, .ref 1002)]
theorem t_s_Ta_headAtHand_1 : s_Ta_headAtHand_1.all (am_ok 9 cX9_headAtHand) = true := by decide +kernel
theorem d_X9_headAtHand_14 : decode cX9_headAtHand 14 = .ok (.invokevirtual 94, 3) := by decide +kernel
theorem d_X9_headAtHand_17 : decode cX9_headAtHand 17 = .ok (.ifCond .eq 5, 3) := by decide +kernel
def s_Ta_headAtHand_2 : List am_Q := [(22, .aload_n 0, 0, 0, 0, .null), (23, .ldc 99, 3, 0, 0, .ref 1003)]
theorem t_s_Ta_headAtHand_2 : s_Ta_headAtHand_2.all (am_ok 9 cX9_headAtHand) = true := by decide +kernel
theorem d_X9_headAtHand_25 : decode cX9_headAtHand 25 = .ok (.invokevirtual 94, 3) := by decide +kernel
theorem d_X9_headAtHand_28 : decode cX9_headAtHand 28 = .ok (.ifCond .eq 5, 3) := by decide +kernel
def s_Ta_headAtHand_3 : List am_Q := [(33, .aload_n 0, 0, 0, 0, .null), (34, .ldc 101, 4, 0, 0, .ref 1004)]
theorem t_s_Ta_headAtHand_3 : s_Ta_headAtHand_3.all (am_ok 9 cX9_headAtHand) = true := by decide +kernel
theorem d_X9_headAtHand_36 : decode cX9_headAtHand 36 = .ok (.invokevirtual 94, 3) := by decide +kernel
theorem d_X9_headAtHand_39 : decode cX9_headAtHand 39 = .ok (.ifCond .eq 5, 3) := by decide +kernel
def s_Ta_headAtHand_4 : List am_Q := [(44, .aload_n 0, 0, 0, 0, .null), (45, .ldc 103, 5, 0, 0, .ref 1005)]
theorem t_s_Ta_headAtHand_4 : s_Ta_headAtHand_4.all (am_ok 9 cX9_headAtHand) = true := by decide +kernel
theorem d_X9_headAtHand_47 : decode cX9_headAtHand 47 = .ok (.invokevirtual 94, 3) := by decide +kernel
theorem d_X9_headAtHand_50 : decode cX9_headAtHand 50 = .ok (.ifCond .eq 5, 3) := by decide +kernel
def s_Ta_headAtHand_5 : List am_Q := [(55, .aload_n 0, 0, 0, 0, .null), (56, .ldc 105, 6, 0, 0, .ref 1006)]
theorem t_s_Ta_headAtHand_5 : s_Ta_headAtHand_5.all (am_ok 9 cX9_headAtHand) = true := by decide +kernel
theorem d_X9_headAtHand_58 : decode cX9_headAtHand 58 = .ok (.invokevirtual 94, 3) := by decide +kernel
theorem d_X9_headAtHand_61 : decode cX9_headAtHand 61 = .ok (.ifCond .eq 7, 3) := by decide +kernel
def s_Ta_headAtHand_6 : List am_Q := [(68, .iconst (-1), 0, 0, 0, .int (-1 : Int32))]
theorem t_s_Ta_headAtHand_6 : s_Ta_headAtHand_6.all (am_ok 9 cX9_headAtHand) = true := by decide +kernel
theorem d_X9_headAtHand_69 : decode cX9_headAtHand 69 = .ok (.ireturn, 1) := by decide +kernel
def s_Ta_headAtHand_7 : List am_Q := [(64, .iconst 5, 0, 0, 0, .int (nI 5)), (65, .goto 4, 69, 0, 0, .null)]
theorem t_s_Ta_headAtHand_7 : s_Ta_headAtHand_7.all (am_ok 9 cX9_headAtHand) = true := by decide +kernel
def s_Ta_headAtHand_8 : List am_Q := [(53, .iconst 4, 0, 0, 0, .int (nI 4))]
theorem t_s_Ta_headAtHand_8 : s_Ta_headAtHand_8.all (am_ok 9 cX9_headAtHand) = true := by decide +kernel
theorem d_X9_headAtHand_54 : decode cX9_headAtHand 54 = .ok (.ireturn, 1) := by decide +kernel
def s_Ta_headAtHand_9 : List am_Q := [(42, .iconst 3, 0, 0, 0, .int (nI 3))]
theorem t_s_Ta_headAtHand_9 : s_Ta_headAtHand_9.all (am_ok 9 cX9_headAtHand) = true := by decide +kernel
theorem d_X9_headAtHand_43 : decode cX9_headAtHand 43 = .ok (.ireturn, 1) := by decide +kernel
def s_Ta_headAtHand_10 : List am_Q := [(31, .iconst 2, 0, 0, 0, .int (nI 2))]
theorem t_s_Ta_headAtHand_10 : s_Ta_headAtHand_10.all (am_ok 9 cX9_headAtHand) = true := by decide +kernel
theorem d_X9_headAtHand_32 : decode cX9_headAtHand 32 = .ok (.ireturn, 1) := by decide +kernel
def s_Ta_headAtHand_11 : List am_Q := [(20, .iconst 1, 0, 0, 0, .int (nI 1))]
theorem t_s_Ta_headAtHand_11 : s_Ta_headAtHand_11.all (am_ok 9 cX9_headAtHand) = true := by decide +kernel
theorem d_X9_headAtHand_21 : decode cX9_headAtHand 21 = .ok (.ireturn, 1) := by decide +kernel
def s_Ta_headAtHand_12 : List am_Q := [(9, .iconst 0, 0, 0, 0, .int (nI 0))]
theorem t_s_Ta_headAtHand_12 : s_Ta_headAtHand_12.all (am_ok 9 cX9_headAtHand) = true := by decide +kernel
theorem d_X9_headAtHand_10 : decode cX9_headAtHand 10 = .ok (.ireturn, 1) := by decide +kernel
def Ta_headAtHand (τ : am_T) : Option (Int32 × am_T) :=
  (Ta_isAtHand τ 1001).bind (fun x1 =>
  if x1.1 = 0 then
  ((Ta_isAtHand x1.2 1002).bind (fun x2 =>
  if x2.1 = 0 then
  ((Ta_isAtHand x2.2 1003).bind (fun x3 =>
  if x3.1 = 0 then
  ((Ta_isAtHand x3.2 1004).bind (fun x4 =>
  if x4.1 = 0 then
  ((Ta_isAtHand x4.2 1005).bind (fun x5 =>
  if x5.1 = 0 then
  ((Ta_isAtHand x5.2 1006).bind (fun x6 =>
  if x6.1 = 0 then
  (some ((-1 : Int32), x6.2))
else
  (some ((nI 5), x6.2))))
else
  (some ((nI 4), x5.2))))
else
  (some ((nI 3), x4.2))))
else
  (some ((nI 2), x3.2))))
else
  (some ((nI 1), x2.2))))
else
  (some ((nI 0), x1.2)))
set_option maxRecDepth 20000 in
theorem ok_Ta_headAtHand {X : am_X} {v : Int32} {τ τ' : am_T} (hF : am_F X "ShareHouse$Tape" cX9_headAtHand 1) (hR : am_R X 5 107) (hB : am_B X (some .int) (some (.int v)) (am_D τ')) (h : Ta_headAtHand τ = some (v, τ')) : am_W X 1 (0, [(0, .ref 113)], [], am_D τ) := by
  unfold Ta_headAtHand at h
  refine am_seg s_Ta_headAtHand_0 (y := (3, [(0, .ref 113)], [.ref 1001, .ref 113], am_D τ)) hF t_s_Ta_headAtHand_0 rfl rfl ?_
  refine am_bd h (fun x1 hx h => ?_)
  refine am_callV (As := [.ref 1001]) (r := (some (.int x1.1))) (st := []) (σ' := am_D x1.2) (ci := 9) hF hR d_X9_headAtHand_3 (c_Ta_isAtHand (τ' := x1.2) hx) (Nat.le_refl _) (Nat.le_refl _) wl_Ta_94 wi_yX9_isAtHand we_yX9_isAtHand wn_ShareHouse_Tape wc_yX9_isAtHand (Nat.le_of_ble_eq_true rfl) (Nat.le_of_ble_eq_true rfl) rfl rfl wy_yX9_isAtHand rfl ⟨by decide, by decide⟩ (Nat.le_of_ble_eq_true rfl) ?_
  refine am_ite h (fun hc h => ?_) (fun hc h => ?_)
  · refine am_if_eq_t (t := 11) d_X9_headAtHand_6 (by decide) hc hF ?_
    refine am_seg s_Ta_headAtHand_1 (y := (14, [(0, .ref 113)], [.ref 1002, .ref 113], am_D x1.2)) hF t_s_Ta_headAtHand_1 rfl rfl ?_
    refine am_bd h (fun x2 hx h => ?_)
    refine am_callV (As := [.ref 1002]) (r := (some (.int x2.1))) (st := []) (σ' := am_D x2.2) (ci := 9) hF hR d_X9_headAtHand_14 (c_Ta_isAtHand (τ' := x2.2) hx) (Nat.le_refl _) (Nat.le_refl _) wl_Ta_94 wi_yX9_isAtHand we_yX9_isAtHand wn_ShareHouse_Tape wc_yX9_isAtHand (Nat.le_of_ble_eq_true rfl) (Nat.le_of_ble_eq_true rfl) rfl rfl wy_yX9_isAtHand rfl ⟨by decide, by decide⟩ (Nat.le_of_ble_eq_true rfl) ?_
    refine am_ite h (fun hc h => ?_) (fun hc h => ?_)
    · refine am_if_eq_t (t := 22) d_X9_headAtHand_17 (by decide) hc hF ?_
      refine am_seg s_Ta_headAtHand_2 (y := (25, [(0, .ref 113)], [.ref 1003, .ref 113], am_D x2.2)) hF t_s_Ta_headAtHand_2 rfl rfl ?_
      refine am_bd h (fun x3 hx h => ?_)
      refine am_callV (As := [.ref 1003]) (r := (some (.int x3.1))) (st := []) (σ' := am_D x3.2) (ci := 9) hF hR d_X9_headAtHand_25 (c_Ta_isAtHand (τ' := x3.2) hx) (Nat.le_refl _) (Nat.le_refl _) wl_Ta_94 wi_yX9_isAtHand we_yX9_isAtHand wn_ShareHouse_Tape wc_yX9_isAtHand (Nat.le_of_ble_eq_true rfl) (Nat.le_of_ble_eq_true rfl) rfl rfl wy_yX9_isAtHand rfl ⟨by decide, by decide⟩ (Nat.le_of_ble_eq_true rfl) ?_
      refine am_ite h (fun hc h => ?_) (fun hc h => ?_)
      · refine am_if_eq_t (t := 33) d_X9_headAtHand_28 (by decide) hc hF ?_
        refine am_seg s_Ta_headAtHand_3 (y := (36, [(0, .ref 113)], [.ref 1004, .ref 113], am_D x3.2)) hF t_s_Ta_headAtHand_3 rfl rfl ?_
        refine am_bd h (fun x4 hx h => ?_)
        refine am_callV (As := [.ref 1004]) (r := (some (.int x4.1))) (st := []) (σ' := am_D x4.2) (ci := 9) hF hR d_X9_headAtHand_36 (c_Ta_isAtHand (τ' := x4.2) hx) (Nat.le_refl _) (Nat.le_refl _) wl_Ta_94 wi_yX9_isAtHand we_yX9_isAtHand wn_ShareHouse_Tape wc_yX9_isAtHand (Nat.le_of_ble_eq_true rfl) (Nat.le_of_ble_eq_true rfl) rfl rfl wy_yX9_isAtHand rfl ⟨by decide, by decide⟩ (Nat.le_of_ble_eq_true rfl) ?_
        refine am_ite h (fun hc h => ?_) (fun hc h => ?_)
        · refine am_if_eq_t (t := 44) d_X9_headAtHand_39 (by decide) hc hF ?_
          refine am_seg s_Ta_headAtHand_4 (y := (47, [(0, .ref 113)], [.ref 1005, .ref 113], am_D x4.2)) hF t_s_Ta_headAtHand_4 rfl rfl ?_
          refine am_bd h (fun x5 hx h => ?_)
          refine am_callV (As := [.ref 1005]) (r := (some (.int x5.1))) (st := []) (σ' := am_D x5.2) (ci := 9) hF hR d_X9_headAtHand_47 (c_Ta_isAtHand (τ' := x5.2) hx) (Nat.le_refl _) (Nat.le_refl _) wl_Ta_94 wi_yX9_isAtHand we_yX9_isAtHand wn_ShareHouse_Tape wc_yX9_isAtHand (Nat.le_of_ble_eq_true rfl) (Nat.le_of_ble_eq_true rfl) rfl rfl wy_yX9_isAtHand rfl ⟨by decide, by decide⟩ (Nat.le_of_ble_eq_true rfl) ?_
          refine am_ite h (fun hc h => ?_) (fun hc h => ?_)
          · refine am_if_eq_t (t := 55) d_X9_headAtHand_50 (by decide) hc hF ?_
            refine am_seg s_Ta_headAtHand_5 (y := (58, [(0, .ref 113)], [.ref 1006, .ref 113], am_D x5.2)) hF t_s_Ta_headAtHand_5 rfl rfl ?_
            refine am_bd h (fun x6 hx h => ?_)
            refine am_callV (As := [.ref 1006]) (r := (some (.int x6.1))) (st := []) (σ' := am_D x6.2) (ci := 9) hF hR d_X9_headAtHand_58 (c_Ta_isAtHand (τ' := x6.2) hx) (Nat.le_refl _) (Nat.le_refl _) wl_Ta_94 wi_yX9_isAtHand we_yX9_isAtHand wn_ShareHouse_Tape wc_yX9_isAtHand (Nat.le_of_ble_eq_true rfl) (Nat.le_of_ble_eq_true rfl) rfl rfl wy_yX9_isAtHand rfl ⟨by decide, by decide⟩ (Nat.le_of_ble_eq_true rfl) ?_
            refine am_ite h (fun hc h => ?_) (fun hc h => ?_)
            · refine am_if_eq_t (t := 68) d_X9_headAtHand_61 (by decide) hc hF ?_
              refine am_seg s_Ta_headAtHand_6 (y := (69, [(0, .ref 113)], [.int (-1 : Int32)], am_D x6.2)) hF t_s_Ta_headAtHand_6 rfl rfl ?_
              obtain ⟨rfl, rfl⟩ := am_pair h
              exact am_iret d_X9_headAtHand_69 hF hB
            · refine am_if_eq_f (t := 68) d_X9_headAtHand_61 (by decide) hc hF ?_
              refine am_seg s_Ta_headAtHand_7 (y := (69, [(0, .ref 113)], [.int (nI 5)], am_D x6.2)) hF t_s_Ta_headAtHand_7 rfl rfl ?_
              obtain ⟨rfl, rfl⟩ := am_pair h
              exact am_iret d_X9_headAtHand_69 hF hB
          · refine am_if_eq_f (t := 55) d_X9_headAtHand_50 (by decide) hc hF ?_
            refine am_seg s_Ta_headAtHand_8 (y := (54, [(0, .ref 113)], [.int (nI 4)], am_D x5.2)) hF t_s_Ta_headAtHand_8 rfl rfl ?_
            obtain ⟨rfl, rfl⟩ := am_pair h
            exact am_iret d_X9_headAtHand_54 hF hB
        · refine am_if_eq_f (t := 44) d_X9_headAtHand_39 (by decide) hc hF ?_
          refine am_seg s_Ta_headAtHand_9 (y := (43, [(0, .ref 113)], [.int (nI 3)], am_D x4.2)) hF t_s_Ta_headAtHand_9 rfl rfl ?_
          obtain ⟨rfl, rfl⟩ := am_pair h
          exact am_iret d_X9_headAtHand_43 hF hB
      · refine am_if_eq_f (t := 33) d_X9_headAtHand_28 (by decide) hc hF ?_
        refine am_seg s_Ta_headAtHand_10 (y := (32, [(0, .ref 113)], [.int (nI 2)], am_D x3.2)) hF t_s_Ta_headAtHand_10 rfl rfl ?_
        obtain ⟨rfl, rfl⟩ := am_pair h
        exact am_iret d_X9_headAtHand_32 hF hB
    · refine am_if_eq_f (t := 22) d_X9_headAtHand_17 (by decide) hc hF ?_
      refine am_seg s_Ta_headAtHand_11 (y := (21, [(0, .ref 113)], [.int (nI 1)], am_D x2.2)) hF t_s_Ta_headAtHand_11 rfl rfl ?_
      obtain ⟨rfl, rfl⟩ := am_pair h
      exact am_iret d_X9_headAtHand_21 hF hB
  · refine am_if_eq_f (t := 11) d_X9_headAtHand_6 (by decide) hc hF ?_
    refine am_seg s_Ta_headAtHand_12 (y := (10, [(0, .ref 113)], [.int (nI 0)], am_D x1.2)) hF t_s_Ta_headAtHand_12 rfl rfl ?_
    obtain ⟨rfl, rfl⟩ := am_pair h
    exact am_iret d_X9_headAtHand_10 hF hB
theorem c_Ta_headAtHand {v : Int32} {τ τ' : am_T} (h : Ta_headAtHand τ = some (v, τ')) : am_C yX9_headAtHand cX9_headAtHand 1 (some .int) 5 107 [.ref 113] (am_D τ) (some (.int v)) (am_D τ') :=
  am_enter (by decide +kernel) (Nat.le_of_ble_eq_true rfl) ⟨Nat.le_refl _, Nat.le_refl _⟩ (fun X hF hR hB => ok_Ta_headAtHand hF hR hB h)
def s_Ta_readHeads_0 : List am_Q := [(0, .aload_n 0, 0, 0, 0, .null), (1, .ldc 84, 0, 0, 0, .ref 1000)]
theorem t_s_Ta_readHeads_0 : s_Ta_readHeads_0.all (am_ok 9 cX9_readHeads) = true := by decide +kernel
theorem d_X9_readHeads_3 : decode cX9_readHeads 3 = .ok (.invokevirtual 69, 3) := by decide +kernel
theorem d_X9_readHeads_6 : decode cX9_readHeads 6 = .ok (.ifCond .eq 15, 3) := by decide +kernel
def s_Ta_readHeads_1 : List am_Q := [(21, .iconst 0, 0, 0, 0, .int (nI 0)), (22, .istore_n 1, 0, 0, 0, .null), (23, .iconst 0, 0, 0, 0, .int (nI 0)), (24, .istore_n 2, 0, 0, 0, .null)]
theorem t_s_Ta_readHeads_1 : s_Ta_readHeads_1.all (am_ok 9 cX9_readHeads) = true := by decide +kernel
def s_Ta_readHeads_2 : List am_Q := [(25, .iload_n 2, 0, 0, 0, .null), (26, .sipush 200, 0, 0, 0, .int (nI 200))]
theorem t_s_Ta_readHeads_2 : s_Ta_readHeads_2.all (am_ok 9 cX9_readHeads) = true := by decide +kernel
theorem d_X9_readHeads_29 : decode cX9_readHeads 29 = .ok (.if_icmp .ge 42, 3) := by decide +kernel
def s_Ta_readHeads_3 : List am_Q := [(71, .aload_n 0, 0, 0, 0, .null), (72, .getfield 21, 9, 3, 113, .null), (75, .iconst 0, 0, 0, 0, .int (nI 0)), (76, .iload_n 1, 0, 0, 0, .null)]
theorem t_s_Ta_readHeads_3 : s_Ta_readHeads_3.all (am_ok 9 cX9_readHeads) = true := by decide +kernel
theorem d_X9_readHeads_77 : decode cX9_readHeads 77 = .ok (.invokevirtual 57, 3) := by decide +kernel
def s_Ta_readHeads_4 : List am_Q := [(80, .iconst 1, 0, 0, 0, .int (nI 1))]
theorem t_s_Ta_readHeads_4 : s_Ta_readHeads_4.all (am_ok 9 cX9_readHeads) = true := by decide +kernel
theorem d_X9_readHeads_81 : decode cX9_readHeads 81 = .ok (.ireturn, 1) := by decide +kernel
def s_Ta_readHeads_5 : List am_Q := [(32, .aload_n 0, 0, 0, 0, .null)]
theorem t_s_Ta_readHeads_5 : s_Ta_readHeads_5.all (am_ok 9 cX9_readHeads) = true := by decide +kernel
theorem d_X9_readHeads_33 : decode cX9_readHeads 33 = .ok (.invokevirtual 86, 3) := by decide +kernel
def s_Ta_readHeads_6 : List am_Q := [(36, .istore_n 3, 0, 0, 0, .null), (37, .iload_n 3, 0, 0, 0, .null)]
theorem t_s_Ta_readHeads_6 : s_Ta_readHeads_6.all (am_ok 9 cX9_readHeads) = true := by decide +kernel
theorem d_X9_readHeads_38 : decode cX9_readHeads 38 = .ok (.ifCond .ge 5, 3) := by decide +kernel
def s_Ta_readHeads_7 : List am_Q := [(43, .aload_n 0, 0, 0, 0, .null)]
theorem t_s_Ta_readHeads_7 : s_Ta_readHeads_7.all (am_ok 9 cX9_readHeads) = true := by decide +kernel
theorem d_X9_readHeads_44 : decode cX9_readHeads 44 = .ok (.invokevirtual 44, 3) := by decide +kernel
def s_Ta_readHeads_8 : List am_Q := [(47, .iload_n 1, 0, 0, 0, .null), (48, .iconst 1, 0, 0, 0, .int (nI 1)), (49, .iload_n 3, 0, 0, 0, .null), (50, .ishl, 0, 0, 0, .null), (51, .ior, 0, 0, 0, .null), (52, .istore_n 1, 0, 0, 0, .null), (53, .aload_n 0, 0, 0, 0, .null), (54, .ldc 90, 7, 0, 0, .ref 1007)]
theorem t_s_Ta_readHeads_8 : s_Ta_readHeads_8.all (am_ok 9 cX9_readHeads) = true := by decide +kernel
theorem d_X9_readHeads_56 : decode cX9_readHeads 56 = .ok (.invokevirtual 69, 3) := by decide +kernel
theorem d_X9_readHeads_59 : decode cX9_readHeads 59 = .ok (.ifCond .ne 6, 3) := by decide +kernel
def s_Ta_readHeads_9 : List am_Q := [(65, .iinc 2 1, 0, 0, 0, .int (nI 1)), (68, .goto (-43), 25, 0, 0, .null)]
theorem t_s_Ta_readHeads_9 : s_Ta_readHeads_9.all (am_ok 9 cX9_readHeads) = true := by decide +kernel
def s_Ta_readHeads_10 : List am_Q := [(62, .goto 9, 71, 0, 0, .null)]
theorem t_s_Ta_readHeads_10 : s_Ta_readHeads_10.all (am_ok 9 cX9_readHeads) = true := by decide +kernel
def s_Ta_readHeads_11 : List am_Q := [(41, .iconst 0, 0, 0, 0, .int (nI 0))]
theorem t_s_Ta_readHeads_11 : s_Ta_readHeads_11.all (am_ok 9 cX9_readHeads) = true := by decide +kernel
theorem d_X9_readHeads_42 : decode cX9_readHeads 42 = .ok (.ireturn, 1) := by decide +kernel
def s_Ta_readHeads_12 : List am_Q := [(9, .aload_n 0, 0, 0, 0, .null), (10, .getfield 21, 9, 3, 113, .null), (13, .iconst 0, 0, 0, 0, .int (nI 0)), (14, .bipush 63, 0, 0, 0, .int (nI 63))]
theorem t_s_Ta_readHeads_12 : s_Ta_readHeads_12.all (am_ok 9 cX9_readHeads) = true := by decide +kernel
theorem d_X9_readHeads_16 : decode cX9_readHeads 16 = .ok (.invokevirtual 57, 3) := by decide +kernel
def s_Ta_readHeads_13 : List am_Q := [(19, .iconst 1, 0, 0, 0, .int (nI 1))]
theorem t_s_Ta_readHeads_13 : s_Ta_readHeads_13.all (am_ok 9 cX9_readHeads) = true := by decide +kernel
theorem d_X9_readHeads_20 : decode cX9_readHeads 20 = .ok (.ireturn, 1) := by decide +kernel
def Ta_readHeads_71 (τ : am_T) (a1 : Int32) : Option (Int32 × am_T) :=
  (Le_put τ 116 (nI 0) a1).bind (fun x2 =>
  some ((nI 1), x2))
set_option maxRecDepth 20000 in
theorem ok_Ta_readHeads_71 {X : am_X} {v : Int32} {τ' : am_T} (hF : am_F X "ShareHouse$Tape" cX9_readHeads 4) (hR : am_R X 6 128) (hB : am_B X (some .boolean) (some (.int v)) (am_D τ')) {τ : am_T} {a1 : Int32} (h : Ta_readHeads_71 τ a1 = some (v, τ')) : am_W X 4 (71, [(0, .ref 113), (1, .int a1)], [], am_D τ) := by
  unfold Ta_readHeads_71 at h
  refine am_seg s_Ta_readHeads_3 (y := (77, [(0, .ref 113), (1, .int a1)], [.int a1, .int (nI 0), .ref 116], am_D τ)) hF t_s_Ta_readHeads_3 rfl rfl ?_
  refine am_bd h (fun x2 hx h => ?_)
  refine am_callV (As := [.int (nI 0), .int a1]) (r := none) (st := []) (σ' := am_D x2) (ci := 4) hF hR d_X9_readHeads_77 (c_Le_put (τ' := x2) hx) (Nat.le_refl _) (Nat.le_refl _) wl_Ta_57 wi_yX4_put we_yX4_put wn_ShareHouse_Lease wc_yX4_put (Nat.le_of_ble_eq_true rfl) (Nat.le_of_ble_eq_true rfl) rfl rfl wy_yX4_put rfl ⟨by decide, by decide⟩ (Nat.le_of_ble_eq_true rfl) ?_
  refine am_seg s_Ta_readHeads_4 (y := (81, [(0, .ref 113), (1, .int a1)], [.int (nI 1)], am_D x2)) hF t_s_Ta_readHeads_4 rfl rfl ?_
  obtain ⟨rfl, rfl⟩ := am_pair h
  exact am_zret d_X9_readHeads_81 rfl hF hB
def Ta_readHeads_25 : Nat → am_T → Int32 → Int32 → Option (Int32 × am_T)
  | 0, _, _, _ => none
  | n + 1, τ, a1, a2 =>
    if (nI 200) ≤ a2 then
  (Ta_readHeads_71 τ a1)
else
  ((Ta_headAtHand τ).bind (fun x3 =>
  if 0 ≤ x3.1 then
  ((Ta_step x3.2).bind (fun x4 =>
  (Ta_take x4 1007).bind (fun x5 =>
  if x5.1 = 0 then
  (Ta_readHeads_71 x5.2 (a1 ||| ((nI 1) <<< (x3.1 &&& 31))))
else
  ((Ta_readHeads_25 n) x5.2 (a1 ||| ((nI 1) <<< (x3.1 &&& 31))) (a2 + (nI 1))))))
else
  (some ((nI 0), x3.2))))
set_option maxRecDepth 20000 in
theorem ok_Ta_readHeads_25 {X : am_X} {v : Int32} {τ' : am_T} (hF : am_F X "ShareHouse$Tape" cX9_readHeads 4) (hR : am_R X 6 128) (hB : am_B X (some .boolean) (some (.int v)) (am_D τ')) : ∀ (n : Nat) (τ : am_T) (a1 : Int32) (a2 : Int32), Ta_readHeads_25 n τ a1 a2 = some (v, τ') → am_W X 4 (25, [(0, .ref 113), (1, .int a1), (2, .int a2)], [], am_D τ) := by
  intro n
  induction n with
  | zero => intro τ a1 a2 h; unfold Ta_readHeads_25 at h; cases h
  | succ n ih =>
    intro τ a1 a2 h
    unfold Ta_readHeads_25 at h
    refine am_seg s_Ta_readHeads_2 (y := (29, [(0, .ref 113), (1, .int a1), (2, .int a2)], [.int (nI 200), .int a2], am_D τ)) hF t_s_Ta_readHeads_2 rfl rfl ?_
    refine am_ite h (fun hc h => ?_) (fun hc h => ?_)
    · refine am_icmp_ge_t (t := 71) d_X9_readHeads_29 (by decide) hc hF ?_
      refine am_pick [0, 1] rfl ?_
      exact ok_Ta_readHeads_71 hF hR hB h
    · refine am_icmp_ge_f (t := 71) d_X9_readHeads_29 (by decide) hc hF ?_
      refine am_seg s_Ta_readHeads_5 (y := (33, [(0, .ref 113), (1, .int a1), (2, .int a2)], [.ref 113], am_D τ)) hF t_s_Ta_readHeads_5 rfl rfl ?_
      refine am_bd h (fun x3 hx h => ?_)
      refine am_callV (As := []) (r := (some (.int x3.1))) (st := []) (σ' := am_D x3.2) (ci := 9) hF hR d_X9_readHeads_33 (c_Ta_headAtHand (τ' := x3.2) hx) (Nat.le_refl _) (Nat.le_refl _) wl_Ta_86 wi_yX9_headAtHand we_yX9_headAtHand wn_ShareHouse_Tape wc_yX9_headAtHand (Nat.le_of_ble_eq_true rfl) (Nat.le_of_ble_eq_true rfl) rfl rfl wy_yX9_headAtHand rfl ⟨by decide, by decide⟩ (Nat.le_of_ble_eq_true rfl) ?_
      refine am_seg s_Ta_readHeads_6 (y := (38, [(3, .int x3.1), (0, .ref 113), (1, .int a1), (2, .int a2)], [.int x3.1], am_D x3.2)) hF t_s_Ta_readHeads_6 rfl rfl ?_
      refine am_ite h (fun hc h => ?_) (fun hc h => ?_)
      · refine am_if_ge_t (t := 43) d_X9_readHeads_38 (by decide) hc hF ?_
        refine am_seg s_Ta_readHeads_7 (y := (44, [(3, .int x3.1), (0, .ref 113), (1, .int a1), (2, .int a2)], [.ref 113], am_D x3.2)) hF t_s_Ta_readHeads_7 rfl rfl ?_
        refine am_bd h (fun x4 hx h => ?_)
        refine am_callV (As := []) (r := none) (st := []) (σ' := am_D x4) (ci := 9) hF hR d_X9_readHeads_44 (c_Ta_step (τ' := x4) hx) (Nat.le_refl _) (Nat.le_refl _) wl_Ta_44 wi_yX9_step we_yX9_step wn_ShareHouse_Tape wc_yX9_step (Nat.le_of_ble_eq_true rfl) (Nat.le_of_ble_eq_true rfl) rfl rfl wy_yX9_step rfl ⟨by decide, by decide⟩ (Nat.le_of_ble_eq_true rfl) ?_
        refine am_seg s_Ta_readHeads_8 (y := (56, [(1, .int (a1 ||| ((nI 1) <<< (x3.1 &&& 31)))), (3, .int x3.1), (0, .ref 113), (2, .int a2)], [.ref 1007, .ref 113], am_D x4)) hF t_s_Ta_readHeads_8 rfl rfl ?_
        refine am_bd h (fun x5 hx h => ?_)
        refine am_callV (As := [.ref 1007]) (r := (some (.int x5.1))) (st := []) (σ' := am_D x5.2) (ci := 9) hF hR d_X9_readHeads_56 (c_Ta_take (τ' := x5.2) hx) (Nat.le_refl _) (Nat.le_refl _) wl_Ta_69 wi_yX9_take we_yX9_take wn_ShareHouse_Tape wc_yX9_take (Nat.le_of_ble_eq_true rfl) (Nat.le_of_ble_eq_true rfl) rfl rfl wy_yX9_take rfl ⟨by decide, by decide⟩ (Nat.le_of_ble_eq_true rfl) ?_
        refine am_ite h (fun hc h => ?_) (fun hc h => ?_)
        · refine am_if_ne_f (t := 65) d_X9_readHeads_59 (by decide) hc hF ?_
          refine am_seg s_Ta_readHeads_10 (y := (71, [(1, .int (a1 ||| ((nI 1) <<< (x3.1 &&& 31)))), (3, .int x3.1), (0, .ref 113), (2, .int a2)], [], am_D x5.2)) hF t_s_Ta_readHeads_10 rfl rfl ?_
          refine am_pick [2, 0] rfl ?_
          exact ok_Ta_readHeads_71 hF hR hB h
        · refine am_if_ne_t (t := 65) d_X9_readHeads_59 (by decide) hc hF ?_
          refine am_seg s_Ta_readHeads_9 (y := (25, [(2, .int (a2 + (nI 1))), (1, .int (a1 ||| ((nI 1) <<< (x3.1 &&& 31)))), (3, .int x3.1), (0, .ref 113)], [], am_D x5.2)) hF t_s_Ta_readHeads_9 rfl rfl ?_
          refine am_pick [3, 1, 0] rfl ?_
          exact ih _ _ _ h
      · refine am_if_ge_f (t := 43) d_X9_readHeads_38 (by decide) hc hF ?_
        refine am_seg s_Ta_readHeads_11 (y := (42, [(3, .int x3.1), (0, .ref 113), (1, .int a1), (2, .int a2)], [.int (nI 0)], am_D x3.2)) hF t_s_Ta_readHeads_11 rfl rfl ?_
        obtain ⟨rfl, rfl⟩ := am_pair h
        exact am_zret d_X9_readHeads_42 rfl hF hB
def Ta_readHeads (τ : am_T) : Option (Int32 × am_T) :=
  (Ta_take τ 1000).bind (fun x1 =>
  if x1.1 = 0 then
  (Ta_readHeads_25 5000 x1.2 (nI 0) (nI 0))
else
  ((Le_put x1.2 116 (nI 0) (nI 63)).bind (fun x6 =>
  some ((nI 1), x6))))
set_option maxRecDepth 20000 in
theorem ok_Ta_readHeads {X : am_X} {v : Int32} {τ τ' : am_T} (hF : am_F X "ShareHouse$Tape" cX9_readHeads 4) (hR : am_R X 6 128) (hB : am_B X (some .boolean) (some (.int v)) (am_D τ')) (h : Ta_readHeads τ = some (v, τ')) : am_W X 4 (0, [(0, .ref 113)], [], am_D τ) := by
  unfold Ta_readHeads at h
  refine am_seg s_Ta_readHeads_0 (y := (3, [(0, .ref 113)], [.ref 1000, .ref 113], am_D τ)) hF t_s_Ta_readHeads_0 rfl rfl ?_
  refine am_bd h (fun x1 hx h => ?_)
  refine am_callV (As := [.ref 1000]) (r := (some (.int x1.1))) (st := []) (σ' := am_D x1.2) (ci := 9) hF hR d_X9_readHeads_3 (c_Ta_take (τ' := x1.2) hx) (Nat.le_refl _) (Nat.le_refl _) wl_Ta_69 wi_yX9_take we_yX9_take wn_ShareHouse_Tape wc_yX9_take (Nat.le_of_ble_eq_true rfl) (Nat.le_of_ble_eq_true rfl) rfl rfl wy_yX9_take rfl ⟨by decide, by decide⟩ (Nat.le_of_ble_eq_true rfl) ?_
  refine am_ite h (fun hc h => ?_) (fun hc h => ?_)
  · refine am_if_eq_t (t := 21) d_X9_readHeads_6 (by decide) hc hF ?_
    refine am_seg s_Ta_readHeads_1 (y := (25, [(2, .int (nI 0)), (1, .int (nI 0)), (0, .ref 113)], [], am_D x1.2)) hF t_s_Ta_readHeads_1 rfl rfl ?_
    refine am_pick [2, 1, 0] rfl ?_
    exact ok_Ta_readHeads_25 hF hR hB _ _ _ _ h
  · refine am_if_eq_f (t := 21) d_X9_readHeads_6 (by decide) hc hF ?_
    refine am_seg s_Ta_readHeads_12 (y := (16, [(0, .ref 113)], [.int (nI 63), .int (nI 0), .ref 116], am_D x1.2)) hF t_s_Ta_readHeads_12 rfl rfl ?_
    refine am_bd h (fun x6 hx h => ?_)
    refine am_callV (As := [.int (nI 0), .int (nI 63)]) (r := none) (st := []) (σ' := am_D x6) (ci := 4) hF hR d_X9_readHeads_16 (c_Le_put (τ' := x6) hx) (Nat.le_refl _) (Nat.le_refl _) wl_Ta_57 wi_yX4_put we_yX4_put wn_ShareHouse_Lease wc_yX4_put (Nat.le_of_ble_eq_true rfl) (Nat.le_of_ble_eq_true rfl) rfl rfl wy_yX4_put rfl ⟨by decide, by decide⟩ (Nat.le_of_ble_eq_true rfl) ?_
    refine am_seg s_Ta_readHeads_13 (y := (20, [(0, .ref 113)], [.int (nI 1)], am_D x6)) hF t_s_Ta_readHeads_13 rfl rfl ?_
    obtain ⟨rfl, rfl⟩ := am_pair h
    exact am_zret d_X9_readHeads_20 rfl hF hB
theorem c_Ta_readHeads {v : Int32} {τ τ' : am_T} (h : Ta_readHeads τ = some (v, τ')) : am_C yX9_readHeads cX9_readHeads 4 (some .boolean) 6 128 [.ref 113] (am_D τ) (some (.int v)) (am_D τ') :=
  am_enter (by decide +kernel) (Nat.le_of_ble_eq_true rfl) ⟨Nat.le_refl _, Nat.le_refl _⟩ (fun X hF hR hB => ok_Ta_readHeads hF hR hB h)
def s_Ta_plainShareAtHand_0 : List am_Q := [(0, .aload_n 0, 0, 0, 0, .null), (1, .ldc 125, 9, 0, 0, .ref 1009)]
theorem t_s_Ta_plainShareAtHand_0 : s_Ta_plainShareAtHand_0.all (am_ok 9 cX9_plainShareAtHand) = true := by decide +kernel
theorem d_X9_plainShareAtHand_3 : decode cX9_plainShareAtHand 3 = .ok (.invokevirtual 94, 3) := by decide +kernel
theorem d_X9_plainShareAtHand_6 : decode cX9_plainShareAtHand 6 = .ok (.ifCond .eq 5, 3) := by decide +kernel
def s_Ta_plainShareAtHand_1 : List am_Q := [(11, .aload_n 0, 0, 0, 0, .null), (12, .ldc 127, 10, 0, 0, .ref 1010)]
theorem t_s_Ta_plainShareAtHand_1 : s_Ta_plainShareAtHand_1.all (am_ok 9 cX9_plainShareAtHand) = true := by decide +kernel
theorem d_X9_plainShareAtHand_14 : decode cX9_plainShareAtHand 14 = .ok (.invokevirtual 94, 3) := by decide +kernel
theorem d_X9_plainShareAtHand_17 : decode cX9_plainShareAtHand 17 = .ok (.ifCond .eq 5, 3) := by decide +kernel
def s_Ta_plainShareAtHand_2 : List am_Q := [(22, .aload_n 0, 0, 0, 0, .null), (23, .ldc 129, 11, 0, 0, .ref 1011)]
theorem t_s_Ta_plainShareAtHand_2 : s_Ta_plainShareAtHand_2.all (am_ok 9 cX9_plainShareAtHand) = true := by decide +kernel
theorem d_X9_plainShareAtHand_25 : decode cX9_plainShareAtHand 25 = .ok (.invokevirtual 94, 3) := by decide +kernel
theorem d_X9_plainShareAtHand_28 : decode cX9_plainShareAtHand 28 = .ok (.ifCond .eq 5, 3) := by decide +kernel
def s_Ta_plainShareAtHand_3 : List am_Q := [(33, .aload_n 0, 0, 0, 0, .null), (34, .ldc 131, 12, 0, 0, .ref 1012)]
theorem t_s_Ta_plainShareAtHand_3 : s_Ta_plainShareAtHand_3.all (am_ok 9 cX9_plainShareAtHand) = true := by decide +kernel
theorem d_X9_plainShareAtHand_36 : decode cX9_plainShareAtHand 36 = .ok (.invokevirtual 94, 3) := by decide +kernel
theorem d_X9_plainShareAtHand_39 : decode cX9_plainShareAtHand 39 = .ok (.ifCond .eq 7, 3) := by decide +kernel
def s_Ta_plainShareAtHand_4 : List am_Q := [(46, .iconst (-1), 0, 0, 0, .int (-1 : Int32))]
theorem t_s_Ta_plainShareAtHand_4 : s_Ta_plainShareAtHand_4.all (am_ok 9 cX9_plainShareAtHand) = true := by decide +kernel
theorem d_X9_plainShareAtHand_47 : decode cX9_plainShareAtHand 47 = .ok (.ireturn, 1) := by decide +kernel
def s_Ta_plainShareAtHand_5 : List am_Q := [(42, .iconst 3, 0, 0, 0, .int (nI 3)), (43, .goto 4, 47, 0, 0, .null)]
theorem t_s_Ta_plainShareAtHand_5 : s_Ta_plainShareAtHand_5.all (am_ok 9 cX9_plainShareAtHand) = true := by decide +kernel
def s_Ta_plainShareAtHand_6 : List am_Q := [(31, .iconst 2, 0, 0, 0, .int (nI 2))]
theorem t_s_Ta_plainShareAtHand_6 : s_Ta_plainShareAtHand_6.all (am_ok 9 cX9_plainShareAtHand) = true := by decide +kernel
theorem d_X9_plainShareAtHand_32 : decode cX9_plainShareAtHand 32 = .ok (.ireturn, 1) := by decide +kernel
def s_Ta_plainShareAtHand_7 : List am_Q := [(20, .iconst 1, 0, 0, 0, .int (nI 1))]
theorem t_s_Ta_plainShareAtHand_7 : s_Ta_plainShareAtHand_7.all (am_ok 9 cX9_plainShareAtHand) = true := by decide +kernel
theorem d_X9_plainShareAtHand_21 : decode cX9_plainShareAtHand 21 = .ok (.ireturn, 1) := by decide +kernel
def s_Ta_plainShareAtHand_8 : List am_Q := [(9, .iconst 0, 0, 0, 0, .int (nI 0))]
theorem t_s_Ta_plainShareAtHand_8 : s_Ta_plainShareAtHand_8.all (am_ok 9 cX9_plainShareAtHand) = true := by decide +kernel
theorem d_X9_plainShareAtHand_10 : decode cX9_plainShareAtHand 10 = .ok (.ireturn, 1) := by decide +kernel
def Ta_plainShareAtHand (τ : am_T) : Option (Int32 × am_T) :=
  (Ta_isAtHand τ 1009).bind (fun x1 =>
  if x1.1 = 0 then
  ((Ta_isAtHand x1.2 1010).bind (fun x2 =>
  if x2.1 = 0 then
  ((Ta_isAtHand x2.2 1011).bind (fun x3 =>
  if x3.1 = 0 then
  ((Ta_isAtHand x3.2 1012).bind (fun x4 =>
  if x4.1 = 0 then
  (some ((-1 : Int32), x4.2))
else
  (some ((nI 3), x4.2))))
else
  (some ((nI 2), x3.2))))
else
  (some ((nI 1), x2.2))))
else
  (some ((nI 0), x1.2)))
set_option maxRecDepth 20000 in
theorem ok_Ta_plainShareAtHand {X : am_X} {v : Int32} {τ τ' : am_T} (hF : am_F X "ShareHouse$Tape" cX9_plainShareAtHand 1) (hR : am_R X 5 107) (hB : am_B X (some .int) (some (.int v)) (am_D τ')) (h : Ta_plainShareAtHand τ = some (v, τ')) : am_W X 1 (0, [(0, .ref 113)], [], am_D τ) := by
  unfold Ta_plainShareAtHand at h
  refine am_seg s_Ta_plainShareAtHand_0 (y := (3, [(0, .ref 113)], [.ref 1009, .ref 113], am_D τ)) hF t_s_Ta_plainShareAtHand_0 rfl rfl ?_
  refine am_bd h (fun x1 hx h => ?_)
  refine am_callV (As := [.ref 1009]) (r := (some (.int x1.1))) (st := []) (σ' := am_D x1.2) (ci := 9) hF hR d_X9_plainShareAtHand_3 (c_Ta_isAtHand (τ' := x1.2) hx) (Nat.le_refl _) (Nat.le_refl _) wl_Ta_94 wi_yX9_isAtHand we_yX9_isAtHand wn_ShareHouse_Tape wc_yX9_isAtHand (Nat.le_of_ble_eq_true rfl) (Nat.le_of_ble_eq_true rfl) rfl rfl wy_yX9_isAtHand rfl ⟨by decide, by decide⟩ (Nat.le_of_ble_eq_true rfl) ?_
  refine am_ite h (fun hc h => ?_) (fun hc h => ?_)
  · refine am_if_eq_t (t := 11) d_X9_plainShareAtHand_6 (by decide) hc hF ?_
    refine am_seg s_Ta_plainShareAtHand_1 (y := (14, [(0, .ref 113)], [.ref 1010, .ref 113], am_D x1.2)) hF t_s_Ta_plainShareAtHand_1 rfl rfl ?_
    refine am_bd h (fun x2 hx h => ?_)
    refine am_callV (As := [.ref 1010]) (r := (some (.int x2.1))) (st := []) (σ' := am_D x2.2) (ci := 9) hF hR d_X9_plainShareAtHand_14 (c_Ta_isAtHand (τ' := x2.2) hx) (Nat.le_refl _) (Nat.le_refl _) wl_Ta_94 wi_yX9_isAtHand we_yX9_isAtHand wn_ShareHouse_Tape wc_yX9_isAtHand (Nat.le_of_ble_eq_true rfl) (Nat.le_of_ble_eq_true rfl) rfl rfl wy_yX9_isAtHand rfl ⟨by decide, by decide⟩ (Nat.le_of_ble_eq_true rfl) ?_
    refine am_ite h (fun hc h => ?_) (fun hc h => ?_)
    · refine am_if_eq_t (t := 22) d_X9_plainShareAtHand_17 (by decide) hc hF ?_
      refine am_seg s_Ta_plainShareAtHand_2 (y := (25, [(0, .ref 113)], [.ref 1011, .ref 113], am_D x2.2)) hF t_s_Ta_plainShareAtHand_2 rfl rfl ?_
      refine am_bd h (fun x3 hx h => ?_)
      refine am_callV (As := [.ref 1011]) (r := (some (.int x3.1))) (st := []) (σ' := am_D x3.2) (ci := 9) hF hR d_X9_plainShareAtHand_25 (c_Ta_isAtHand (τ' := x3.2) hx) (Nat.le_refl _) (Nat.le_refl _) wl_Ta_94 wi_yX9_isAtHand we_yX9_isAtHand wn_ShareHouse_Tape wc_yX9_isAtHand (Nat.le_of_ble_eq_true rfl) (Nat.le_of_ble_eq_true rfl) rfl rfl wy_yX9_isAtHand rfl ⟨by decide, by decide⟩ (Nat.le_of_ble_eq_true rfl) ?_
      refine am_ite h (fun hc h => ?_) (fun hc h => ?_)
      · refine am_if_eq_t (t := 33) d_X9_plainShareAtHand_28 (by decide) hc hF ?_
        refine am_seg s_Ta_plainShareAtHand_3 (y := (36, [(0, .ref 113)], [.ref 1012, .ref 113], am_D x3.2)) hF t_s_Ta_plainShareAtHand_3 rfl rfl ?_
        refine am_bd h (fun x4 hx h => ?_)
        refine am_callV (As := [.ref 1012]) (r := (some (.int x4.1))) (st := []) (σ' := am_D x4.2) (ci := 9) hF hR d_X9_plainShareAtHand_36 (c_Ta_isAtHand (τ' := x4.2) hx) (Nat.le_refl _) (Nat.le_refl _) wl_Ta_94 wi_yX9_isAtHand we_yX9_isAtHand wn_ShareHouse_Tape wc_yX9_isAtHand (Nat.le_of_ble_eq_true rfl) (Nat.le_of_ble_eq_true rfl) rfl rfl wy_yX9_isAtHand rfl ⟨by decide, by decide⟩ (Nat.le_of_ble_eq_true rfl) ?_
        refine am_ite h (fun hc h => ?_) (fun hc h => ?_)
        · refine am_if_eq_t (t := 46) d_X9_plainShareAtHand_39 (by decide) hc hF ?_
          refine am_seg s_Ta_plainShareAtHand_4 (y := (47, [(0, .ref 113)], [.int (-1 : Int32)], am_D x4.2)) hF t_s_Ta_plainShareAtHand_4 rfl rfl ?_
          obtain ⟨rfl, rfl⟩ := am_pair h
          exact am_iret d_X9_plainShareAtHand_47 hF hB
        · refine am_if_eq_f (t := 46) d_X9_plainShareAtHand_39 (by decide) hc hF ?_
          refine am_seg s_Ta_plainShareAtHand_5 (y := (47, [(0, .ref 113)], [.int (nI 3)], am_D x4.2)) hF t_s_Ta_plainShareAtHand_5 rfl rfl ?_
          obtain ⟨rfl, rfl⟩ := am_pair h
          exact am_iret d_X9_plainShareAtHand_47 hF hB
      · refine am_if_eq_f (t := 33) d_X9_plainShareAtHand_28 (by decide) hc hF ?_
        refine am_seg s_Ta_plainShareAtHand_6 (y := (32, [(0, .ref 113)], [.int (nI 2)], am_D x3.2)) hF t_s_Ta_plainShareAtHand_6 rfl rfl ?_
        obtain ⟨rfl, rfl⟩ := am_pair h
        exact am_iret d_X9_plainShareAtHand_32 hF hB
    · refine am_if_eq_f (t := 22) d_X9_plainShareAtHand_17 (by decide) hc hF ?_
      refine am_seg s_Ta_plainShareAtHand_7 (y := (21, [(0, .ref 113)], [.int (nI 1)], am_D x2.2)) hF t_s_Ta_plainShareAtHand_7 rfl rfl ?_
      obtain ⟨rfl, rfl⟩ := am_pair h
      exact am_iret d_X9_plainShareAtHand_21 hF hB
  · refine am_if_eq_f (t := 11) d_X9_plainShareAtHand_6 (by decide) hc hF ?_
    refine am_seg s_Ta_plainShareAtHand_8 (y := (10, [(0, .ref 113)], [.int (nI 0)], am_D x1.2)) hF t_s_Ta_plainShareAtHand_8 rfl rfl ?_
    obtain ⟨rfl, rfl⟩ := am_pair h
    exact am_iret d_X9_plainShareAtHand_10 hF hB
theorem c_Ta_plainShareAtHand {v : Int32} {τ τ' : am_T} (h : Ta_plainShareAtHand τ = some (v, τ')) : am_C yX9_plainShareAtHand cX9_plainShareAtHand 1 (some .int) 5 107 [.ref 113] (am_D τ) (some (.int v)) (am_D τ') :=
  am_enter (by decide +kernel) (Nat.le_of_ble_eq_true rfl) ⟨Nat.le_refl _, Nat.le_refl _⟩ (fun X hF hR hB => ok_Ta_plainShareAtHand hF hR hB h)

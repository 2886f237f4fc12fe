def s_M_like_0 : List am_Q := [(0, .iload_n 1, 0, 0, 0, .null)]
theorem t_s_M_like_0 : s_M_like_0.all (am_ok 12 cX12_like) = true := by decide +kernel
theorem d_X12_like_1 : decode cX12_like 1 = .ok (.invokestatic 203, 3) := by decide +kernel
theorem d_X12_like_4 : decode cX12_like 4 = .ok (.ifCond .eq 14, 3) := by decide +kernel
def s_M_like_1 : List am_Q := [(18, .iconst (-1), 0, 0, 0, .int (-1 : Int32))]
theorem t_s_M_like_1 : s_M_like_1.all (am_ok 12 cX12_like) = true := by decide +kernel
theorem d_X12_like_19 : decode cX12_like 19 = .ok (.ireturn, 1) := by decide +kernel
def s_M_like_2 : List am_Q := [(7, .iload_n 2, 0, 0, 0, .null), (8, .iconst 0, 0, 0, 0, .int (nI 0)), (9, .sipush 9999, 0, 0, 0, .int (nI 9999))]
theorem t_s_M_like_2 : s_M_like_2.all (am_ok 12 cX12_like) = true := by decide +kernel
theorem d_X12_like_12 : decode cX12_like 12 = .ok (.invokestatic 51, 3) := by decide +kernel
theorem d_X12_like_15 : decode cX12_like 15 = .ok (.ifCond .ne 5, 3) := by decide +kernel
def s_M_like_3 : List am_Q := [(20, .aload_n 0, 0, 0, 0, .null), (21, .getfield 7, 12, 0, 152, .null), (24, .bipush 7, 0, 0, 0, .int (nI 7))]
theorem t_s_M_like_3 : s_M_like_3.all (am_ok 12 cX12_like) = true := by decide +kernel
theorem d_X12_like_26 : decode cX12_like 26 = .ok (.iaload, 1) := by decide +kernel
def s_M_like_4 : List am_Q := [(27, .bipush 16, 0, 0, 0, .int (nI 16))]
theorem t_s_M_like_4 : s_M_like_4.all (am_ok 12 cX12_like) = true := by decide +kernel
theorem d_X12_like_29 : decode cX12_like 29 = .ok (.if_icmp .ne 6, 3) := by decide +kernel
def s_M_like_5 : List am_Q := [(35, .aload_n 0, 0, 0, 0, .null), (36, .getfield 7, 12, 0, 152, .null), (39, .sipush 1000, 0, 0, 0, .int (nI 1000)), (42, .iconst 2, 0, 0, 0, .int (nI 2)), (43, .aload_n 0, 0, 0, 0, .null), (44, .getfield 7, 12, 0, 152, .null), (47, .bipush 7, 0, 0, 0, .int (nI 7))]
theorem t_s_M_like_5 : s_M_like_5.all (am_ok 12 cX12_like) = true := by decide +kernel
theorem d_X12_like_49 : decode cX12_like 49 = .ok (.iaload, 1) := by decide +kernel
def s_M_like_6 : List am_Q := [(50, .imul, 0, 0, 0, .null), (51, .iadd, 0, 0, 0, .null), (52, .iload_n 1, 0, 0, 0, .null)]
theorem t_s_M_like_6 : s_M_like_6.all (am_ok 12 cX12_like) = true := by decide +kernel
theorem d_X12_like_53 : decode cX12_like 53 = .ok (.iastore, 1) := by decide +kernel
def s_M_like_7 : List am_Q := [(54, .aload_n 0, 0, 0, 0, .null), (55, .getfield 7, 12, 0, 152, .null), (58, .sipush 1000, 0, 0, 0, .int (nI 1000)), (61, .iconst 2, 0, 0, 0, .int (nI 2)), (62, .aload_n 0, 0, 0, 0, .null), (63, .getfield 7, 12, 0, 152, .null), (66, .bipush 7, 0, 0, 0, .int (nI 7))]
theorem t_s_M_like_7 : s_M_like_7.all (am_ok 12 cX12_like) = true := by decide +kernel
theorem d_X12_like_68 : decode cX12_like 68 = .ok (.iaload, 1) := by decide +kernel
def s_M_like_8 : List am_Q := [(69, .imul, 0, 0, 0, .null), (70, .iadd, 0, 0, 0, .null), (71, .iconst 1, 0, 0, 0, .int (nI 1)), (72, .iadd, 0, 0, 0, .null), (73, .iload_n 2, 0, 0, 0, .null)]
theorem t_s_M_like_8 : s_M_like_8.all (am_ok 12 cX12_like) = true := by decide +kernel
theorem d_X12_like_74 : decode cX12_like 74 = .ok (.iastore, 1) := by decide +kernel
def s_M_like_9 : List am_Q := [(75, .aload_n 0, 0, 0, 0, .null), (76, .getfield 7, 12, 0, 152, .null), (79, .bipush 7, 0, 0, 0, .int (nI 7)), (81, .dup2, 0, 0, 0, .null)]
theorem t_s_M_like_9 : s_M_like_9.all (am_ok 12 cX12_like) = true := by decide +kernel
theorem d_X12_like_82 : decode cX12_like 82 = .ok (.iaload, 1) := by decide +kernel
def s_M_like_10 : List am_Q := [(83, .iconst 1, 0, 0, 0, .int (nI 1)), (84, .iadd, 0, 0, 0, .null)]
theorem t_s_M_like_10 : s_M_like_10.all (am_ok 12 cX12_like) = true := by decide +kernel
theorem d_X12_like_85 : decode cX12_like 85 = .ok (.iastore, 1) := by decide +kernel
def s_M_like_11 : List am_Q := [(86, .aload_n 0, 0, 0, 0, .null), (87, .getfield 7, 12, 0, 152, .null), (90, .bipush 7, 0, 0, 0, .int (nI 7))]
theorem t_s_M_like_11 : s_M_like_11.all (am_ok 12 cX12_like) = true := by decide +kernel
theorem d_X12_like_92 : decode cX12_like 92 = .ok (.iaload, 1) := by decide +kernel
theorem d_X12_like_93 : decode cX12_like 93 = .ok (.ireturn, 1) := by decide +kernel
def s_M_like_12 : List am_Q := [(32, .bipush (-2), 0, 0, 0, .int (-2 : Int32))]
theorem t_s_M_like_12 : s_M_like_12.all (am_ok 12 cX12_like) = true := by decide +kernel
theorem d_X12_like_34 : decode cX12_like 34 = .ok (.ireturn, 1) := by decide +kernel
def s_M_like_13 : List am_Q := [(18, .iconst (-1), 0, 0, 0, .int (-1 : Int32))]
theorem t_s_M_like_13 : s_M_like_13.all (am_ok 12 cX12_like) = true := by decide +kernel
def M_like (τ : am_T) (a1 : Int32) (a2 : Int32) : Option (Int32 × am_T) :=
  (M_isHead τ a1).bind (fun x1 =>
  if x1.1 = 0 then
  (some ((-1 : Int32), x1.2))
else
  ((M_in x1.2 a2 (nI 0) (nI 9999)).bind (fun x2 =>
  if x2.1 = 0 then
  (some ((-1 : Int32), x2.2))
else
  (if (x2.2.1 141 7) = (nI 16) then
  (some ((-2 : Int32), x2.2))
else
  (am_g (am_in ((nI 1000) + ((nI 2) * (x2.2.1 141 7))) 1060) (am_g (am_in (((nI 1000) + ((nI 2) * ((am_si x2.2 141 (((nI 1000) + ((nI 2) * (x2.2.1 141 7))).toNatClampNeg) a1).1 141 7))) + (nI 1)) 1060) (some (((am_si (am_si (am_si x2.2 141 (((nI 1000) + ((nI 2) * (x2.2.1 141 7))).toNatClampNeg) a1) 141 ((((nI 1000) + ((nI 2) * ((am_si x2.2 141 (((nI 1000) + ((nI 2) * (x2.2.1 141 7))).toNatClampNeg) a1).1 141 7))) + (nI 1)).toNatClampNeg) a2) 141 7 (((am_si (am_si x2.2 141 (((nI 1000) + ((nI 2) * (x2.2.1 141 7))).toNatClampNeg) a1) 141 ((((nI 1000) + ((nI 2) * ((am_si x2.2 141 (((nI 1000) + ((nI 2) * (x2.2.1 141 7))).toNatClampNeg) a1).1 141 7))) + (nI 1)).toNatClampNeg) a2).1 141 7) + (nI 1))).1 141 7), (am_si (am_si (am_si x2.2 141 (((nI 1000) + ((nI 2) * (x2.2.1 141 7))).toNatClampNeg) a1) 141 ((((nI 1000) + ((nI 2) * ((am_si x2.2 141 (((nI 1000) + ((nI 2) * (x2.2.1 141 7))).toNatClampNeg) a1).1 141 7))) + (nI 1)).toNatClampNeg) a2) 141 7 (((am_si (am_si x2.2 141 (((nI 1000) + ((nI 2) * (x2.2.1 141 7))).toNatClampNeg) a1) 141 ((((nI 1000) + ((nI 2) * ((am_si x2.2 141 (((nI 1000) + ((nI 2) * (x2.2.1 141 7))).toNatClampNeg) a1).1 141 7))) + (nI 1)).toNatClampNeg) a2).1 141 7) + (nI 1)))))))))))
set_option maxRecDepth 20000 in
theorem ok_M_like {X : am_X} {a1 : Int32} {a2 : Int32} {v : Int32} {τ τ' : am_T} (hF : am_F X "ShareHouseModel" cX12_like 3) (hR : am_R X 2 42) (hB : am_B X (some .int) (some (.int v)) (am_D τ')) (h : M_like τ a1 a2 = some (v, τ')) : am_W X 3 (0, [(0, .ref 140), (1, .int a1), (2, .int a2)], [], am_D τ) := by
  unfold M_like at h
  refine am_seg s_M_like_0 (y := (1, [(0, .ref 140), (1, .int a1), (2, .int a2)], [.int a1], am_D τ)) hF t_s_M_like_0 rfl rfl ?_
  refine am_bd h (fun x1 hx h => ?_)
  refine am_callS (As := [.int a1]) (r := (some (.int x1.1))) (st := []) (σ' := am_D x1.2) hF hR d_X12_like_1 (c_M_isHead (τ' := x1.2) hx) (Nat.le_refl _) (Nat.le_refl _) wl_M_203 ws_yX12_isHead wn_ShareHouseModel wc_yX12_isHead wy_yX12_isHead rfl ⟨by decide, by decide⟩ (Nat.le_of_ble_eq_true rfl) ?_
  refine am_ite h (fun hc h => ?_) (fun hc h => ?_)
  · refine am_if_eq_t (t := 18) d_X12_like_4 (by decide) hc hF ?_
    refine am_seg s_M_like_1 (y := (19, [(0, .ref 140), (1, .int a1), (2, .int a2)], [.int (-1 : Int32)], am_D x1.2)) hF t_s_M_like_1 rfl rfl ?_
    obtain ⟨rfl, rfl⟩ := am_pair h
    exact am_iret d_X12_like_19 hF hB
  · refine am_if_eq_f (t := 18) d_X12_like_4 (by decide) hc hF ?_
    refine am_seg s_M_like_2 (y := (12, [(0, .ref 140), (1, .int a1), (2, .int a2)], [.int (nI 9999), .int (nI 0), .int a2], am_D x1.2)) hF t_s_M_like_2 rfl rfl ?_
    refine am_bd h (fun x2 hx h => ?_)
    refine am_callS (As := [.int a2, .int (nI 0), .int (nI 9999)]) (r := (some (.int x2.1))) (st := []) (σ' := am_D x2.2) hF hR d_X12_like_12 (c_M_in (τ' := x2.2) hx) (Nat.le_refl _) (Nat.le_refl _) wl_M_51 ws_yX12_in wn_ShareHouseModel wc_yX12_in wy_yX12_in rfl ⟨by decide, by decide⟩ (Nat.le_of_ble_eq_true rfl) ?_
    refine am_ite h (fun hc h => ?_) (fun hc h => ?_)
    · refine am_if_ne_f (t := 20) d_X12_like_15 (by decide) hc hF ?_
      refine am_seg s_M_like_13 (y := (19, [(0, .ref 140), (1, .int a1), (2, .int a2)], [.int (-1 : Int32)], am_D x2.2)) hF t_s_M_like_13 rfl rfl ?_
      obtain ⟨rfl, rfl⟩ := am_pair h
      exact am_iret d_X12_like_19 hF hB
    · refine am_if_ne_t (t := 20) d_X12_like_15 (by decide) hc hF ?_
      refine am_seg s_M_like_3 (y := (26, [(0, .ref 140), (1, .int a1), (2, .int a2)], [.int (nI 7), .ref 141], am_D x2.2)) hF t_s_M_like_3 rfl rfl ?_
      refine am_iald (n := 1060) (j := 7) d_X12_like_26 (Nat.le_of_ble_eq_true rfl) (Nat.le_of_ble_eq_true rfl) rfl (by decide) rfl hF ?_
      refine am_seg s_M_like_4 (y := (29, [(0, .ref 140), (1, .int a1), (2, .int a2)], [.int (nI 16), .int (x2.2.1 141 7)], am_D x2.2)) hF t_s_M_like_4 rfl rfl ?_
      refine am_ite h (fun hc h => ?_) (fun hc h => ?_)
      · refine am_icmp_ne_f (t := 35) d_X12_like_29 (by decide) hc hF ?_
        refine am_seg s_M_like_12 (y := (34, [(0, .ref 140), (1, .int a1), (2, .int a2)], [.int (-2 : Int32)], am_D x2.2)) hF t_s_M_like_12 rfl rfl ?_
        obtain ⟨rfl, rfl⟩ := am_pair h
        exact am_iret d_X12_like_34 hF hB
      · refine am_icmp_ne_t (t := 35) d_X12_like_29 (by decide) hc hF ?_
        refine am_seg s_M_like_5 (y := (49, [(0, .ref 140), (1, .int a1), (2, .int a2)], [.int (nI 7), .ref 141, .int (nI 2), .int (nI 1000), .ref 141], am_D x2.2)) hF t_s_M_like_5 rfl rfl ?_
        refine am_iald (n := 1060) (j := 7) d_X12_like_49 (Nat.le_of_ble_eq_true rfl) (Nat.le_of_ble_eq_true rfl) rfl (by decide) rfl hF ?_
        refine am_seg s_M_like_6 (y := (53, [(0, .ref 140), (1, .int a1), (2, .int a2)], [.int a1, .int ((nI 1000) + ((nI 2) * (x2.2.1 141 7))), .ref 141], am_D x2.2)) hF t_s_M_like_6 rfl rfl ?_
        refine am_gd h (fun hi h => ?_)
        refine am_iast (n := 1060) (j := (((nI 1000) + ((nI 2) * (x2.2.1 141 7))).toNatClampNeg)) d_X12_like_53 (Nat.le_of_ble_eq_true rfl) (Nat.le_of_ble_eq_true rfl) rfl hi rfl hF ?_
        refine am_seg s_M_like_7 (y := (68, [(0, .ref 140), (1, .int a1), (2, .int a2)], [.int (nI 7), .ref 141, .int (nI 2), .int (nI 1000), .ref 141], am_D (am_si x2.2 141 (((nI 1000) + ((nI 2) * (x2.2.1 141 7))).toNatClampNeg) a1))) hF t_s_M_like_7 rfl rfl ?_
        refine am_iald (n := 1060) (j := 7) d_X12_like_68 (Nat.le_of_ble_eq_true rfl) (Nat.le_of_ble_eq_true rfl) rfl (by decide) rfl hF ?_
        refine am_seg s_M_like_8 (y := (74, [(0, .ref 140), (1, .int a1), (2, .int a2)], [.int a2, .int (((nI 1000) + ((nI 2) * ((am_si x2.2 141 (((nI 1000) + ((nI 2) * (x2.2.1 141 7))).toNatClampNeg) a1).1 141 7))) + (nI 1)), .ref 141], am_D (am_si x2.2 141 (((nI 1000) + ((nI 2) * (x2.2.1 141 7))).toNatClampNeg) a1))) hF t_s_M_like_8 rfl rfl ?_
        refine am_gd h (fun hi h => ?_)
        refine am_iast (n := 1060) (j := ((((nI 1000) + ((nI 2) * ((am_si x2.2 141 (((nI 1000) + ((nI 2) * (x2.2.1 141 7))).toNatClampNeg) a1).1 141 7))) + (nI 1)).toNatClampNeg)) d_X12_like_74 (Nat.le_of_ble_eq_true rfl) (Nat.le_of_ble_eq_true rfl) rfl hi rfl hF ?_
        refine am_seg s_M_like_9 (y := (82, [(0, .ref 140), (1, .int a1), (2, .int a2)], [.int (nI 7), .ref 141, .int (nI 7), .ref 141], am_D (am_si (am_si x2.2 141 (((nI 1000) + ((nI 2) * (x2.2.1 141 7))).toNatClampNeg) a1) 141 ((((nI 1000) + ((nI 2) * ((am_si x2.2 141 (((nI 1000) + ((nI 2) * (x2.2.1 141 7))).toNatClampNeg) a1).1 141 7))) + (nI 1)).toNatClampNeg) a2))) hF t_s_M_like_9 rfl rfl ?_
        refine am_iald (n := 1060) (j := 7) d_X12_like_82 (Nat.le_of_ble_eq_true rfl) (Nat.le_of_ble_eq_true rfl) rfl (by decide) rfl hF ?_
        refine am_seg s_M_like_10 (y := (85, [(0, .ref 140), (1, .int a1), (2, .int a2)], [.int (((am_si (am_si x2.2 141 (((nI 1000) + ((nI 2) * (x2.2.1 141 7))).toNatClampNeg) a1) 141 ((((nI 1000) + ((nI 2) * ((am_si x2.2 141 (((nI 1000) + ((nI 2) * (x2.2.1 141 7))).toNatClampNeg) a1).1 141 7))) + (nI 1)).toNatClampNeg) a2).1 141 7) + (nI 1)), .int (nI 7), .ref 141], am_D (am_si (am_si x2.2 141 (((nI 1000) + ((nI 2) * (x2.2.1 141 7))).toNatClampNeg) a1) 141 ((((nI 1000) + ((nI 2) * ((am_si x2.2 141 (((nI 1000) + ((nI 2) * (x2.2.1 141 7))).toNatClampNeg) a1).1 141 7))) + (nI 1)).toNatClampNeg) a2))) hF t_s_M_like_10 rfl rfl ?_
        refine am_iast (n := 1060) (j := 7) d_X12_like_85 (Nat.le_of_ble_eq_true rfl) (Nat.le_of_ble_eq_true rfl) rfl (by decide) rfl hF ?_
        refine am_seg s_M_like_11 (y := (92, [(0, .ref 140), (1, .int a1), (2, .int a2)], [.int (nI 7), .ref 141], am_D (am_si (am_si (am_si x2.2 141 (((nI 1000) + ((nI 2) * (x2.2.1 141 7))).toNatClampNeg) a1) 141 ((((nI 1000) + ((nI 2) * ((am_si x2.2 141 (((nI 1000) + ((nI 2) * (x2.2.1 141 7))).toNatClampNeg) a1).1 141 7))) + (nI 1)).toNatClampNeg) a2) 141 7 (((am_si (am_si x2.2 141 (((nI 1000) + ((nI 2) * (x2.2.1 141 7))).toNatClampNeg) a1) 141 ((((nI 1000) + ((nI 2) * ((am_si x2.2 141 (((nI 1000) + ((nI 2) * (x2.2.1 141 7))).toNatClampNeg) a1).1 141 7))) + (nI 1)).toNatClampNeg) a2).1 141 7) + (nI 1))))) hF t_s_M_like_11 rfl rfl ?_
        refine am_iald (n := 1060) (j := 7) d_X12_like_92 (Nat.le_of_ble_eq_true rfl) (Nat.le_of_ble_eq_true rfl) rfl (by decide) rfl hF ?_
        obtain ⟨rfl, rfl⟩ := am_pair h
        exact am_iret d_X12_like_93 hF hB
theorem c_M_like {a1 : Int32} {a2 : Int32} {v : Int32} {τ τ' : am_T} (h : M_like τ a1 a2 = some (v, τ')) : am_C yX12_like cX12_like 3 (some .int) 2 42 [.ref 140, .int a1, .int a2] (am_D τ) (some (.int v)) (am_D τ') :=
  am_enter (by decide +kernel) (Nat.le_of_ble_eq_true rfl) ⟨Nat.le_refl _, Nat.le_refl _⟩ (fun X hF hR hB => ok_M_like hF hR hB h)
def s_M_fairOf_0 : List am_Q := [(0, .iconst 0, 0, 0, 0, .int (nI 0)), (1, .istore_n 2, 0, 0, 0, .null), (2, .sipush 1000, 0, 0, 0, .int (nI 1000)), (5, .istore_n 3, 0, 0, 0, .null)]
theorem t_s_M_fairOf_0 : s_M_fairOf_0.all (am_ok 12 cX12_fairOf) = true := by decide +kernel
def s_M_fairOf_1 : List am_Q := [(6, .iload_n 3, 0, 0, 0, .null), (7, .sipush 1000, 0, 0, 0, .int (nI 1000)), (10, .iconst 2, 0, 0, 0, .int (nI 2)), (11, .aload_n 0, 0, 0, 0, .null), (12, .getfield 7, 12, 0, 152, .null), (15, .bipush 7, 0, 0, 0, .int (nI 7))]
theorem t_s_M_fairOf_1 : s_M_fairOf_1.all (am_ok 12 cX12_fairOf) = true := by decide +kernel
theorem d_X12_fairOf_17 : decode cX12_fairOf 17 = .ok (.iaload, 1) := by decide +kernel
def s_M_fairOf_2 : List am_Q := [(18, .imul, 0, 0, 0, .null), (19, .iadd, 0, 0, 0, .null)]
theorem t_s_M_fairOf_2 : s_M_fairOf_2.all (am_ok 12 cX12_fairOf) = true := by decide +kernel
theorem d_X12_fairOf_20 : decode cX12_fairOf 20 = .ok (.if_icmp .ge 27, 3) := by decide +kernel
def s_M_fairOf_3 : List am_Q := [(47, .iload_n 2, 0, 0, 0, .null), (48, .iconst 3, 0, 0, 0, .int (nI 3))]
theorem t_s_M_fairOf_3 : s_M_fairOf_3.all (am_ok 12 cX12_fairOf) = true := by decide +kernel
theorem d_X12_fairOf_49 : decode cX12_fairOf 49 = .ok (.if_icmp .ge 6, 3) := by decide +kernel
def s_M_fairOf_4 : List am_Q := [(55, .sipush 1000, 0, 0, 0, .int (nI 1000)), (58, .istore_n 3, 0, 0, 0, .null)]
theorem t_s_M_fairOf_4 : s_M_fairOf_4.all (am_ok 12 cX12_fairOf) = true := by decide +kernel
def s_M_fairOf_5 : List am_Q := [(59, .iload_n 3, 0, 0, 0, .null), (60, .sipush 1000, 0, 0, 0, .int (nI 1000)), (63, .iconst 2, 0, 0, 0, .int (nI 2)), (64, .aload_n 0, 0, 0, 0, .null), (65, .getfield 7, 12, 0, 152, .null), (68, .bipush 7, 0, 0, 0, .int (nI 7))]
theorem t_s_M_fairOf_5 : s_M_fairOf_5.all (am_ok 12 cX12_fairOf) = true := by decide +kernel
theorem d_X12_fairOf_70 : decode cX12_fairOf 70 = .ok (.iaload, 1) := by decide +kernel
def s_M_fairOf_6 : List am_Q := [(71, .imul, 0, 0, 0, .null), (72, .iadd, 0, 0, 0, .null)]
theorem t_s_M_fairOf_6 : s_M_fairOf_6.all (am_ok 12 cX12_fairOf) = true := by decide +kernel
theorem d_X12_fairOf_73 : decode cX12_fairOf 73 = .ok (.if_icmp .ge 137, 3) := by decide +kernel
def s_M_fairOf_7 : List am_Q := [(210, .bipush (-3), 0, 0, 0, .int (-3 : Int32))]
theorem t_s_M_fairOf_7 : s_M_fairOf_7.all (am_ok 12 cX12_fairOf) = true := by decide +kernel
theorem d_X12_fairOf_212 : decode cX12_fairOf 212 = .ok (.ireturn, 1) := by decide +kernel
def s_M_fairOf_8 : List am_Q := [(76, .iconst 0, 0, 0, 0, .int (nI 0)), (77, .istore 4, 0, 0, 0, .null), (79, .sipush 1000, 0, 0, 0, .int (nI 1000)), (82, .istore 5, 0, 0, 0, .null)]
theorem t_s_M_fairOf_8 : s_M_fairOf_8.all (am_ok 12 cX12_fairOf) = true := by decide +kernel
def s_M_fairOf_9 : List am_Q := [(84, .iload 5, 0, 0, 0, .null), (86, .sipush 1000, 0, 0, 0, .int (nI 1000)), (89, .iconst 2, 0, 0, 0, .int (nI 2)), (90, .aload_n 0, 0, 0, 0, .null), (91, .getfield 7, 12, 0, 152, .null), (94, .bipush 7, 0, 0, 0, .int (nI 7))]
theorem t_s_M_fairOf_9 : s_M_fairOf_9.all (am_ok 12 cX12_fairOf) = true := by decide +kernel
theorem d_X12_fairOf_96 : decode cX12_fairOf 96 = .ok (.iaload, 1) := by decide +kernel
def s_M_fairOf_10 : List am_Q := [(97, .imul, 0, 0, 0, .null), (98, .iadd, 0, 0, 0, .null)]
theorem t_s_M_fairOf_10 : s_M_fairOf_10.all (am_ok 12 cX12_fairOf) = true := by decide +kernel
theorem d_X12_fairOf_99 : decode cX12_fairOf 99 = .ok (.if_icmp .ge 76, 3) := by decide +kernel
def s_M_fairOf_11 : List am_Q := [(175, .aload_n 0, 0, 0, 0, .null), (176, .getfield 7, 12, 0, 152, .null), (179, .iload_n 3, 0, 0, 0, .null)]
theorem t_s_M_fairOf_11 : s_M_fairOf_11.all (am_ok 12 cX12_fairOf) = true := by decide +kernel
theorem d_X12_fairOf_180 : decode cX12_fairOf 180 = .ok (.iaload, 1) := by decide +kernel
def s_M_fairOf_12 : List am_Q := [(181, .iload_n 1, 0, 0, 0, .null)]
theorem t_s_M_fairOf_12 : s_M_fairOf_12.all (am_ok 12 cX12_fairOf) = true := by decide +kernel
theorem d_X12_fairOf_182 : decode cX12_fairOf 182 = .ok (.if_icmp .ne 22, 3) := by decide +kernel
def s_M_fairOf_13 : List am_Q := [(204, .iinc 3 2, 0, 0, 0, .int (nI 2)), (207, .goto (-148), 59, 0, 0, .null)]
theorem t_s_M_fairOf_13 : s_M_fairOf_13.all (am_ok 12 cX12_fairOf) = true := by decide +kernel
def s_M_fairOf_14 : List am_Q := [(185, .iload 4, 0, 0, 0, .null), (187, .iconst 3, 0, 0, 0, .int (nI 3)), (188, .iload_n 2, 0, 0, 0, .null), (189, .imul, 0, 0, 0, .null), (190, .iconst 4, 0, 0, 0, .int (nI 4))]
theorem t_s_M_fairOf_14 : s_M_fairOf_14.all (am_ok 12 cX12_fairOf) = true := by decide +kernel
theorem d_X12_fairOf_191 : decode cX12_fairOf 191 = .ok (.idiv, 1) := by decide +kernel
theorem d_X12_fairOf_192 : decode cX12_fairOf 192 = .ok (.if_icmp .ne 12, 3) := by decide +kernel
def s_M_fairOf_15 : List am_Q := [(204, .iinc 3 2, 0, 0, 0, .int (nI 2)), (207, .goto (-148), 59, 0, 0, .null)]
theorem t_s_M_fairOf_15 : s_M_fairOf_15.all (am_ok 12 cX12_fairOf) = true := by decide +kernel
def s_M_fairOf_16 : List am_Q := [(195, .aload_n 0, 0, 0, 0, .null), (196, .getfield 7, 12, 0, 152, .null), (199, .iload_n 3, 0, 0, 0, .null), (200, .iconst 1, 0, 0, 0, .int (nI 1)), (201, .iadd, 0, 0, 0, .null)]
theorem t_s_M_fairOf_16 : s_M_fairOf_16.all (am_ok 12 cX12_fairOf) = true := by decide +kernel
theorem d_X12_fairOf_202 : decode cX12_fairOf 202 = .ok (.iaload, 1) := by decide +kernel
theorem d_X12_fairOf_203 : decode cX12_fairOf 203 = .ok (.ireturn, 1) := by decide +kernel
def s_M_fairOf_17 : List am_Q := [(102, .iload 4, 0, 0, 0, .null), (104, .aload_n 0, 0, 0, 0, .null), (105, .getfield 7, 12, 0, 152, .null), (108, .iload 5, 0, 0, 0, .null)]
theorem t_s_M_fairOf_17 : s_M_fairOf_17.all (am_ok 12 cX12_fairOf) = true := by decide +kernel
theorem d_X12_fairOf_110 : decode cX12_fairOf 110 = .ok (.iaload, 1) := by decide +kernel
def s_M_fairOf_18 : List am_Q := [(111, .iload_n 1, 0, 0, 0, .null)]
theorem t_s_M_fairOf_18 : s_M_fairOf_18.all (am_ok 12 cX12_fairOf) = true := by decide +kernel
theorem d_X12_fairOf_112 : decode cX12_fairOf 112 = .ok (.if_icmp .ne 53, 3) := by decide +kernel
def s_M_fairOf_19 : List am_Q := [(165, .iconst 0, 0, 0, 0, .int (nI 0)), (166, .iadd, 0, 0, 0, .null), (167, .istore 4, 0, 0, 0, .null), (169, .iinc 5 2, 0, 0, 0, .int (nI 2)), (172, .goto (-88), 84, 0, 0, .null)]
theorem t_s_M_fairOf_19 : s_M_fairOf_19.all (am_ok 12 cX12_fairOf) = true := by decide +kernel
def s_M_fairOf_20 : List am_Q := [(115, .aload_n 0, 0, 0, 0, .null), (116, .getfield 7, 12, 0, 152, .null), (119, .iload 5, 0, 0, 0, .null), (121, .iconst 1, 0, 0, 0, .int (nI 1)), (122, .iadd, 0, 0, 0, .null)]
theorem t_s_M_fairOf_20 : s_M_fairOf_20.all (am_ok 12 cX12_fairOf) = true := by decide +kernel
theorem d_X12_fairOf_123 : decode cX12_fairOf 123 = .ok (.iaload, 1) := by decide +kernel
def s_M_fairOf_21 : List am_Q := [(124, .aload_n 0, 0, 0, 0, .null), (125, .getfield 7, 12, 0, 152, .null), (128, .iload_n 3, 0, 0, 0, .null), (129, .iconst 1, 0, 0, 0, .int (nI 1)), (130, .iadd, 0, 0, 0, .null)]
theorem t_s_M_fairOf_21 : s_M_fairOf_21.all (am_ok 12 cX12_fairOf) = true := by decide +kernel
theorem d_X12_fairOf_131 : decode cX12_fairOf 131 = .ok (.iaload, 1) := by decide +kernel
theorem d_X12_fairOf_132 : decode cX12_fairOf 132 = .ok (.if_icmp .lt 29, 3) := by decide +kernel
def s_M_fairOf_22 : List am_Q := [(161, .iconst 1, 0, 0, 0, .int (nI 1)), (162, .goto 4, 166, 0, 0, .null), (166, .iadd, 0, 0, 0, .null), (167, .istore 4, 0, 0, 0, .null), (169, .iinc 5 2, 0, 0, 0, .int (nI 2)), (172, .goto (-88), 84, 0, 0, .null)]
theorem t_s_M_fairOf_22 : s_M_fairOf_22.all (am_ok 12 cX12_fairOf) = true := by decide +kernel
def s_M_fairOf_23 : List am_Q := [(135, .aload_n 0, 0, 0, 0, .null), (136, .getfield 7, 12, 0, 152, .null), (139, .iload 5, 0, 0, 0, .null), (141, .iconst 1, 0, 0, 0, .int (nI 1)), (142, .iadd, 0, 0, 0, .null)]
theorem t_s_M_fairOf_23 : s_M_fairOf_23.all (am_ok 12 cX12_fairOf) = true := by decide +kernel
theorem d_X12_fairOf_143 : decode cX12_fairOf 143 = .ok (.iaload, 1) := by decide +kernel
def s_M_fairOf_24 : List am_Q := [(144, .aload_n 0, 0, 0, 0, .null), (145, .getfield 7, 12, 0, 152, .null), (148, .iload_n 3, 0, 0, 0, .null), (149, .iconst 1, 0, 0, 0, .int (nI 1)), (150, .iadd, 0, 0, 0, .null)]
theorem t_s_M_fairOf_24 : s_M_fairOf_24.all (am_ok 12 cX12_fairOf) = true := by decide +kernel
theorem d_X12_fairOf_151 : decode cX12_fairOf 151 = .ok (.iaload, 1) := by decide +kernel
theorem d_X12_fairOf_152 : decode cX12_fairOf 152 = .ok (.if_icmp .ne 13, 3) := by decide +kernel
def s_M_fairOf_25 : List am_Q := [(165, .iconst 0, 0, 0, 0, .int (nI 0)), (166, .iadd, 0, 0, 0, .null), (167, .istore 4, 0, 0, 0, .null), (169, .iinc 5 2, 0, 0, 0, .int (nI 2)), (172, .goto (-88), 84, 0, 0, .null)]
theorem t_s_M_fairOf_25 : s_M_fairOf_25.all (am_ok 12 cX12_fairOf) = true := by decide +kernel
def s_M_fairOf_26 : List am_Q := [(155, .iload 5, 0, 0, 0, .null), (157, .iload_n 3, 0, 0, 0, .null)]
theorem t_s_M_fairOf_26 : s_M_fairOf_26.all (am_ok 12 cX12_fairOf) = true := by decide +kernel
theorem d_X12_fairOf_158 : decode cX12_fairOf 158 = .ok (.if_icmp .ge 7, 3) := by decide +kernel
def s_M_fairOf_27 : List am_Q := [(165, .iconst 0, 0, 0, 0, .int (nI 0)), (166, .iadd, 0, 0, 0, .null), (167, .istore 4, 0, 0, 0, .null), (169, .iinc 5 2, 0, 0, 0, .int (nI 2)), (172, .goto (-88), 84, 0, 0, .null)]
theorem t_s_M_fairOf_27 : s_M_fairOf_27.all (am_ok 12 cX12_fairOf) = true := by decide +kernel
def s_M_fairOf_28 : List am_Q := [(161, .iconst 1, 0, 0, 0, .int (nI 1)), (162, .goto 4, 166, 0, 0, .null), (166, .iadd, 0, 0, 0, .null), (167, .istore 4, 0, 0, 0, .null), (169, .iinc 5 2, 0, 0, 0, .int (nI 2)), (172, .goto (-88), 84, 0, 0, .null)]
theorem t_s_M_fairOf_28 : s_M_fairOf_28.all (am_ok 12 cX12_fairOf) = true := by decide +kernel
def s_M_fairOf_29 : List am_Q := [(52, .bipush (-3), 0, 0, 0, .int (-3 : Int32))]
theorem t_s_M_fairOf_29 : s_M_fairOf_29.all (am_ok 12 cX12_fairOf) = true := by decide +kernel
theorem d_X12_fairOf_54 : decode cX12_fairOf 54 = .ok (.ireturn, 1) := by decide +kernel
def s_M_fairOf_30 : List am_Q := [(23, .iload_n 2, 0, 0, 0, .null), (24, .aload_n 0, 0, 0, 0, .null), (25, .getfield 7, 12, 0, 152, .null), (28, .iload_n 3, 0, 0, 0, .null)]
theorem t_s_M_fairOf_30 : s_M_fairOf_30.all (am_ok 12 cX12_fairOf) = true := by decide +kernel
theorem d_X12_fairOf_29 : decode cX12_fairOf 29 = .ok (.iaload, 1) := by decide +kernel
def s_M_fairOf_31 : List am_Q := [(30, .iload_n 1, 0, 0, 0, .null)]
theorem t_s_M_fairOf_31 : s_M_fairOf_31.all (am_ok 12 cX12_fairOf) = true := by decide +kernel
theorem d_X12_fairOf_31 : decode cX12_fairOf 31 = .ok (.if_icmp .ne 7, 3) := by decide +kernel
def s_M_fairOf_32 : List am_Q := [(38, .iconst 0, 0, 0, 0, .int (nI 0)), (39, .iadd, 0, 0, 0, .null), (40, .istore_n 2, 0, 0, 0, .null), (41, .iinc 3 2, 0, 0, 0, .int (nI 2)), (44, .goto (-38), 6, 0, 0, .null)]
theorem t_s_M_fairOf_32 : s_M_fairOf_32.all (am_ok 12 cX12_fairOf) = true := by decide +kernel
def s_M_fairOf_33 : List am_Q := [(34, .iconst 1, 0, 0, 0, .int (nI 1)), (35, .goto 4, 39, 0, 0, .null), (39, .iadd, 0, 0, 0, .null), (40, .istore_n 2, 0, 0, 0, .null), (41, .iinc 3 2, 0, 0, 0, .int (nI 2)), (44, .goto (-38), 6, 0, 0, .null)]
theorem t_s_M_fairOf_33 : s_M_fairOf_33.all (am_ok 12 cX12_fairOf) = true := by decide +kernel
def M_fairOf_84 (k59 : am_T → Int32 → Int32 → Int32 → Option (Int32 × am_T)) : Nat → am_T → Int32 → Int32 → Int32 → Int32 → Int32 → Option (Int32 × am_T)
  | 0, _, _, _, _, _, _ => none
  | n + 1, τ, a1, a2, a3, a4, a5 =>
    if ((nI 1000) + ((nI 2) * (τ.1 141 7))) ≤ a5 then
  (am_g (am_in a3 1060) (if (τ.1 141 (a3.toNatClampNeg)) = a1 then
  (if a4 = (((nI 3) * a2) / (nI 4)) then
  (am_g (am_in (a3 + (nI 1)) 1060) (some ((τ.1 141 ((a3 + (nI 1)).toNatClampNeg)), τ)))
else
  (k59 τ a1 a2 (a3 + (nI 2))))
else
  (k59 τ a1 a2 (a3 + (nI 2)))))
else
  (am_g (am_in a5 1060) (if (τ.1 141 (a5.toNatClampNeg)) = a1 then
  (am_g (am_in (a5 + (nI 1)) 1060) (am_g (am_in (a3 + (nI 1)) 1060) (if (τ.1 141 ((a5 + (nI 1)).toNatClampNeg)) < (τ.1 141 ((a3 + (nI 1)).toNatClampNeg)) then
  ((M_fairOf_84 k59 n) τ a1 a2 a3 (a4 + (nI 1)) (a5 + (nI 2)))
else
  (am_g (am_in (a5 + (nI 1)) 1060) (am_g (am_in (a3 + (nI 1)) 1060) (if (τ.1 141 ((a5 + (nI 1)).toNatClampNeg)) = (τ.1 141 ((a3 + (nI 1)).toNatClampNeg)) then
  (if a3 ≤ a5 then
  ((M_fairOf_84 k59 n) τ a1 a2 a3 (a4 + (nI 0)) (a5 + (nI 2)))
else
  ((M_fairOf_84 k59 n) τ a1 a2 a3 (a4 + (nI 1)) (a5 + (nI 2))))
else
  ((M_fairOf_84 k59 n) τ a1 a2 a3 (a4 + (nI 0)) (a5 + (nI 2)))))))))
else
  ((M_fairOf_84 k59 n) τ a1 a2 a3 (a4 + (nI 0)) (a5 + (nI 2)))))
set_option maxRecDepth 20000 in
theorem ok_M_fairOf_84 {X : am_X} {v : Int32} {τ' : am_T} (hF : am_F X "ShareHouseModel" cX12_fairOf 6) (hR : am_R X 0 0) (hB : am_B X (some .int) (some (.int v)) (am_D τ')) {k59 : am_T → Int32 → Int32 → Int32 → Option (Int32 × am_T)} (hk59 : ∀ (τ : am_T) (a1 : Int32) (a2 : Int32) (a3 : Int32), k59 τ a1 a2 a3 = some (v, τ') → am_W X 6 (59, [(0, .ref 140), (1, .int a1), (2, .int a2), (3, .int a3)], [], am_D τ)) : ∀ (n : Nat) (τ : am_T) (a1 : Int32) (a2 : Int32) (a3 : Int32) (a4 : Int32) (a5 : Int32), M_fairOf_84 k59 n τ a1 a2 a3 a4 a5 = some (v, τ') → am_W X 6 (84, [(0, .ref 140), (1, .int a1), (2, .int a2), (3, .int a3), (4, .int a4), (5, .int a5)], [], am_D τ) := by
  intro n
  induction n with
  | zero => intro τ a1 a2 a3 a4 a5 h; unfold M_fairOf_84 at h; cases h
  | succ n ih =>
    intro τ a1 a2 a3 a4 a5 h
    unfold M_fairOf_84 at h
    refine am_seg s_M_fairOf_9 (y := (96, [(0, .ref 140), (1, .int a1), (2, .int a2), (3, .int a3), (4, .int a4), (5, .int a5)], [.int (nI 7), .ref 141, .int (nI 2), .int (nI 1000), .int a5], am_D τ)) hF t_s_M_fairOf_9 rfl rfl ?_
    refine am_iald (n := 1060) (j := 7) d_X12_fairOf_96 (Nat.le_of_ble_eq_true rfl) (Nat.le_of_ble_eq_true rfl) rfl (by decide) rfl hF ?_
    refine am_seg s_M_fairOf_10 (y := (99, [(0, .ref 140), (1, .int a1), (2, .int a2), (3, .int a3), (4, .int a4), (5, .int a5)], [.int ((nI 1000) + ((nI 2) * (τ.1 141 7))), .int a5], am_D τ)) hF t_s_M_fairOf_10 rfl rfl ?_
    refine am_ite h (fun hc h => ?_) (fun hc h => ?_)
    · refine am_icmp_ge_t (t := 175) d_X12_fairOf_99 (by decide) hc hF ?_
      refine am_seg s_M_fairOf_11 (y := (180, [(0, .ref 140), (1, .int a1), (2, .int a2), (3, .int a3), (4, .int a4), (5, .int a5)], [.int a3, .ref 141], am_D τ)) hF t_s_M_fairOf_11 rfl rfl ?_
      refine am_gd h (fun hi h => ?_)
      refine am_iald (n := 1060) (j := (a3.toNatClampNeg)) d_X12_fairOf_180 (Nat.le_of_ble_eq_true rfl) (Nat.le_of_ble_eq_true rfl) rfl hi rfl hF ?_
      refine am_seg s_M_fairOf_12 (y := (182, [(0, .ref 140), (1, .int a1), (2, .int a2), (3, .int a3), (4, .int a4), (5, .int a5)], [.int a1, .int (τ.1 141 (a3.toNatClampNeg))], am_D τ)) hF t_s_M_fairOf_12 rfl rfl ?_
      refine am_ite h (fun hc h => ?_) (fun hc h => ?_)
      · refine am_icmp_ne_f (t := 204) d_X12_fairOf_182 (by decide) hc hF ?_
        refine am_seg s_M_fairOf_14 (y := (191, [(0, .ref 140), (1, .int a1), (2, .int a2), (3, .int a3), (4, .int a4), (5, .int a5)], [.int (nI 4), .int ((nI 3) * a2), .int a4], am_D τ)) hF t_s_M_fairOf_14 rfl rfl ?_
        refine am_idiv d_X12_fairOf_191 (by decide) hF ?_
        refine am_ite h (fun hc h => ?_) (fun hc h => ?_)
        · refine am_icmp_ne_f (t := 204) d_X12_fairOf_192 (by decide) hc hF ?_
          refine am_seg s_M_fairOf_16 (y := (202, [(0, .ref 140), (1, .int a1), (2, .int a2), (3, .int a3), (4, .int a4), (5, .int a5)], [.int (a3 + (nI 1)), .ref 141], am_D τ)) hF t_s_M_fairOf_16 rfl rfl ?_
          refine am_gd h (fun hi h => ?_)
          refine am_iald (n := 1060) (j := ((a3 + (nI 1)).toNatClampNeg)) d_X12_fairOf_202 (Nat.le_of_ble_eq_true rfl) (Nat.le_of_ble_eq_true rfl) rfl hi rfl hF ?_
          obtain ⟨rfl, rfl⟩ := am_pair h
          exact am_iret d_X12_fairOf_203 hF hB
        · refine am_icmp_ne_t (t := 204) d_X12_fairOf_192 (by decide) hc hF ?_
          refine am_seg s_M_fairOf_15 (y := (59, [(3, .int (a3 + (nI 2))), (0, .ref 140), (1, .int a1), (2, .int a2), (4, .int a4), (5, .int a5)], [], am_D τ)) hF t_s_M_fairOf_15 rfl rfl ?_
          refine am_pick [1, 2, 3, 0] rfl ?_
          exact hk59 _ _ _ _ h
      · refine am_icmp_ne_t (t := 204) d_X12_fairOf_182 (by decide) hc hF ?_
        refine am_seg s_M_fairOf_13 (y := (59, [(3, .int (a3 + (nI 2))), (0, .ref 140), (1, .int a1), (2, .int a2), (4, .int a4), (5, .int a5)], [], am_D τ)) hF t_s_M_fairOf_13 rfl rfl ?_
        refine am_pick [1, 2, 3, 0] rfl ?_
        exact hk59 _ _ _ _ h
    · refine am_icmp_ge_f (t := 175) d_X12_fairOf_99 (by decide) hc hF ?_
      refine am_seg s_M_fairOf_17 (y := (110, [(0, .ref 140), (1, .int a1), (2, .int a2), (3, .int a3), (4, .int a4), (5, .int a5)], [.int a5, .ref 141, .int a4], am_D τ)) hF t_s_M_fairOf_17 rfl rfl ?_
      refine am_gd h (fun hi h => ?_)
      refine am_iald (n := 1060) (j := (a5.toNatClampNeg)) d_X12_fairOf_110 (Nat.le_of_ble_eq_true rfl) (Nat.le_of_ble_eq_true rfl) rfl hi rfl hF ?_
      refine am_seg s_M_fairOf_18 (y := (112, [(0, .ref 140), (1, .int a1), (2, .int a2), (3, .int a3), (4, .int a4), (5, .int a5)], [.int a1, .int (τ.1 141 (a5.toNatClampNeg)), .int a4], am_D τ)) hF t_s_M_fairOf_18 rfl rfl ?_
      refine am_ite h (fun hc h => ?_) (fun hc h => ?_)
      · refine am_icmp_ne_f (t := 165) d_X12_fairOf_112 (by decide) hc hF ?_
        refine am_seg s_M_fairOf_20 (y := (123, [(0, .ref 140), (1, .int a1), (2, .int a2), (3, .int a3), (4, .int a4), (5, .int a5)], [.int (a5 + (nI 1)), .ref 141, .int a4], am_D τ)) hF t_s_M_fairOf_20 rfl rfl ?_
        refine am_gd h (fun hi h => ?_)
        refine am_iald (n := 1060) (j := ((a5 + (nI 1)).toNatClampNeg)) d_X12_fairOf_123 (Nat.le_of_ble_eq_true rfl) (Nat.le_of_ble_eq_true rfl) rfl hi rfl hF ?_
        refine am_seg s_M_fairOf_21 (y := (131, [(0, .ref 140), (1, .int a1), (2, .int a2), (3, .int a3), (4, .int a4), (5, .int a5)], [.int (a3 + (nI 1)), .ref 141, .int (τ.1 141 ((a5 + (nI 1)).toNatClampNeg)), .int a4], am_D τ)) hF t_s_M_fairOf_21 rfl rfl ?_
        refine am_gd h (fun hi h => ?_)
        refine am_iald (n := 1060) (j := ((a3 + (nI 1)).toNatClampNeg)) d_X12_fairOf_131 (Nat.le_of_ble_eq_true rfl) (Nat.le_of_ble_eq_true rfl) rfl hi rfl hF ?_
        refine am_ite h (fun hc h => ?_) (fun hc h => ?_)
        · refine am_icmp_lt_t (t := 161) d_X12_fairOf_132 (by decide) hc hF ?_
          refine am_seg s_M_fairOf_22 (y := (84, [(5, .int (a5 + (nI 2))), (4, .int (a4 + (nI 1))), (0, .ref 140), (1, .int a1), (2, .int a2), (3, .int a3)], [], am_D τ)) hF t_s_M_fairOf_22 rfl rfl ?_
          refine am_pick [2, 3, 4, 5, 1, 0] rfl ?_
          exact ih _ _ _ _ _ _ h
        · refine am_icmp_lt_f (t := 161) d_X12_fairOf_132 (by decide) hc hF ?_
          refine am_seg s_M_fairOf_23 (y := (143, [(0, .ref 140), (1, .int a1), (2, .int a2), (3, .int a3), (4, .int a4), (5, .int a5)], [.int (a5 + (nI 1)), .ref 141, .int a4], am_D τ)) hF t_s_M_fairOf_23 rfl rfl ?_
          refine am_gd h (fun hi h => ?_)
          refine am_iald (n := 1060) (j := ((a5 + (nI 1)).toNatClampNeg)) d_X12_fairOf_143 (Nat.le_of_ble_eq_true rfl) (Nat.le_of_ble_eq_true rfl) rfl hi rfl hF ?_
          refine am_seg s_M_fairOf_24 (y := (151, [(0, .ref 140), (1, .int a1), (2, .int a2), (3, .int a3), (4, .int a4), (5, .int a5)], [.int (a3 + (nI 1)), .ref 141, .int (τ.1 141 ((a5 + (nI 1)).toNatClampNeg)), .int a4], am_D τ)) hF t_s_M_fairOf_24 rfl rfl ?_
          refine am_gd h (fun hi h => ?_)
          refine am_iald (n := 1060) (j := ((a3 + (nI 1)).toNatClampNeg)) d_X12_fairOf_151 (Nat.le_of_ble_eq_true rfl) (Nat.le_of_ble_eq_true rfl) rfl hi rfl hF ?_
          refine am_ite h (fun hc h => ?_) (fun hc h => ?_)
          · refine am_icmp_ne_f (t := 165) d_X12_fairOf_152 (by decide) hc hF ?_
            refine am_seg s_M_fairOf_26 (y := (158, [(0, .ref 140), (1, .int a1), (2, .int a2), (3, .int a3), (4, .int a4), (5, .int a5)], [.int a3, .int a5, .int a4], am_D τ)) hF t_s_M_fairOf_26 rfl rfl ?_
            refine am_ite h (fun hc h => ?_) (fun hc h => ?_)
            · refine am_icmp_ge_t (t := 165) d_X12_fairOf_158 (by decide) hc hF ?_
              refine am_seg s_M_fairOf_27 (y := (84, [(5, .int (a5 + (nI 2))), (4, .int (a4 + (nI 0))), (0, .ref 140), (1, .int a1), (2, .int a2), (3, .int a3)], [], am_D τ)) hF t_s_M_fairOf_27 rfl rfl ?_
              refine am_pick [2, 3, 4, 5, 1, 0] rfl ?_
              exact ih _ _ _ _ _ _ h
            · refine am_icmp_ge_f (t := 165) d_X12_fairOf_158 (by decide) hc hF ?_
              refine am_seg s_M_fairOf_28 (y := (84, [(5, .int (a5 + (nI 2))), (4, .int (a4 + (nI 1))), (0, .ref 140), (1, .int a1), (2, .int a2), (3, .int a3)], [], am_D τ)) hF t_s_M_fairOf_28 rfl rfl ?_
              refine am_pick [2, 3, 4, 5, 1, 0] rfl ?_
              exact ih _ _ _ _ _ _ h
          · refine am_icmp_ne_t (t := 165) d_X12_fairOf_152 (by decide) hc hF ?_
            refine am_seg s_M_fairOf_25 (y := (84, [(5, .int (a5 + (nI 2))), (4, .int (a4 + (nI 0))), (0, .ref 140), (1, .int a1), (2, .int a2), (3, .int a3)], [], am_D τ)) hF t_s_M_fairOf_25 rfl rfl ?_
            refine am_pick [2, 3, 4, 5, 1, 0] rfl ?_
            exact ih _ _ _ _ _ _ h
      · refine am_icmp_ne_t (t := 165) d_X12_fairOf_112 (by decide) hc hF ?_
        refine am_seg s_M_fairOf_19 (y := (84, [(5, .int (a5 + (nI 2))), (4, .int (a4 + (nI 0))), (0, .ref 140), (1, .int a1), (2, .int a2), (3, .int a3)], [], am_D τ)) hF t_s_M_fairOf_19 rfl rfl ?_
        refine am_pick [2, 3, 4, 5, 1, 0] rfl ?_
        exact ih _ _ _ _ _ _ h
def M_fairOf_59 : Nat → am_T → Int32 → Int32 → Int32 → Option (Int32 × am_T)
  | 0, _, _, _, _ => none
  | n + 1, τ, a1, a2, a3 =>
    if ((nI 1000) + ((nI 2) * (τ.1 141 7))) ≤ a3 then
  (some ((-3 : Int32), τ))
else
  (M_fairOf_84 (M_fairOf_59 n) 5000 τ a1 a2 a3 (nI 0) (nI 1000))
set_option maxRecDepth 20000 in
theorem ok_M_fairOf_59 {X : am_X} {v : Int32} {τ' : am_T} (hF : am_F X "ShareHouseModel" cX12_fairOf 6) (hR : am_R X 0 0) (hB : am_B X (some .int) (some (.int v)) (am_D τ')) : ∀ (n : Nat) (τ : am_T) (a1 : Int32) (a2 : Int32) (a3 : Int32), M_fairOf_59 n τ a1 a2 a3 = some (v, τ') → am_W X 6 (59, [(0, .ref 140), (1, .int a1), (2, .int a2), (3, .int a3)], [], am_D τ) := by
  intro n
  induction n with
  | zero => intro τ a1 a2 a3 h; unfold M_fairOf_59 at h; cases h
  | succ n ih =>
    intro τ a1 a2 a3 h
    unfold M_fairOf_59 at h
    refine am_seg s_M_fairOf_5 (y := (70, [(0, .ref 140), (1, .int a1), (2, .int a2), (3, .int a3)], [.int (nI 7), .ref 141, .int (nI 2), .int (nI 1000), .int a3], am_D τ)) hF t_s_M_fairOf_5 rfl rfl ?_
    refine am_iald (n := 1060) (j := 7) d_X12_fairOf_70 (Nat.le_of_ble_eq_true rfl) (Nat.le_of_ble_eq_true rfl) rfl (by decide) rfl hF ?_
    refine am_seg s_M_fairOf_6 (y := (73, [(0, .ref 140), (1, .int a1), (2, .int a2), (3, .int a3)], [.int ((nI 1000) + ((nI 2) * (τ.1 141 7))), .int a3], am_D τ)) hF t_s_M_fairOf_6 rfl rfl ?_
    refine am_ite h (fun hc h => ?_) (fun hc h => ?_)
    · refine am_icmp_ge_t (t := 210) d_X12_fairOf_73 (by decide) hc hF ?_
      refine am_seg s_M_fairOf_7 (y := (212, [(0, .ref 140), (1, .int a1), (2, .int a2), (3, .int a3)], [.int (-3 : Int32)], am_D τ)) hF t_s_M_fairOf_7 rfl rfl ?_
      obtain ⟨rfl, rfl⟩ := am_pair h
      exact am_iret d_X12_fairOf_212 hF hB
    · refine am_icmp_ge_f (t := 210) d_X12_fairOf_73 (by decide) hc hF ?_
      refine am_seg s_M_fairOf_8 (y := (84, [(5, .int (nI 1000)), (4, .int (nI 0)), (0, .ref 140), (1, .int a1), (2, .int a2), (3, .int a3)], [], am_D τ)) hF t_s_M_fairOf_8 rfl rfl ?_
      refine am_pick [2, 3, 4, 5, 1, 0] rfl ?_
      exact ok_M_fairOf_84 hF hR hB ih _ _ _ _ _ _ _ h
def M_fairOf_6 : Nat → am_T → Int32 → Int32 → Int32 → Option (Int32 × am_T)
  | 0, _, _, _, _ => none
  | n + 1, τ, a1, a2, a3 =>
    if ((nI 1000) + ((nI 2) * (τ.1 141 7))) ≤ a3 then
  (if (nI 3) ≤ a2 then
  (M_fairOf_59 5000 τ a1 a2 (nI 1000))
else
  (some ((-3 : Int32), τ)))
else
  (am_g (am_in a3 1060) (if (τ.1 141 (a3.toNatClampNeg)) = a1 then
  ((M_fairOf_6 n) τ a1 (a2 + (nI 1)) (a3 + (nI 2)))
else
  ((M_fairOf_6 n) τ a1 (a2 + (nI 0)) (a3 + (nI 2)))))
set_option maxRecDepth 20000 in
theorem ok_M_fairOf_6 {X : am_X} {v : Int32} {τ' : am_T} (hF : am_F X "ShareHouseModel" cX12_fairOf 6) (hR : am_R X 0 0) (hB : am_B X (some .int) (some (.int v)) (am_D τ')) : ∀ (n : Nat) (τ : am_T) (a1 : Int32) (a2 : Int32) (a3 : Int32), M_fairOf_6 n τ a1 a2 a3 = some (v, τ') → am_W X 6 (6, [(0, .ref 140), (1, .int a1), (2, .int a2), (3, .int a3)], [], am_D τ) := by
  intro n
  induction n with
  | zero => intro τ a1 a2 a3 h; unfold M_fairOf_6 at h; cases h
  | succ n ih =>
    intro τ a1 a2 a3 h
    unfold M_fairOf_6 at h
    refine am_seg s_M_fairOf_1 (y := (17, [(0, .ref 140), (1, .int a1), (2, .int a2), (3, .int a3)], [.int (nI 7), .ref 141, .int (nI 2), .int (nI 1000), .int a3], am_D τ)) hF t_s_M_fairOf_1 rfl rfl ?_
    refine am_iald (n := 1060) (j := 7) d_X12_fairOf_17 (Nat.le_of_ble_eq_true rfl) (Nat.le_of_ble_eq_true rfl) rfl (by decide) rfl hF ?_
    refine am_seg s_M_fairOf_2 (y := (20, [(0, .ref 140), (1, .int a1), (2, .int a2), (3, .int a3)], [.int ((nI 1000) + ((nI 2) * (τ.1 141 7))), .int a3], am_D τ)) hF t_s_M_fairOf_2 rfl rfl ?_
    refine am_ite h (fun hc h => ?_) (fun hc h => ?_)
    · refine am_icmp_ge_t (t := 47) d_X12_fairOf_20 (by decide) hc hF ?_
      refine am_seg s_M_fairOf_3 (y := (49, [(0, .ref 140), (1, .int a1), (2, .int a2), (3, .int a3)], [.int (nI 3), .int a2], am_D τ)) hF t_s_M_fairOf_3 rfl rfl ?_
      refine am_ite h (fun hc h => ?_) (fun hc h => ?_)
      · refine am_icmp_ge_t (t := 55) d_X12_fairOf_49 (by decide) hc hF ?_
        refine am_seg s_M_fairOf_4 (y := (59, [(3, .int (nI 1000)), (0, .ref 140), (1, .int a1), (2, .int a2)], [], am_D τ)) hF t_s_M_fairOf_4 rfl rfl ?_
        refine am_pick [1, 2, 3, 0] rfl ?_
        exact ok_M_fairOf_59 hF hR hB _ _ _ _ _ h
      · refine am_icmp_ge_f (t := 55) d_X12_fairOf_49 (by decide) hc hF ?_
        refine am_seg s_M_fairOf_29 (y := (54, [(0, .ref 140), (1, .int a1), (2, .int a2), (3, .int a3)], [.int (-3 : Int32)], am_D τ)) hF t_s_M_fairOf_29 rfl rfl ?_
        obtain ⟨rfl, rfl⟩ := am_pair h
        exact am_iret d_X12_fairOf_54 hF hB
    · refine am_icmp_ge_f (t := 47) d_X12_fairOf_20 (by decide) hc hF ?_
      refine am_seg s_M_fairOf_30 (y := (29, [(0, .ref 140), (1, .int a1), (2, .int a2), (3, .int a3)], [.int a3, .ref 141, .int a2], am_D τ)) hF t_s_M_fairOf_30 rfl rfl ?_
      refine am_gd h (fun hi h => ?_)
      refine am_iald (n := 1060) (j := (a3.toNatClampNeg)) d_X12_fairOf_29 (Nat.le_of_ble_eq_true rfl) (Nat.le_of_ble_eq_true rfl) rfl hi rfl hF ?_
      refine am_seg s_M_fairOf_31 (y := (31, [(0, .ref 140), (1, .int a1), (2, .int a2), (3, .int a3)], [.int a1, .int (τ.1 141 (a3.toNatClampNeg)), .int a2], am_D τ)) hF t_s_M_fairOf_31 rfl rfl ?_
      refine am_ite h (fun hc h => ?_) (fun hc h => ?_)
      · refine am_icmp_ne_f (t := 38) d_X12_fairOf_31 (by decide) hc hF ?_
        refine am_seg s_M_fairOf_33 (y := (6, [(3, .int (a3 + (nI 2))), (2, .int (a2 + (nI 1))), (0, .ref 140), (1, .int a1)], [], am_D τ)) hF t_s_M_fairOf_33 rfl rfl ?_
        refine am_pick [2, 3, 1, 0] rfl ?_
        exact ih _ _ _ _ h
      · refine am_icmp_ne_t (t := 38) d_X12_fairOf_31 (by decide) hc hF ?_
        refine am_seg s_M_fairOf_32 (y := (6, [(3, .int (a3 + (nI 2))), (2, .int (a2 + (nI 0))), (0, .ref 140), (1, .int a1)], [], am_D τ)) hF t_s_M_fairOf_32 rfl rfl ?_
        refine am_pick [2, 3, 1, 0] rfl ?_
        exact ih _ _ _ _ h
def M_fairOf (τ : am_T) (a1 : Int32) : Option (Int32 × am_T) :=
  M_fairOf_6 5000 τ a1 (nI 0) (nI 1000)
set_option maxRecDepth 20000 in
theorem ok_M_fairOf {X : am_X} {a1 : Int32} {v : Int32} {τ τ' : am_T} (hF : am_F X "ShareHouseModel" cX12_fairOf 6) (hR : am_R X 0 0) (hB : am_B X (some .int) (some (.int v)) (am_D τ')) (h : M_fairOf τ a1 = some (v, τ')) : am_W X 6 (0, [(0, .ref 140), (1, .int a1)], [], am_D τ) := by
  unfold M_fairOf at h
  refine am_seg s_M_fairOf_0 (y := (6, [(3, .int (nI 1000)), (2, .int (nI 0)), (0, .ref 140), (1, .int a1)], [], am_D τ)) hF t_s_M_fairOf_0 rfl rfl ?_
  refine am_pick [2, 3, 1, 0] rfl ?_
  exact ok_M_fairOf_6 hF hR hB _ _ _ _ _ h
theorem c_M_fairOf {a1 : Int32} {v : Int32} {τ τ' : am_T} (h : M_fairOf τ a1 = some (v, τ')) : am_C yX12_fairOf cX12_fairOf 6 (some .int) 0 0 [.ref 140, .int a1] (am_D τ) (some (.int v)) (am_D τ') :=
  am_enter (by decide +kernel) (Nat.le_of_ble_eq_true rfl) ⟨Nat.le_refl _, Nat.le_refl _⟩ (fun X hF hR hB => ok_M_fairOf hF hR hB h)
def s_M_fair_0 : List am_Q := [(0, .iload_n 1, 0, 0, 0, .null)]
theorem t_s_M_fair_0 : s_M_fair_0.all (am_ok 12 cX12_fair) = true := by decide +kernel
theorem d_X12_fair_1 : decode cX12_fair 1 = .ok (.invokestatic 203, 3) := by decide +kernel
theorem d_X12_fair_4 : decode cX12_fair 4 = .ok (.ifCond .eq 11, 3) := by decide +kernel
def s_M_fair_1 : List am_Q := [(15, .iconst (-1), 0, 0, 0, .int (-1 : Int32))]
theorem t_s_M_fair_1 : s_M_fair_1.all (am_ok 12 cX12_fair) = true := by decide +kernel
theorem d_X12_fair_16 : decode cX12_fair 16 = .ok (.ireturn, 1) := by decide +kernel
def s_M_fair_2 : List am_Q := [(7, .aload_n 0, 0, 0, 0, .null), (8, .iload_n 1, 0, 0, 0, .null)]
theorem t_s_M_fair_2 : s_M_fair_2.all (am_ok 12 cX12_fair) = true := by decide +kernel
theorem d_X12_fair_9 : decode cX12_fair 9 = .ok (.invokevirtual 290, 3) := by decide +kernel
def s_M_fair_3 : List am_Q := [(12, .goto 4, 16, 0, 0, .null)]
theorem t_s_M_fair_3 : s_M_fair_3.all (am_ok 12 cX12_fair) = true := by decide +kernel
def M_fair (τ : am_T) (a1 : Int32) : Option (Int32 × am_T) :=
  (M_isHead τ a1).bind (fun x1 =>
  if x1.1 = 0 then
  (some ((-1 : Int32), x1.2))
else
  ((M_fairOf x1.2 a1).bind (fun x2 =>
  some (x2.1, x2.2))))
set_option maxRecDepth 20000 in
theorem ok_M_fair {X : am_X} {a1 : Int32} {v : Int32} {τ τ' : am_T} (hF : am_F X "ShareHouseModel" cX12_fair 2) (hR : am_R X 2 42) (hB : am_B X (some .int) (some (.int v)) (am_D τ')) (h : M_fair τ a1 = some (v, τ')) : am_W X 2 (0, [(0, .ref 140), (1, .int a1)], [], am_D τ) := by
  unfold M_fair at h
  refine am_seg s_M_fair_0 (y := (1, [(0, .ref 140), (1, .int a1)], [.int a1], am_D τ)) hF t_s_M_fair_0 rfl rfl ?_
  refine am_bd h (fun x1 hx h => ?_)
  refine am_callS (As := [.int a1]) (r := (some (.int x1.1))) (st := []) (σ' := am_D x1.2) hF hR d_X12_fair_1 (c_M_isHead (τ' := x1.2) hx) (Nat.le_refl _) (Nat.le_refl _) wl_M_203 ws_yX12_isHead wn_ShareHouseModel wc_yX12_isHead wy_yX12_isHead rfl ⟨by decide, by decide⟩ (Nat.le_of_ble_eq_true rfl) ?_
  refine am_ite h (fun hc h => ?_) (fun hc h => ?_)
  · refine am_if_eq_t (t := 15) d_X12_fair_4 (by decide) hc hF ?_
    refine am_seg s_M_fair_1 (y := (16, [(0, .ref 140), (1, .int a1)], [.int (-1 : Int32)], am_D x1.2)) hF t_s_M_fair_1 rfl rfl ?_
    obtain ⟨rfl, rfl⟩ := am_pair h
    exact am_iret d_X12_fair_16 hF hB
  · refine am_if_eq_f (t := 15) d_X12_fair_4 (by decide) hc hF ?_
    refine am_seg s_M_fair_2 (y := (9, [(0, .ref 140), (1, .int a1)], [.int a1, .ref 140], am_D x1.2)) hF t_s_M_fair_2 rfl rfl ?_
    refine am_bd h (fun x2 hx h => ?_)
    refine am_callV (As := [.int a1]) (r := (some (.int x2.1))) (st := []) (σ' := am_D x2.2) (ci := 12) hF hR d_X12_fair_9 (c_M_fairOf (τ' := x2.2) hx) (Nat.le_refl _) (Nat.le_refl _) wl_M_290 wi_yX12_fairOf we_yX12_fairOf wn_ShareHouseModel wc_yX12_fairOf (Nat.le_of_ble_eq_true rfl) (Nat.le_of_ble_eq_true rfl) rfl rfl wy_yX12_fairOf rfl ⟨by decide, by decide⟩ (Nat.le_of_ble_eq_true rfl) ?_
    refine am_seg s_M_fair_3 (y := (16, [(0, .ref 140), (1, .int a1)], [.int x2.1], am_D x2.2)) hF t_s_M_fair_3 rfl rfl ?_
    obtain ⟨rfl, rfl⟩ := am_pair h
    exact am_iret d_X12_fair_16 hF hB
theorem c_M_fair {a1 : Int32} {v : Int32} {τ τ' : am_T} (h : M_fair τ a1 = some (v, τ')) : am_C yX12_fair cX12_fair 2 (some .int) 2 42 [.ref 140, .int a1] (am_D τ) (some (.int v)) (am_D τ') :=
  am_enter (by decide +kernel) (Nat.le_of_ble_eq_true rfl) ⟨Nat.le_refl _, Nat.le_refl _⟩ (fun X hF hR hB => ok_M_fair hF hR hB h)
def s_M_cut_0 : List am_Q := [(0, .aload_n 0, 0, 0, 0, .null), (1, .iload_n 1, 0, 0, 0, .null)]
theorem t_s_M_cut_0 : s_M_cut_0.all (am_ok 12 cX12_cut) = true := by decide +kernel
theorem d_X12_cut_2 : decode cX12_cut 2 = .ok (.invokevirtual 236, 3) := by decide +kernel
theorem d_X12_cut_5 : decode cX12_cut 5 = .ok (.ifCond .ne 5, 3) := by decide +kernel
def s_M_cut_1 : List am_Q := [(10, .aload_n 0, 0, 0, 0, .null), (11, .aload_n 0, 0, 0, 0, .null), (12, .iload_n 1, 0, 0, 0, .null), (13, .iconst 0, 0, 0, 0, .int (nI 0))]
theorem t_s_M_cut_1 : s_M_cut_1.all (am_ok 12 cX12_cut) = true := by decide +kernel
theorem d_X12_cut_14 : decode cX12_cut 14 = .ok (.invokevirtual 233, 3) := by decide +kernel
theorem d_X12_cut_17 : decode cX12_cut 17 = .ok (.invokevirtual 290, 3) := by decide +kernel
def s_M_cut_2 : List am_Q := [(20, .istore_n 2, 0, 0, 0, .null), (21, .aload_n 0, 0, 0, 0, .null), (22, .getfield 7, 12, 0, 152, .null), (25, .iconst 1, 0, 0, 0, .int (nI 1))]
theorem t_s_M_cut_2 : s_M_cut_2.all (am_ok 12 cX12_cut) = true := by decide +kernel
theorem d_X12_cut_26 : decode cX12_cut 26 = .ok (.iaload, 1) := by decide +kernel
theorem d_X12_cut_27 : decode cX12_cut 27 = .ok (.ifCond .eq 7, 3) := by decide +kernel
def s_M_cut_3 : List am_Q := [(34, .bipush (-3), 0, 0, 0, .int (-3 : Int32))]
theorem t_s_M_cut_3 : s_M_cut_3.all (am_ok 12 cX12_cut) = true := by decide +kernel
theorem d_X12_cut_36 : decode cX12_cut 36 = .ok (.ireturn, 1) := by decide +kernel
def s_M_cut_4 : List am_Q := [(30, .iload_n 2, 0, 0, 0, .null)]
theorem t_s_M_cut_4 : s_M_cut_4.all (am_ok 12 cX12_cut) = true := by decide +kernel
theorem d_X12_cut_31 : decode cX12_cut 31 = .ok (.ifCond .ge 6, 3) := by decide +kernel
def s_M_cut_5 : List am_Q := [(37, .aload_n 0, 0, 0, 0, .null), (38, .iload_n 1, 0, 0, 0, .null)]
theorem t_s_M_cut_5 : s_M_cut_5.all (am_ok 12 cX12_cut) = true := by decide +kernel
theorem d_X12_cut_39 : decode cX12_cut 39 = .ok (.invokevirtual 248, 3) := by decide +kernel
def s_M_cut_6 : List am_Q := [(42, .iload_n 2, 0, 0, 0, .null)]
theorem t_s_M_cut_6 : s_M_cut_6.all (am_ok 12 cX12_cut) = true := by decide +kernel
theorem d_X12_cut_43 : decode cX12_cut 43 = .ok (.if_icmp .gt 6, 3) := by decide +kernel
def s_M_cut_7 : List am_Q := [(49, .aload_n 0, 0, 0, 0, .null), (50, .iload_n 1, 0, 0, 0, .null)]
theorem t_s_M_cut_7 : s_M_cut_7.all (am_ok 12 cX12_cut) = true := by decide +kernel
theorem d_X12_cut_51 : decode cX12_cut 51 = .ok (.invokevirtual 239, 3) := by decide +kernel
theorem d_X12_cut_54 : decode cX12_cut 54 = .ok (.ifCond .ge 9, 3) := by decide +kernel
def s_M_cut_8 : List am_Q := [(63, .iload_n 2, 0, 0, 0, .null), (64, .aload_n 0, 0, 0, 0, .null), (65, .iconst 1, 0, 0, 0, .int (nI 1))]
theorem t_s_M_cut_8 : s_M_cut_8.all (am_ok 12 cX12_cut) = true := by decide +kernel
theorem d_X12_cut_66 : decode cX12_cut 66 = .ok (.invokevirtual 195, 3) := by decide +kernel
def s_M_cut_9 : List am_Q := [(69, .imul, 0, 0, 0, .null), (70, .bipush 100, 0, 0, 0, .int (nI 100))]
theorem t_s_M_cut_9 : s_M_cut_9.all (am_ok 12 cX12_cut) = true := by decide +kernel
theorem d_X12_cut_72 : decode cX12_cut 72 = .ok (.idiv, 1) := by decide +kernel
def s_M_cut_10 : List am_Q := [(73, .istore_n 3, 0, 0, 0, .null), (74, .aload_n 0, 0, 0, 0, .null), (75, .iload_n 1, 0, 0, 0, .null), (76, .iload_n 3, 0, 0, 0, .null)]
theorem t_s_M_cut_10 : s_M_cut_10.all (am_ok 12 cX12_cut) = true := by decide +kernel
theorem d_X12_cut_77 : decode cX12_cut 77 = .ok (.invokevirtual 245, 3) := by decide +kernel
def s_M_cut_11 : List am_Q := [(80, .iload_n 3, 0, 0, 0, .null)]
theorem t_s_M_cut_11 : s_M_cut_11.all (am_ok 12 cX12_cut) = true := by decide +kernel
theorem d_X12_cut_81 : decode cX12_cut 81 = .ok (.ireturn, 1) := by decide +kernel
def s_M_cut_12 : List am_Q := [(57, .aload_n 0, 0, 0, 0, .null), (58, .iload_n 1, 0, 0, 0, .null)]
theorem t_s_M_cut_12 : s_M_cut_12.all (am_ok 12 cX12_cut) = true := by decide +kernel
theorem d_X12_cut_59 : decode cX12_cut 59 = .ok (.invokevirtual 239, 3) := by decide +kernel
theorem d_X12_cut_62 : decode cX12_cut 62 = .ok (.ireturn, 1) := by decide +kernel
def s_M_cut_13 : List am_Q := [(46, .bipush (-4), 0, 0, 0, .int (-4 : Int32))]
theorem t_s_M_cut_13 : s_M_cut_13.all (am_ok 12 cX12_cut) = true := by decide +kernel
theorem d_X12_cut_48 : decode cX12_cut 48 = .ok (.ireturn, 1) := by decide +kernel
def s_M_cut_14 : List am_Q := [(34, .bipush (-3), 0, 0, 0, .int (-3 : Int32))]
theorem t_s_M_cut_14 : s_M_cut_14.all (am_ok 12 cX12_cut) = true := by decide +kernel
def s_M_cut_15 : List am_Q := [(8, .iconst (-1), 0, 0, 0, .int (-1 : Int32))]
theorem t_s_M_cut_15 : s_M_cut_15.all (am_ok 12 cX12_cut) = true := by decide +kernel
theorem d_X12_cut_9 : decode cX12_cut 9 = .ok (.ireturn, 1) := by decide +kernel
def M_cut (τ : am_T) (a1 : Int32) : Option (Int32 × am_T) :=
  (M_isCost τ a1).bind (fun x1 =>
  if x1.1 = 0 then
  (some ((-1 : Int32), x1.2))
else
  ((M_costAt x1.2 a1 (nI 0)).bind (fun x2 =>
  (M_fairOf x2.2 x2.1).bind (fun x3 =>
  if (x3.2.1 141 1) = 0 then
  (some ((-3 : Int32), x3.2))
else
  (if 0 ≤ x3.1 then
  ((M_levelOf x3.2 a1).bind (fun x4 =>
  if x3.1 < x4.1 then
  ((M_mayRight x4.2 a1).bind (fun x5 =>
  if 0 ≤ x5.1 then
  ((M_together x5.2 (nI 1)).bind (fun x6 =>
  (M_putRight x6.2 a1 ((x3.1 * x6.1) / (nI 100))).bind (fun x7 =>
  some (((x3.1 * x6.1) / (nI 100)), x7))))
else
  ((M_mayRight x5.2 a1).bind (fun x8 =>
  some (x8.1, x8.2)))))
else
  (some ((-4 : Int32), x4.2))))
else
  (some ((-3 : Int32), x3.2)))))))
set_option maxRecDepth 20000 in
theorem ok_M_cut {X : am_X} {a1 : Int32} {v : Int32} {τ τ' : am_T} (hF : am_F X "ShareHouseModel" cX12_cut 4) (hR : am_R X 3 67) (hB : am_B X (some .int) (some (.int v)) (am_D τ')) (h : M_cut τ a1 = some (v, τ')) : am_W X 4 (0, [(0, .ref 140), (1, .int a1)], [], am_D τ) := by
  unfold M_cut at h
  refine am_seg s_M_cut_0 (y := (2, [(0, .ref 140), (1, .int a1)], [.int a1, .ref 140], am_D τ)) hF t_s_M_cut_0 rfl rfl ?_
  refine am_bd h (fun x1 hx h => ?_)
  refine am_callV (As := [.int a1]) (r := (some (.int x1.1))) (st := []) (σ' := am_D x1.2) (ci := 12) hF hR d_X12_cut_2 (c_M_isCost (τ' := x1.2) hx) (Nat.le_refl _) (Nat.le_refl _) wl_M_236 wi_yX12_isCost we_yX12_isCost wn_ShareHouseModel wc_yX12_isCost (Nat.le_of_ble_eq_true rfl) (Nat.le_of_ble_eq_true rfl) rfl rfl wy_yX12_isCost rfl ⟨by decide, by decide⟩ (Nat.le_of_ble_eq_true rfl) ?_
  refine am_ite h (fun hc h => ?_) (fun hc h => ?_)
  · refine am_if_ne_f (t := 10) d_X12_cut_5 (by decide) hc hF ?_
    refine am_seg s_M_cut_15 (y := (9, [(0, .ref 140), (1, .int a1)], [.int (-1 : Int32)], am_D x1.2)) hF t_s_M_cut_15 rfl rfl ?_
    obtain ⟨rfl, rfl⟩ := am_pair h
    exact am_iret d_X12_cut_9 hF hB
  · refine am_if_ne_t (t := 10) d_X12_cut_5 (by decide) hc hF ?_
    refine am_seg s_M_cut_1 (y := (14, [(0, .ref 140), (1, .int a1)], [.int (nI 0), .int a1, .ref 140, .ref 140], am_D x1.2)) hF t_s_M_cut_1 rfl rfl ?_
    refine am_bd h (fun x2 hx h => ?_)
    refine am_callV (As := [.int a1, .int (nI 0)]) (r := (some (.int x2.1))) (st := [.ref 140]) (σ' := am_D x2.2) (ci := 12) hF hR d_X12_cut_14 (c_M_costAt (τ' := x2.2) hx) (Nat.le_refl _) (Nat.le_refl _) wl_M_233 wi_yX12_costAt we_yX12_costAt wn_ShareHouseModel wc_yX12_costAt (Nat.le_of_ble_eq_true rfl) (Nat.le_of_ble_eq_true rfl) rfl rfl wy_yX12_costAt rfl ⟨by decide, by decide⟩ (Nat.le_of_ble_eq_true rfl) ?_
    refine am_bd h (fun x3 hx h => ?_)
    refine am_callV (As := [.int x2.1]) (r := (some (.int x3.1))) (st := []) (σ' := am_D x3.2) (ci := 12) hF hR d_X12_cut_17 (c_M_fairOf (τ' := x3.2) hx) (Nat.le_refl _) (Nat.le_refl _) wl_M_290 wi_yX12_fairOf we_yX12_fairOf wn_ShareHouseModel wc_yX12_fairOf (Nat.le_of_ble_eq_true rfl) (Nat.le_of_ble_eq_true rfl) rfl rfl wy_yX12_fairOf rfl ⟨by decide, by decide⟩ (Nat.le_of_ble_eq_true rfl) ?_
    refine am_seg s_M_cut_2 (y := (26, [(2, .int x3.1), (0, .ref 140), (1, .int a1)], [.int (nI 1), .ref 141], am_D x3.2)) hF t_s_M_cut_2 rfl rfl ?_
    refine am_iald (n := 1060) (j := 1) d_X12_cut_26 (Nat.le_of_ble_eq_true rfl) (Nat.le_of_ble_eq_true rfl) rfl (by decide) rfl hF ?_
    refine am_ite h (fun hc h => ?_) (fun hc h => ?_)
    · refine am_if_eq_t (t := 34) d_X12_cut_27 (by decide) hc hF ?_
      refine am_seg s_M_cut_3 (y := (36, [(2, .int x3.1), (0, .ref 140), (1, .int a1)], [.int (-3 : Int32)], am_D x3.2)) hF t_s_M_cut_3 rfl rfl ?_
      obtain ⟨rfl, rfl⟩ := am_pair h
      exact am_iret d_X12_cut_36 hF hB
    · refine am_if_eq_f (t := 34) d_X12_cut_27 (by decide) hc hF ?_
      refine am_seg s_M_cut_4 (y := (31, [(2, .int x3.1), (0, .ref 140), (1, .int a1)], [.int x3.1], am_D x3.2)) hF t_s_M_cut_4 rfl rfl ?_
      refine am_ite h (fun hc h => ?_) (fun hc h => ?_)
      · refine am_if_ge_t (t := 37) d_X12_cut_31 (by decide) hc hF ?_
        refine am_seg s_M_cut_5 (y := (39, [(2, .int x3.1), (0, .ref 140), (1, .int a1)], [.int a1, .ref 140], am_D x3.2)) hF t_s_M_cut_5 rfl rfl ?_
        refine am_bd h (fun x4 hx h => ?_)
        refine am_callV (As := [.int a1]) (r := (some (.int x4.1))) (st := []) (σ' := am_D x4.2) (ci := 12) hF hR d_X12_cut_39 (c_M_levelOf (τ' := x4.2) hx) (Nat.le_refl _) (Nat.le_refl _) wl_M_248 wi_yX12_levelOf we_yX12_levelOf wn_ShareHouseModel wc_yX12_levelOf (Nat.le_of_ble_eq_true rfl) (Nat.le_of_ble_eq_true rfl) rfl rfl wy_yX12_levelOf rfl ⟨by decide, by decide⟩ (Nat.le_of_ble_eq_true rfl) ?_
        refine am_seg s_M_cut_6 (y := (43, [(2, .int x3.1), (0, .ref 140), (1, .int a1)], [.int x3.1, .int x4.1], am_D x4.2)) hF t_s_M_cut_6 rfl rfl ?_
        refine am_ite h (fun hc h => ?_) (fun hc h => ?_)
        · refine am_icmp_gt_t (t := 49) d_X12_cut_43 (by decide) hc hF ?_
          refine am_seg s_M_cut_7 (y := (51, [(2, .int x3.1), (0, .ref 140), (1, .int a1)], [.int a1, .ref 140], am_D x4.2)) hF t_s_M_cut_7 rfl rfl ?_
          refine am_bd h (fun x5 hx h => ?_)
          refine am_callV (As := [.int a1]) (r := (some (.int x5.1))) (st := []) (σ' := am_D x5.2) (ci := 12) hF hR d_X12_cut_51 (c_M_mayRight (τ' := x5.2) hx) (Nat.le_refl _) (Nat.le_refl _) wl_M_239 wi_yX12_mayRight we_yX12_mayRight wn_ShareHouseModel wc_yX12_mayRight (Nat.le_of_ble_eq_true rfl) (Nat.le_of_ble_eq_true rfl) rfl rfl wy_yX12_mayRight rfl ⟨by decide, by decide⟩ (Nat.le_of_ble_eq_true rfl) ?_
          refine am_ite h (fun hc h => ?_) (fun hc h => ?_)
          · refine am_if_ge_t (t := 63) d_X12_cut_54 (by decide) hc hF ?_
            refine am_seg s_M_cut_8 (y := (66, [(2, .int x3.1), (0, .ref 140), (1, .int a1)], [.int (nI 1), .ref 140, .int x3.1], am_D x5.2)) hF t_s_M_cut_8 rfl rfl ?_
            refine am_bd h (fun x6 hx h => ?_)
            refine am_callV (As := [.int (nI 1)]) (r := (some (.int x6.1))) (st := [.int x3.1]) (σ' := am_D x6.2) (ci := 12) hF hR d_X12_cut_66 (c_M_together (τ' := x6.2) hx) (Nat.le_refl _) (Nat.le_refl _) wl_M_195 wi_yX12_together we_yX12_together wn_ShareHouseModel wc_yX12_together (Nat.le_of_ble_eq_true rfl) (Nat.le_of_ble_eq_true rfl) rfl rfl wy_yX12_together rfl ⟨by decide, by decide⟩ (Nat.le_of_ble_eq_true rfl) ?_
            refine am_seg s_M_cut_9 (y := (72, [(2, .int x3.1), (0, .ref 140), (1, .int a1)], [.int (nI 100), .int (x3.1 * x6.1)], am_D x6.2)) hF t_s_M_cut_9 rfl rfl ?_
            refine am_idiv d_X12_cut_72 (by decide) hF ?_
            refine am_seg s_M_cut_10 (y := (77, [(3, .int ((x3.1 * x6.1) / (nI 100))), (2, .int x3.1), (0, .ref 140), (1, .int a1)], [.int ((x3.1 * x6.1) / (nI 100)), .int a1, .ref 140], am_D x6.2)) hF t_s_M_cut_10 rfl rfl ?_
            refine am_bd h (fun x7 hx h => ?_)
            refine am_callV (As := [.int a1, .int ((x3.1 * x6.1) / (nI 100))]) (r := none) (st := []) (σ' := am_D x7) (ci := 12) hF hR d_X12_cut_77 (c_M_putRight (τ' := x7) hx) (Nat.le_refl _) (Nat.le_refl _) wl_M_245 wi_yX12_putRight we_yX12_putRight wn_ShareHouseModel wc_yX12_putRight (Nat.le_of_ble_eq_true rfl) (Nat.le_of_ble_eq_true rfl) rfl rfl wy_yX12_putRight rfl ⟨by decide, by decide⟩ (Nat.le_of_ble_eq_true rfl) ?_
            refine am_seg s_M_cut_11 (y := (81, [(3, .int ((x3.1 * x6.1) / (nI 100))), (2, .int x3.1), (0, .ref 140), (1, .int a1)], [.int ((x3.1 * x6.1) / (nI 100))], am_D x7)) hF t_s_M_cut_11 rfl rfl ?_
            obtain ⟨rfl, rfl⟩ := am_pair h
            exact am_iret d_X12_cut_81 hF hB
          · refine am_if_ge_f (t := 63) d_X12_cut_54 (by decide) hc hF ?_
            refine am_seg s_M_cut_12 (y := (59, [(2, .int x3.1), (0, .ref 140), (1, .int a1)], [.int a1, .ref 140], am_D x5.2)) hF t_s_M_cut_12 rfl rfl ?_
            refine am_bd h (fun x8 hx h => ?_)
            refine am_callV (As := [.int a1]) (r := (some (.int x8.1))) (st := []) (σ' := am_D x8.2) (ci := 12) hF hR d_X12_cut_59 (c_M_mayRight (τ' := x8.2) hx) (Nat.le_refl _) (Nat.le_refl _) wl_M_239 wi_yX12_mayRight we_yX12_mayRight wn_ShareHouseModel wc_yX12_mayRight (Nat.le_of_ble_eq_true rfl) (Nat.le_of_ble_eq_true rfl) rfl rfl wy_yX12_mayRight rfl ⟨by decide, by decide⟩ (Nat.le_of_ble_eq_true rfl) ?_
            obtain ⟨rfl, rfl⟩ := am_pair h
            exact am_iret d_X12_cut_62 hF hB
        · refine am_icmp_gt_f (t := 49) d_X12_cut_43 (by decide) hc hF ?_
          refine am_seg s_M_cut_13 (y := (48, [(2, .int x3.1), (0, .ref 140), (1, .int a1)], [.int (-4 : Int32)], am_D x4.2)) hF t_s_M_cut_13 rfl rfl ?_
          obtain ⟨rfl, rfl⟩ := am_pair h
          exact am_iret d_X12_cut_48 hF hB
      · refine am_if_ge_f (t := 37) d_X12_cut_31 (by decide) hc hF ?_
        refine am_seg s_M_cut_14 (y := (36, [(2, .int x3.1), (0, .ref 140), (1, .int a1)], [.int (-3 : Int32)], am_D x3.2)) hF t_s_M_cut_14 rfl rfl ?_
        obtain ⟨rfl, rfl⟩ := am_pair h
        exact am_iret d_X12_cut_36 hF hB
theorem c_M_cut {a1 : Int32} {v : Int32} {τ τ' : am_T} (h : M_cut τ a1 = some (v, τ')) : am_C yX12_cut cX12_cut 4 (some .int) 3 67 [.ref 140, .int a1] (am_D τ) (some (.int v)) (am_D τ') :=
  am_enter (by decide +kernel) (Nat.le_of_ble_eq_true rfl) ⟨Nat.le_refl _, Nat.le_refl _⟩ (fun X hF hR hB => ok_M_cut hF hR hB h)
def s_M_piece_0 : List am_Q := [(0, .iload_n 1, 0, 0, 0, .null), (1, .iconst 2, 0, 0, 0, .int (nI 2)), (2, .bipush 20, 0, 0, 0, .int (nI 20))]
theorem t_s_M_piece_0 : s_M_piece_0.all (am_ok 12 cX12_piece) = true := by decide +kernel
theorem d_X12_piece_4 : decode cX12_piece 4 = .ok (.invokestatic 51, 3) := by decide +kernel
theorem d_X12_piece_7 : decode cX12_piece 7 = .ok (.ifCond .eq 28, 3) := by decide +kernel
def s_M_piece_1 : List am_Q := [(35, .iconst (-1), 0, 0, 0, .int (-1 : Int32))]
theorem t_s_M_piece_1 : s_M_piece_1.all (am_ok 12 cX12_piece) = true := by decide +kernel
theorem d_X12_piece_36 : decode cX12_piece 36 = .ok (.ireturn, 1) := by decide +kernel
def s_M_piece_2 : List am_Q := [(10, .iload_n 2, 0, 0, 0, .null), (11, .iconst 1, 0, 0, 0, .int (nI 1)), (12, .ldc 222, 0, 0, 30, .int (nI 99999))]
theorem t_s_M_piece_2 : s_M_piece_2.all (am_ok 12 cX12_piece) = true := by decide +kernel
theorem d_X12_piece_14 : decode cX12_piece 14 = .ok (.invokestatic 51, 3) := by decide +kernel
theorem d_X12_piece_17 : decode cX12_piece 17 = .ok (.ifCond .eq 18, 3) := by decide +kernel
def s_M_piece_3 : List am_Q := [(35, .iconst (-1), 0, 0, 0, .int (-1 : Int32))]
theorem t_s_M_piece_3 : s_M_piece_3.all (am_ok 12 cX12_piece) = true := by decide +kernel
def s_M_piece_4 : List am_Q := [(20, .iload_n 3, 0, 0, 0, .null), (21, .iconst 0, 0, 0, 0, .int (nI 0)), (22, .bipush 20, 0, 0, 0, .int (nI 20))]
theorem t_s_M_piece_4 : s_M_piece_4.all (am_ok 12 cX12_piece) = true := by decide +kernel
theorem d_X12_piece_24 : decode cX12_piece 24 = .ok (.invokestatic 51, 3) := by decide +kernel
theorem d_X12_piece_27 : decode cX12_piece 27 = .ok (.ifCond .eq 8, 3) := by decide +kernel
def s_M_piece_5 : List am_Q := [(35, .iconst (-1), 0, 0, 0, .int (-1 : Int32))]
theorem t_s_M_piece_5 : s_M_piece_5.all (am_ok 12 cX12_piece) = true := by decide +kernel
def s_M_piece_6 : List am_Q := [(30, .iload_n 3, 0, 0, 0, .null), (31, .iload_n 1, 0, 0, 0, .null)]
theorem t_s_M_piece_6 : s_M_piece_6.all (am_ok 12 cX12_piece) = true := by decide +kernel
theorem d_X12_piece_32 : decode cX12_piece 32 = .ok (.if_icmp .le 5, 3) := by decide +kernel
def s_M_piece_7 : List am_Q := [(37, .aload_n 0, 0, 0, 0, .null), (38, .getfield 7, 12, 0, 152, .null), (41, .bipush 8, 0, 0, 0, .int (nI 8))]
theorem t_s_M_piece_7 : s_M_piece_7.all (am_ok 12 cX12_piece) = true := by decide +kernel
theorem d_X12_piece_43 : decode cX12_piece 43 = .ok (.iaload, 1) := by decide +kernel
def s_M_piece_8 : List am_Q := [(44, .bipush 7, 0, 0, 0, .int (nI 7))]
theorem t_s_M_piece_8 : s_M_piece_8.all (am_ok 12 cX12_piece) = true := by decide +kernel
theorem d_X12_piece_46 : decode cX12_piece 46 = .ok (.if_icmp .ne 6, 3) := by decide +kernel
def s_M_piece_9 : List am_Q := [(52, .sipush 1032, 0, 0, 0, .int (nI 1032)), (55, .iconst 4, 0, 0, 0, .int (nI 4)), (56, .aload_n 0, 0, 0, 0, .null), (57, .getfield 7, 12, 0, 152, .null), (60, .bipush 8, 0, 0, 0, .int (nI 8))]
theorem t_s_M_piece_9 : s_M_piece_9.all (am_ok 12 cX12_piece) = true := by decide +kernel
theorem d_X12_piece_62 : decode cX12_piece 62 = .ok (.iaload, 1) := by decide +kernel
def s_M_piece_10 : List am_Q := [(63, .imul, 0, 0, 0, .null), (64, .iadd, 0, 0, 0, .null), (65, .istore 4, 0, 0, 0, .null), (67, .aload_n 0, 0, 0, 0, .null), (68, .getfield 7, 12, 0, 152, .null), (71, .iload 4, 0, 0, 0, .null), (73, .iload_n 1, 0, 0, 0, .null)]
theorem t_s_M_piece_10 : s_M_piece_10.all (am_ok 12 cX12_piece) = true := by decide +kernel
theorem d_X12_piece_74 : decode cX12_piece 74 = .ok (.iastore, 1) := by decide +kernel
def s_M_piece_11 : List am_Q := [(75, .aload_n 0, 0, 0, 0, .null), (76, .getfield 7, 12, 0, 152, .null), (79, .iload 4, 0, 0, 0, .null), (81, .iconst 1, 0, 0, 0, .int (nI 1)), (82, .iadd, 0, 0, 0, .null), (83, .iload_n 2, 0, 0, 0, .null)]
theorem t_s_M_piece_11 : s_M_piece_11.all (am_ok 12 cX12_piece) = true := by decide +kernel
theorem d_X12_piece_84 : decode cX12_piece 84 = .ok (.iastore, 1) := by decide +kernel
def s_M_piece_12 : List am_Q := [(85, .aload_n 0, 0, 0, 0, .null), (86, .getfield 7, 12, 0, 152, .null), (89, .iload 4, 0, 0, 0, .null), (91, .iconst 2, 0, 0, 0, .int (nI 2)), (92, .iadd, 0, 0, 0, .null), (93, .iload_n 3, 0, 0, 0, .null)]
theorem t_s_M_piece_12 : s_M_piece_12.all (am_ok 12 cX12_piece) = true := by decide +kernel
theorem d_X12_piece_94 : decode cX12_piece 94 = .ok (.iastore, 1) := by decide +kernel
def s_M_piece_13 : List am_Q := [(95, .aload_n 0, 0, 0, 0, .null), (96, .getfield 7, 12, 0, 152, .null), (99, .bipush 8, 0, 0, 0, .int (nI 8)), (101, .dup2, 0, 0, 0, .null)]
theorem t_s_M_piece_13 : s_M_piece_13.all (am_ok 12 cX12_piece) = true := by decide +kernel
theorem d_X12_piece_102 : decode cX12_piece 102 = .ok (.iaload, 1) := by decide +kernel
def s_M_piece_14 : List am_Q := [(103, .iconst 1, 0, 0, 0, .int (nI 1)), (104, .iadd, 0, 0, 0, .null)]
theorem t_s_M_piece_14 : s_M_piece_14.all (am_ok 12 cX12_piece) = true := by decide +kernel
theorem d_X12_piece_105 : decode cX12_piece 105 = .ok (.iastore, 1) := by decide +kernel
def s_M_piece_15 : List am_Q := [(106, .aload_n 0, 0, 0, 0, .null), (107, .getfield 7, 12, 0, 152, .null), (110, .bipush 8, 0, 0, 0, .int (nI 8))]
theorem t_s_M_piece_15 : s_M_piece_15.all (am_ok 12 cX12_piece) = true := by decide +kernel
theorem d_X12_piece_112 : decode cX12_piece 112 = .ok (.iaload, 1) := by decide +kernel
def s_M_piece_16 : List am_Q := [(113, .iconst 1, 0, 0, 0, .int (nI 1)), (114, .isub, 0, 0, 0, .null)]
theorem t_s_M_piece_16 : s_M_piece_16.all (am_ok 12 cX12_piece) = true := by decide +kernel
theorem d_X12_piece_115 : decode cX12_piece 115 = .ok (.ireturn, 1) := by decide +kernel
def s_M_piece_17 : List am_Q := [(49, .bipush (-2), 0, 0, 0, .int (-2 : Int32))]
theorem t_s_M_piece_17 : s_M_piece_17.all (am_ok 12 cX12_piece) = true := by decide +kernel
theorem d_X12_piece_51 : decode cX12_piece 51 = .ok (.ireturn, 1) := by decide +kernel
def s_M_piece_18 : List am_Q := [(35, .iconst (-1), 0, 0, 0, .int (-1 : Int32))]
theorem t_s_M_piece_18 : s_M_piece_18.all (am_ok 12 cX12_piece) = true := by decide +kernel
def M_piece (τ : am_T) (a1 : Int32) (a2 : Int32) (a3 : Int32) : Option (Int32 × am_T) :=
  (M_in τ a1 (nI 2) (nI 20)).bind (fun x1 =>
  if x1.1 = 0 then
  (some ((-1 : Int32), x1.2))
else
  ((M_in x1.2 a2 (nI 1) (nI 99999)).bind (fun x2 =>
  if x2.1 = 0 then
  (some ((-1 : Int32), x2.2))
else
  ((M_in x2.2 a3 (nI 0) (nI 20)).bind (fun x3 =>
  if x3.1 = 0 then
  (some ((-1 : Int32), x3.2))
else
  (if a3 ≤ a1 then
  (if (x3.2.1 141 8) = (nI 7) then
  (some ((-2 : Int32), x3.2))
else
  (am_g (am_in ((nI 1032) + ((nI 4) * (x3.2.1 141 8))) 1060) (am_g (am_in (((nI 1032) + ((nI 4) * (x3.2.1 141 8))) + (nI 1)) 1060) (am_g (am_in (((nI 1032) + ((nI 4) * (x3.2.1 141 8))) + (nI 2)) 1060) (some ((((am_si (am_si (am_si (am_si x3.2 141 (((nI 1032) + ((nI 4) * (x3.2.1 141 8))).toNatClampNeg) a1) 141 ((((nI 1032) + ((nI 4) * (x3.2.1 141 8))) + (nI 1)).toNatClampNeg) a2) 141 ((((nI 1032) + ((nI 4) * (x3.2.1 141 8))) + (nI 2)).toNatClampNeg) a3) 141 8 (((am_si (am_si (am_si x3.2 141 (((nI 1032) + ((nI 4) * (x3.2.1 141 8))).toNatClampNeg) a1) 141 ((((nI 1032) + ((nI 4) * (x3.2.1 141 8))) + (nI 1)).toNatClampNeg) a2) 141 ((((nI 1032) + ((nI 4) * (x3.2.1 141 8))) + (nI 2)).toNatClampNeg) a3).1 141 8) + (nI 1))).1 141 8) - (nI 1)), (am_si (am_si (am_si (am_si x3.2 141 (((nI 1032) + ((nI 4) * (x3.2.1 141 8))).toNatClampNeg) a1) 141 ((((nI 1032) + ((nI 4) * (x3.2.1 141 8))) + (nI 1)).toNatClampNeg) a2) 141 ((((nI 1032) + ((nI 4) * (x3.2.1 141 8))) + (nI 2)).toNatClampNeg) a3) 141 8 (((am_si (am_si (am_si x3.2 141 (((nI 1032) + ((nI 4) * (x3.2.1 141 8))).toNatClampNeg) a1) 141 ((((nI 1032) + ((nI 4) * (x3.2.1 141 8))) + (nI 1)).toNatClampNeg) a2) 141 ((((nI 1032) + ((nI 4) * (x3.2.1 141 8))) + (nI 2)).toNatClampNeg) a3).1 141 8) + (nI 1)))))))))
else
  (some ((-1 : Int32), x3.2))))))))
set_option maxRecDepth 20000 in
theorem ok_M_piece {X : am_X} {a1 : Int32} {a2 : Int32} {a3 : Int32} {v : Int32} {τ τ' : am_T} (hF : am_F X "ShareHouseModel" cX12_piece 5) (hR : am_R X 1 22) (hB : am_B X (some .int) (some (.int v)) (am_D τ')) (h : M_piece τ a1 a2 a3 = some (v, τ')) : am_W X 5 (0, [(0, .ref 140), (1, .int a1), (2, .int a2), (3, .int a3)], [], am_D τ) := by
  unfold M_piece at h
  refine am_seg s_M_piece_0 (y := (4, [(0, .ref 140), (1, .int a1), (2, .int a2), (3, .int a3)], [.int (nI 20), .int (nI 2), .int a1], am_D τ)) hF t_s_M_piece_0 rfl rfl ?_
  refine am_bd h (fun x1 hx h => ?_)
  refine am_callS (As := [.int a1, .int (nI 2), .int (nI 20)]) (r := (some (.int x1.1))) (st := []) (σ' := am_D x1.2) hF hR d_X12_piece_4 (c_M_in (τ' := x1.2) hx) (Nat.le_refl _) (Nat.le_refl _) wl_M_51 ws_yX12_in wn_ShareHouseModel wc_yX12_in wy_yX12_in rfl ⟨by decide, by decide⟩ (Nat.le_of_ble_eq_true rfl) ?_
  refine am_ite h (fun hc h => ?_) (fun hc h => ?_)
  · refine am_if_eq_t (t := 35) d_X12_piece_7 (by decide) hc hF ?_
    refine am_seg s_M_piece_1 (y := (36, [(0, .ref 140), (1, .int a1), (2, .int a2), (3, .int a3)], [.int (-1 : Int32)], am_D x1.2)) hF t_s_M_piece_1 rfl rfl ?_
    obtain ⟨rfl, rfl⟩ := am_pair h
    exact am_iret d_X12_piece_36 hF hB
  · refine am_if_eq_f (t := 35) d_X12_piece_7 (by decide) hc hF ?_
    refine am_seg s_M_piece_2 (y := (14, [(0, .ref 140), (1, .int a1), (2, .int a2), (3, .int a3)], [.int (nI 99999), .int (nI 1), .int a2], am_D x1.2)) hF t_s_M_piece_2 rfl rfl ?_
    refine am_bd h (fun x2 hx h => ?_)
    refine am_callS (As := [.int a2, .int (nI 1), .int (nI 99999)]) (r := (some (.int x2.1))) (st := []) (σ' := am_D x2.2) hF hR d_X12_piece_14 (c_M_in (τ' := x2.2) hx) (Nat.le_refl _) (Nat.le_refl _) wl_M_51 ws_yX12_in wn_ShareHouseModel wc_yX12_in wy_yX12_in rfl ⟨by decide, by decide⟩ (Nat.le_of_ble_eq_true rfl) ?_
    refine am_ite h (fun hc h => ?_) (fun hc h => ?_)
    · refine am_if_eq_t (t := 35) d_X12_piece_17 (by decide) hc hF ?_
      refine am_seg s_M_piece_3 (y := (36, [(0, .ref 140), (1, .int a1), (2, .int a2), (3, .int a3)], [.int (-1 : Int32)], am_D x2.2)) hF t_s_M_piece_3 rfl rfl ?_
      obtain ⟨rfl, rfl⟩ := am_pair h
      exact am_iret d_X12_piece_36 hF hB
    · refine am_if_eq_f (t := 35) d_X12_piece_17 (by decide) hc hF ?_
      refine am_seg s_M_piece_4 (y := (24, [(0, .ref 140), (1, .int a1), (2, .int a2), (3, .int a3)], [.int (nI 20), .int (nI 0), .int a3], am_D x2.2)) hF t_s_M_piece_4 rfl rfl ?_
      refine am_bd h (fun x3 hx h => ?_)
      refine am_callS (As := [.int a3, .int (nI 0), .int (nI 20)]) (r := (some (.int x3.1))) (st := []) (σ' := am_D x3.2) hF hR d_X12_piece_24 (c_M_in (τ' := x3.2) hx) (Nat.le_refl _) (Nat.le_refl _) wl_M_51 ws_yX12_in wn_ShareHouseModel wc_yX12_in wy_yX12_in rfl ⟨by decide, by decide⟩ (Nat.le_of_ble_eq_true rfl) ?_
      refine am_ite h (fun hc h => ?_) (fun hc h => ?_)
      · refine am_if_eq_t (t := 35) d_X12_piece_27 (by decide) hc hF ?_
        refine am_seg s_M_piece_5 (y := (36, [(0, .ref 140), (1, .int a1), (2, .int a2), (3, .int a3)], [.int (-1 : Int32)], am_D x3.2)) hF t_s_M_piece_5 rfl rfl ?_
        obtain ⟨rfl, rfl⟩ := am_pair h
        exact am_iret d_X12_piece_36 hF hB
      · refine am_if_eq_f (t := 35) d_X12_piece_27 (by decide) hc hF ?_
        refine am_seg s_M_piece_6 (y := (32, [(0, .ref 140), (1, .int a1), (2, .int a2), (3, .int a3)], [.int a1, .int a3], am_D x3.2)) hF t_s_M_piece_6 rfl rfl ?_
        refine am_ite h (fun hc h => ?_) (fun hc h => ?_)
        · refine am_icmp_le_t (t := 37) d_X12_piece_32 (by decide) hc hF ?_
          refine am_seg s_M_piece_7 (y := (43, [(0, .ref 140), (1, .int a1), (2, .int a2), (3, .int a3)], [.int (nI 8), .ref 141], am_D x3.2)) hF t_s_M_piece_7 rfl rfl ?_
          refine am_iald (n := 1060) (j := 8) d_X12_piece_43 (Nat.le_of_ble_eq_true rfl) (Nat.le_of_ble_eq_true rfl) rfl (by decide) rfl hF ?_
          refine am_seg s_M_piece_8 (y := (46, [(0, .ref 140), (1, .int a1), (2, .int a2), (3, .int a3)], [.int (nI 7), .int (x3.2.1 141 8)], am_D x3.2)) hF t_s_M_piece_8 rfl rfl ?_
          refine am_ite h (fun hc h => ?_) (fun hc h => ?_)
          · refine am_icmp_ne_f (t := 52) d_X12_piece_46 (by decide) hc hF ?_
            refine am_seg s_M_piece_17 (y := (51, [(0, .ref 140), (1, .int a1), (2, .int a2), (3, .int a3)], [.int (-2 : Int32)], am_D x3.2)) hF t_s_M_piece_17 rfl rfl ?_
            obtain ⟨rfl, rfl⟩ := am_pair h
            exact am_iret d_X12_piece_51 hF hB
          · refine am_icmp_ne_t (t := 52) d_X12_piece_46 (by decide) hc hF ?_
            refine am_seg s_M_piece_9 (y := (62, [(0, .ref 140), (1, .int a1), (2, .int a2), (3, .int a3)], [.int (nI 8), .ref 141, .int (nI 4), .int (nI 1032)], am_D x3.2)) hF t_s_M_piece_9 rfl rfl ?_
            refine am_iald (n := 1060) (j := 8) d_X12_piece_62 (Nat.le_of_ble_eq_true rfl) (Nat.le_of_ble_eq_true rfl) rfl (by decide) rfl hF ?_
            refine am_seg s_M_piece_10 (y := (74, [(4, .int ((nI 1032) + ((nI 4) * (x3.2.1 141 8)))), (0, .ref 140), (1, .int a1), (2, .int a2), (3, .int a3)], [.int a1, .int ((nI 1032) + ((nI 4) * (x3.2.1 141 8))), .ref 141], am_D x3.2)) hF t_s_M_piece_10 rfl rfl ?_
            refine am_gd h (fun hi h => ?_)
            refine am_iast (n := 1060) (j := (((nI 1032) + ((nI 4) * (x3.2.1 141 8))).toNatClampNeg)) d_X12_piece_74 (Nat.le_of_ble_eq_true rfl) (Nat.le_of_ble_eq_true rfl) rfl hi rfl hF ?_
            refine am_seg s_M_piece_11 (y := (84, [(4, .int ((nI 1032) + ((nI 4) * (x3.2.1 141 8)))), (0, .ref 140), (1, .int a1), (2, .int a2), (3, .int a3)], [.int a2, .int (((nI 1032) + ((nI 4) * (x3.2.1 141 8))) + (nI 1)), .ref 141], am_D (am_si x3.2 141 (((nI 1032) + ((nI 4) * (x3.2.1 141 8))).toNatClampNeg) a1))) hF t_s_M_piece_11 rfl rfl ?_
            refine am_gd h (fun hi h => ?_)
            refine am_iast (n := 1060) (j := ((((nI 1032) + ((nI 4) * (x3.2.1 141 8))) + (nI 1)).toNatClampNeg)) d_X12_piece_84 (Nat.le_of_ble_eq_true rfl) (Nat.le_of_ble_eq_true rfl) rfl hi rfl hF ?_
            refine am_seg s_M_piece_12 (y := (94, [(4, .int ((nI 1032) + ((nI 4) * (x3.2.1 141 8)))), (0, .ref 140), (1, .int a1), (2, .int a2), (3, .int a3)], [.int a3, .int (((nI 1032) + ((nI 4) * (x3.2.1 141 8))) + (nI 2)), .ref 141], am_D (am_si (am_si x3.2 141 (((nI 1032) + ((nI 4) * (x3.2.1 141 8))).toNatClampNeg) a1) 141 ((((nI 1032) + ((nI 4) * (x3.2.1 141 8))) + (nI 1)).toNatClampNeg) a2))) hF t_s_M_piece_12 rfl rfl ?_
            refine am_gd h (fun hi h => ?_)
            refine am_iast (n := 1060) (j := ((((nI 1032) + ((nI 4) * (x3.2.1 141 8))) + (nI 2)).toNatClampNeg)) d_X12_piece_94 (Nat.le_of_ble_eq_true rfl) (Nat.le_of_ble_eq_true rfl) rfl hi rfl hF ?_
            refine am_seg s_M_piece_13 (y := (102, [(4, .int ((nI 1032) + ((nI 4) * (x3.2.1 141 8)))), (0, .ref 140), (1, .int a1), (2, .int a2), (3, .int a3)], [.int (nI 8), .ref 141, .int (nI 8), .ref 141], am_D (am_si (am_si (am_si x3.2 141 (((nI 1032) + ((nI 4) * (x3.2.1 141 8))).toNatClampNeg) a1) 141 ((((nI 1032) + ((nI 4) * (x3.2.1 141 8))) + (nI 1)).toNatClampNeg) a2) 141 ((((nI 1032) + ((nI 4) * (x3.2.1 141 8))) + (nI 2)).toNatClampNeg) a3))) hF t_s_M_piece_13 rfl rfl ?_
            refine am_iald (n := 1060) (j := 8) d_X12_piece_102 (Nat.le_of_ble_eq_true rfl) (Nat.le_of_ble_eq_true rfl) rfl (by decide) rfl hF ?_
            refine am_seg s_M_piece_14 (y := (105, [(4, .int ((nI 1032) + ((nI 4) * (x3.2.1 141 8)))), (0, .ref 140), (1, .int a1), (2, .int a2), (3, .int a3)], [.int (((am_si (am_si (am_si x3.2 141 (((nI 1032) + ((nI 4) * (x3.2.1 141 8))).toNatClampNeg) a1) 141 ((((nI 1032) + ((nI 4) * (x3.2.1 141 8))) + (nI 1)).toNatClampNeg) a2) 141 ((((nI 1032) + ((nI 4) * (x3.2.1 141 8))) + (nI 2)).toNatClampNeg) a3).1 141 8) + (nI 1)), .int (nI 8), .ref 141], am_D (am_si (am_si (am_si x3.2 141 (((nI 1032) + ((nI 4) * (x3.2.1 141 8))).toNatClampNeg) a1) 141 ((((nI 1032) + ((nI 4) * (x3.2.1 141 8))) + (nI 1)).toNatClampNeg) a2) 141 ((((nI 1032) + ((nI 4) * (x3.2.1 141 8))) + (nI 2)).toNatClampNeg) a3))) hF t_s_M_piece_14 rfl rfl ?_
            refine am_iast (n := 1060) (j := 8) d_X12_piece_105 (Nat.le_of_ble_eq_true rfl) (Nat.le_of_ble_eq_true rfl) rfl (by decide) rfl hF ?_
            refine am_seg s_M_piece_15 (y := (112, [(4, .int ((nI 1032) + ((nI 4) * (x3.2.1 141 8)))), (0, .ref 140), (1, .int a1), (2, .int a2), (3, .int a3)], [.int (nI 8), .ref 141], am_D (am_si (am_si (am_si (am_si x3.2 141 (((nI 1032) + ((nI 4) * (x3.2.1 141 8))).toNatClampNeg) a1) 141 ((((nI 1032) + ((nI 4) * (x3.2.1 141 8))) + (nI 1)).toNatClampNeg) a2) 141 ((((nI 1032) + ((nI 4) * (x3.2.1 141 8))) + (nI 2)).toNatClampNeg) a3) 141 8 (((am_si (am_si (am_si x3.2 141 (((nI 1032) + ((nI 4) * (x3.2.1 141 8))).toNatClampNeg) a1) 141 ((((nI 1032) + ((nI 4) * (x3.2.1 141 8))) + (nI 1)).toNatClampNeg) a2) 141 ((((nI 1032) + ((nI 4) * (x3.2.1 141 8))) + (nI 2)).toNatClampNeg) a3).1 141 8) + (nI 1))))) hF t_s_M_piece_15 rfl rfl ?_
            refine am_iald (n := 1060) (j := 8) d_X12_piece_112 (Nat.le_of_ble_eq_true rfl) (Nat.le_of_ble_eq_true rfl) rfl (by decide) rfl hF ?_
            refine am_seg s_M_piece_16 (y := (115, [(4, .int ((nI 1032) + ((nI 4) * (x3.2.1 141 8)))), (0, .ref 140), (1, .int a1), (2, .int a2), (3, .int a3)], [.int (((am_si (am_si (am_si (am_si x3.2 141 (((nI 1032) + ((nI 4) * (x3.2.1 141 8))).toNatClampNeg) a1) 141 ((((nI 1032) + ((nI 4) * (x3.2.1 141 8))) + (nI 1)).toNatClampNeg) a2) 141 ((((nI 1032) + ((nI 4) * (x3.2.1 141 8))) + (nI 2)).toNatClampNeg) a3) 141 8 (((am_si (am_si (am_si x3.2 141 (((nI 1032) + ((nI 4) * (x3.2.1 141 8))).toNatClampNeg) a1) 141 ((((nI 1032) + ((nI 4) * (x3.2.1 141 8))) + (nI 1)).toNatClampNeg) a2) 141 ((((nI 1032) + ((nI 4) * (x3.2.1 141 8))) + (nI 2)).toNatClampNeg) a3).1 141 8) + (nI 1))).1 141 8) - (nI 1))], am_D (am_si (am_si (am_si (am_si x3.2 141 (((nI 1032) + ((nI 4) * (x3.2.1 141 8))).toNatClampNeg) a1) 141 ((((nI 1032) + ((nI 4) * (x3.2.1 141 8))) + (nI 1)).toNatClampNeg) a2) 141 ((((nI 1032) + ((nI 4) * (x3.2.1 141 8))) + (nI 2)).toNatClampNeg) a3) 141 8 (((am_si (am_si (am_si x3.2 141 (((nI 1032) + ((nI 4) * (x3.2.1 141 8))).toNatClampNeg) a1) 141 ((((nI 1032) + ((nI 4) * (x3.2.1 141 8))) + (nI 1)).toNatClampNeg) a2) 141 ((((nI 1032) + ((nI 4) * (x3.2.1 141 8))) + (nI 2)).toNatClampNeg) a3).1 141 8) + (nI 1))))) hF t_s_M_piece_16 rfl rfl ?_
            obtain ⟨rfl, rfl⟩ := am_pair h
            exact am_iret d_X12_piece_115 hF hB
        · refine am_icmp_le_f (t := 37) d_X12_piece_32 (by decide) hc hF ?_
          refine am_seg s_M_piece_18 (y := (36, [(0, .ref 140), (1, .int a1), (2, .int a2), (3, .int a3)], [.int (-1 : Int32)], am_D x3.2)) hF t_s_M_piece_18 rfl rfl ?_
          obtain ⟨rfl, rfl⟩ := am_pair h
          exact am_iret d_X12_piece_36 hF hB
theorem c_M_piece {a1 : Int32} {a2 : Int32} {a3 : Int32} {v : Int32} {τ τ' : am_T} (h : M_piece τ a1 a2 a3 = some (v, τ')) : am_C yX12_piece cX12_piece 5 (some .int) 1 22 [.ref 140, .int a1, .int a2, .int a3] (am_D τ) (some (.int v)) (am_D τ') :=
  am_enter (by decide +kernel) (Nat.le_of_ble_eq_true rfl) ⟨Nat.le_refl _, Nat.le_refl _⟩ (fun X hF hR hB => ok_M_piece hF hR hB h)
def s_M_isSet_0 : List am_Q := [(0, .iload_n 1, 0, 0, 0, .null)]
theorem t_s_M_isSet_0 : s_M_isSet_0.all (am_ok 12 cX12_isSet) = true := by decide +kernel
theorem d_X12_isSet_1 : decode cX12_isSet 1 = .ok (.ifCond .lt 19, 3) := by decide +kernel
def s_M_isSet_1 : List am_Q := [(20, .iconst 0, 0, 0, 0, .int (nI 0))]
theorem t_s_M_isSet_1 : s_M_isSet_1.all (am_ok 12 cX12_isSet) = true := by decide +kernel
theorem d_X12_isSet_21 : decode cX12_isSet 21 = .ok (.ireturn, 1) := by decide +kernel
def s_M_isSet_2 : List am_Q := [(4, .iload_n 1, 0, 0, 0, .null), (5, .aload_n 0, 0, 0, 0, .null), (6, .getfield 7, 12, 0, 152, .null), (9, .bipush 8, 0, 0, 0, .int (nI 8))]
theorem t_s_M_isSet_2 : s_M_isSet_2.all (am_ok 12 cX12_isSet) = true := by decide +kernel
theorem d_X12_isSet_11 : decode cX12_isSet 11 = .ok (.iaload, 1) := by decide +kernel
def s_M_isSet_3 : List am_Q := [(12, .ishr, 0, 0, 0, .null)]
theorem t_s_M_isSet_3 : s_M_isSet_3.all (am_ok 12 cX12_isSet) = true := by decide +kernel
theorem d_X12_isSet_13 : decode cX12_isSet 13 = .ok (.ifCond .ne 7, 3) := by decide +kernel
def s_M_isSet_4 : List am_Q := [(20, .iconst 0, 0, 0, 0, .int (nI 0))]
theorem t_s_M_isSet_4 : s_M_isSet_4.all (am_ok 12 cX12_isSet) = true := by decide +kernel
def s_M_isSet_5 : List am_Q := [(16, .iconst 1, 0, 0, 0, .int (nI 1)), (17, .goto 4, 21, 0, 0, .null)]
theorem t_s_M_isSet_5 : s_M_isSet_5.all (am_ok 12 cX12_isSet) = true := by decide +kernel
def M_isSet (τ : am_T) (a1 : Int32) : Option (Int32 × am_T) :=
  if a1 < 0 then
  (some ((nI 0), τ))
else
  (if (a1 >>> ((τ.1 141 8) &&& 31)) = 0 then
  (some ((nI 1), τ))
else
  (some ((nI 0), τ)))
set_option maxRecDepth 20000 in
theorem ok_M_isSet {X : am_X} {a1 : Int32} {v : Int32} {τ τ' : am_T} (hF : am_F X "ShareHouseModel" cX12_isSet 2) (hR : am_R X 0 0) (hB : am_B X (some .boolean) (some (.int v)) (am_D τ')) (h : M_isSet τ a1 = some (v, τ')) : am_W X 2 (0, [(0, .ref 140), (1, .int a1)], [], am_D τ) := by
  unfold M_isSet at h
  refine am_seg s_M_isSet_0 (y := (1, [(0, .ref 140), (1, .int a1)], [.int a1], am_D τ)) hF t_s_M_isSet_0 rfl rfl ?_
  refine am_ite h (fun hc h => ?_) (fun hc h => ?_)
  · refine am_if_lt_t (t := 20) d_X12_isSet_1 (by decide) hc hF ?_
    refine am_seg s_M_isSet_1 (y := (21, [(0, .ref 140), (1, .int a1)], [.int (nI 0)], am_D τ)) hF t_s_M_isSet_1 rfl rfl ?_
    obtain ⟨rfl, rfl⟩ := am_pair h
    exact am_zret d_X12_isSet_21 rfl hF hB
  · refine am_if_lt_f (t := 20) d_X12_isSet_1 (by decide) hc hF ?_
    refine am_seg s_M_isSet_2 (y := (11, [(0, .ref 140), (1, .int a1)], [.int (nI 8), .ref 141, .int a1], am_D τ)) hF t_s_M_isSet_2 rfl rfl ?_
    refine am_iald (n := 1060) (j := 8) d_X12_isSet_11 (Nat.le_of_ble_eq_true rfl) (Nat.le_of_ble_eq_true rfl) rfl (by decide) rfl hF ?_
    refine am_seg s_M_isSet_3 (y := (13, [(0, .ref 140), (1, .int a1)], [.int (a1 >>> ((τ.1 141 8) &&& 31))], am_D τ)) hF t_s_M_isSet_3 rfl rfl ?_
    refine am_ite h (fun hc h => ?_) (fun hc h => ?_)
    · refine am_if_ne_f (t := 20) d_X12_isSet_13 (by decide) hc hF ?_
      refine am_seg s_M_isSet_5 (y := (21, [(0, .ref 140), (1, .int a1)], [.int (nI 1)], am_D τ)) hF t_s_M_isSet_5 rfl rfl ?_
      obtain ⟨rfl, rfl⟩ := am_pair h
      exact am_zret d_X12_isSet_21 rfl hF hB
    · refine am_if_ne_t (t := 20) d_X12_isSet_13 (by decide) hc hF ?_
      refine am_seg s_M_isSet_4 (y := (21, [(0, .ref 140), (1, .int a1)], [.int (nI 0)], am_D τ)) hF t_s_M_isSet_4 rfl rfl ?_
      obtain ⟨rfl, rfl⟩ := am_pair h
      exact am_zret d_X12_isSet_21 rfl hF hB
theorem c_M_isSet {a1 : Int32} {v : Int32} {τ τ' : am_T} (h : M_isSet τ a1 = some (v, τ')) : am_C yX12_isSet cX12_isSet 2 (some .boolean) 0 0 [.ref 140, .int a1] (am_D τ) (some (.int v)) (am_D τ') :=
  am_enter (by decide +kernel) (Nat.le_of_ble_eq_true rfl) ⟨Nat.le_refl _, Nat.le_refl _⟩ (fun X hF hR hB => ok_M_isSet hF hR hB h)
def s_M_findSpent_0 : List am_Q := [(0, .iconst 0, 0, 0, 0, .int (nI 0)), (1, .istore_n 2, 0, 0, 0, .null)]
theorem t_s_M_findSpent_0 : s_M_findSpent_0.all (am_ok 12 cX12_findSpent) = true := by decide +kernel
def s_M_findSpent_1 : List am_Q := [(2, .iload_n 2, 0, 0, 0, .null), (3, .bipush 30, 0, 0, 0, .int (nI 30))]
theorem t_s_M_findSpent_1 : s_M_findSpent_1.all (am_ok 12 cX12_findSpent) = true := by decide +kernel
theorem d_X12_findSpent_5 : decode cX12_findSpent 5 = .ok (.if_icmp .ge 16, 3) := by decide +kernel
def s_M_findSpent_2 : List am_Q := [(21, .iconst 0, 0, 0, 0, .int (nI 0)), (22, .istore_n 2, 0, 0, 0, .null)]
theorem t_s_M_findSpent_2 : s_M_findSpent_2.all (am_ok 12 cX12_findSpent) = true := by decide +kernel
def s_M_findSpent_3 : List am_Q := [(23, .iload_n 2, 0, 0, 0, .null), (24, .aload_n 0, 0, 0, 0, .null), (25, .getfield 7, 12, 0, 152, .null), (28, .bipush 8, 0, 0, 0, .int (nI 8))]
theorem t_s_M_findSpent_3 : s_M_findSpent_3.all (am_ok 12 cX12_findSpent) = true := by decide +kernel
theorem d_X12_findSpent_30 : decode cX12_findSpent 30 = .ok (.iaload, 1) := by decide +kernel
theorem d_X12_findSpent_31 : decode cX12_findSpent 31 = .ok (.if_icmp .ge 91, 3) := by decide +kernel
def s_M_findSpent_4 : List am_Q := [(122, .iconst 1, 0, 0, 0, .int (nI 1)), (123, .istore_n 2, 0, 0, 0, .null)]
theorem t_s_M_findSpent_4 : s_M_findSpent_4.all (am_ok 12 cX12_findSpent) = true := by decide +kernel
def s_M_findSpent_5 : List am_Q := [(124, .iload_n 2, 0, 0, 0, .null), (125, .bipush 30, 0, 0, 0, .int (nI 30))]
theorem t_s_M_findSpent_5 : s_M_findSpent_5.all (am_ok 12 cX12_findSpent) = true := by decide +kernel
theorem d_X12_findSpent_127 : decode cX12_findSpent 127 = .ok (.if_icmp .ge 26, 3) := by decide +kernel
theorem d_X12_findSpent_153 : decode cX12_findSpent 153 = .ok (.return_, 1) := by decide +kernel
def s_M_findSpent_6 : List am_Q := [(130, .aload_n 0, 0, 0, 0, .null), (131, .getfield 38, 12, 25, 177, .null), (134, .iload_n 2, 0, 0, 0, .null), (135, .dup2, 0, 0, 0, .null)]
theorem t_s_M_findSpent_6 : s_M_findSpent_6.all (am_ok 12 cX12_findSpent) = true := by decide +kernel
theorem d_X12_findSpent_136 : decode cX12_findSpent 136 = .ok (.iaload, 1) := by decide +kernel
def s_M_findSpent_7 : List am_Q := [(137, .aload_n 0, 0, 0, 0, .null), (138, .getfield 38, 12, 25, 177, .null), (141, .iload_n 2, 0, 0, 0, .null), (142, .iconst 1, 0, 0, 0, .int (nI 1)), (143, .isub, 0, 0, 0, .null)]
theorem t_s_M_findSpent_7 : s_M_findSpent_7.all (am_ok 12 cX12_findSpent) = true := by decide +kernel
theorem d_X12_findSpent_144 : decode cX12_findSpent 144 = .ok (.iaload, 1) := by decide +kernel
def s_M_findSpent_8 : List am_Q := [(145, .iadd, 0, 0, 0, .null)]
theorem t_s_M_findSpent_8 : s_M_findSpent_8.all (am_ok 12 cX12_findSpent) = true := by decide +kernel
theorem d_X12_findSpent_146 : decode cX12_findSpent 146 = .ok (.iastore, 1) := by decide +kernel
def s_M_findSpent_9 : List am_Q := [(147, .iinc 2 1, 0, 0, 0, .int (nI 1)), (150, .goto (-26), 124, 0, 0, .null)]
theorem t_s_M_findSpent_9 : s_M_findSpent_9.all (am_ok 12 cX12_findSpent) = true := by decide +kernel
def s_M_findSpent_10 : List am_Q := [(34, .sipush 1032, 0, 0, 0, .int (nI 1032)), (37, .iconst 4, 0, 0, 0, .int (nI 4)), (38, .iload_n 2, 0, 0, 0, .null), (39, .imul, 0, 0, 0, .null), (40, .iadd, 0, 0, 0, .null), (41, .istore_n 3, 0, 0, 0, .null), (42, .iload_n 1, 0, 0, 0, .null), (43, .iload_n 2, 0, 0, 0, .null), (44, .ishr, 0, 0, 0, .null), (45, .iconst 1, 0, 0, 0, .int (nI 1)), (46, .iand, 0, 0, 0, .null), (47, .istore 4, 0, 0, 0, .null), (49, .aload_n 0, 0, 0, 0, .null), (50, .getfield 7, 12, 0, 152, .null), (53, .iload_n 3, 0, 0, 0, .null), (54, .iconst 2, 0, 0, 0, .int (nI 2)), (55, .iadd, 0, 0, 0, .null)]
theorem t_s_M_findSpent_10 : s_M_findSpent_10.all (am_ok 12 cX12_findSpent) = true := by decide +kernel
theorem d_X12_findSpent_56 : decode cX12_findSpent 56 = .ok (.iaload, 1) := by decide +kernel
def s_M_findSpent_11 : List am_Q := [(57, .istore 5, 0, 0, 0, .null)]
theorem t_s_M_findSpent_11 : s_M_findSpent_11.all (am_ok 12 cX12_findSpent) = true := by decide +kernel
def s_M_findSpent_12 : List am_Q := [(59, .iload 5, 0, 0, 0, .null), (61, .iload 4, 0, 0, 0, .null), (63, .isub, 0, 0, 0, .null), (64, .bipush 30, 0, 0, 0, .int (nI 30))]
theorem t_s_M_findSpent_12 : s_M_findSpent_12.all (am_ok 12 cX12_findSpent) = true := by decide +kernel
theorem d_X12_findSpent_66 : decode cX12_findSpent 66 = .ok (.if_icmp .ge 50, 3) := by decide +kernel
def s_M_findSpent_13 : List am_Q := [(116, .iinc 2 1, 0, 0, 0, .int (nI 1)), (119, .goto (-96), 23, 0, 0, .null)]
theorem t_s_M_findSpent_13 : s_M_findSpent_13.all (am_ok 12 cX12_findSpent) = true := by decide +kernel
def s_M_findSpent_14 : List am_Q := [(69, .aload_n 0, 0, 0, 0, .null), (70, .getfield 38, 12, 25, 177, .null), (73, .iload 5, 0, 0, 0, .null), (75, .iload 4, 0, 0, 0, .null), (77, .isub, 0, 0, 0, .null)]
theorem t_s_M_findSpent_14 : s_M_findSpent_14.all (am_ok 12 cX12_findSpent) = true := by decide +kernel
theorem d_X12_findSpent_78 : decode cX12_findSpent 78 = .ok (.ifCond .ge 7, 3) := by decide +kernel
def s_M_findSpent_15 : List am_Q := [(85, .iload 5, 0, 0, 0, .null), (87, .iload 4, 0, 0, 0, .null), (89, .isub, 0, 0, 0, .null)]
theorem t_s_M_findSpent_15 : s_M_findSpent_15.all (am_ok 12 cX12_findSpent) = true := by decide +kernel
def s_M_findSpent_16 : List am_Q := [(90, .dup2, 0, 0, 0, .null)]
theorem t_s_M_findSpent_16 : s_M_findSpent_16.all (am_ok 12 cX12_findSpent) = true := by decide +kernel
theorem d_X12_findSpent_91 : decode cX12_findSpent 91 = .ok (.iaload, 1) := by decide +kernel
def s_M_findSpent_17 : List am_Q := [(92, .aload_n 0, 0, 0, 0, .null), (93, .getfield 7, 12, 0, 152, .null), (96, .iload_n 3, 0, 0, 0, .null), (97, .iconst 1, 0, 0, 0, .int (nI 1)), (98, .iadd, 0, 0, 0, .null)]
theorem t_s_M_findSpent_17 : s_M_findSpent_17.all (am_ok 12 cX12_findSpent) = true := by decide +kernel
theorem d_X12_findSpent_99 : decode cX12_findSpent 99 = .ok (.iaload, 1) := by decide +kernel
def s_M_findSpent_18 : List am_Q := [(100, .iadd, 0, 0, 0, .null)]
theorem t_s_M_findSpent_18 : s_M_findSpent_18.all (am_ok 12 cX12_findSpent) = true := by decide +kernel
theorem d_X12_findSpent_101 : decode cX12_findSpent 101 = .ok (.iastore, 1) := by decide +kernel
def s_M_findSpent_19 : List am_Q := [(102, .iload 5, 0, 0, 0, .null), (104, .aload_n 0, 0, 0, 0, .null), (105, .getfield 7, 12, 0, 152, .null), (108, .iload_n 3, 0, 0, 0, .null)]
theorem t_s_M_findSpent_19 : s_M_findSpent_19.all (am_ok 12 cX12_findSpent) = true := by decide +kernel
theorem d_X12_findSpent_109 : decode cX12_findSpent 109 = .ok (.iaload, 1) := by decide +kernel
def s_M_findSpent_20 : List am_Q := [(110, .iadd, 0, 0, 0, .null), (111, .istore 5, 0, 0, 0, .null), (113, .goto (-54), 59, 0, 0, .null)]
theorem t_s_M_findSpent_20 : s_M_findSpent_20.all (am_ok 12 cX12_findSpent) = true := by decide +kernel
def s_M_findSpent_21 : List am_Q := [(81, .iconst 0, 0, 0, 0, .int (nI 0)), (82, .goto 8, 90, 0, 0, .null)]
theorem t_s_M_findSpent_21 : s_M_findSpent_21.all (am_ok 12 cX12_findSpent) = true := by decide +kernel
def s_M_findSpent_22 : List am_Q := [(8, .aload_n 0, 0, 0, 0, .null), (9, .getfield 38, 12, 25, 177, .null), (12, .iload_n 2, 0, 0, 0, .null), (13, .iconst 0, 0, 0, 0, .int (nI 0))]
theorem t_s_M_findSpent_22 : s_M_findSpent_22.all (am_ok 12 cX12_findSpent) = true := by decide +kernel
theorem d_X12_findSpent_14 : decode cX12_findSpent 14 = .ok (.iastore, 1) := by decide +kernel
def s_M_findSpent_23 : List am_Q := [(15, .iinc 2 1, 0, 0, 0, .int (nI 1)), (18, .goto (-16), 2, 0, 0, .null)]
theorem t_s_M_findSpent_23 : s_M_findSpent_23.all (am_ok 12 cX12_findSpent) = true := by decide +kernel
def M_findSpent_124 : Nat → am_T → Int32 → Option (am_T)
  | 0, _, _ => none
  | n + 1, τ, a2 =>
    if (nI 30) ≤ a2 then
  (some τ)
else
  (am_g (am_in a2 30) (am_g (am_in (a2 - (nI 1)) 30) (am_g (am_in a2 30) ((M_findSpent_124 n) (am_si τ 150 (a2.toNatClampNeg) ((τ.1 150 (a2.toNatClampNeg)) + (τ.1 150 ((a2 - (nI 1)).toNatClampNeg)))) (a2 + (nI 1))))))
set_option maxRecDepth 20000 in
theorem ok_M_findSpent_124 {X : am_X} {τ' : am_T} (hF : am_F X "ShareHouseModel" cX12_findSpent 6) (hR : am_R X 0 0) (hB : am_B X none none (am_D τ')) : ∀ (n : Nat) (τ : am_T) (a2 : Int32), M_findSpent_124 n τ a2 = some τ' → am_W X 6 (124, [(0, .ref 140), (2, .int a2)], [], am_D τ) := by
  intro n
  induction n with
  | zero => intro τ a2 h; unfold M_findSpent_124 at h; cases h
  | succ n ih =>
    intro τ a2 h
    unfold M_findSpent_124 at h
    refine am_seg s_M_findSpent_5 (y := (127, [(0, .ref 140), (2, .int a2)], [.int (nI 30), .int a2], am_D τ)) hF t_s_M_findSpent_5 rfl rfl ?_
    refine am_ite h (fun hc h => ?_) (fun hc h => ?_)
    · refine am_icmp_ge_t (t := 153) d_X12_findSpent_127 (by decide) hc hF ?_
      obtain rfl := am_one h
      exact am_vret d_X12_findSpent_153 hF hB
    · refine am_icmp_ge_f (t := 153) d_X12_findSpent_127 (by decide) hc hF ?_
      refine am_seg s_M_findSpent_6 (y := (136, [(0, .ref 140), (2, .int a2)], [.int a2, .ref 150, .int a2, .ref 150], am_D τ)) hF t_s_M_findSpent_6 rfl rfl ?_
      refine am_gd h (fun hi h => ?_)
      refine am_iald (n := 30) (j := (a2.toNatClampNeg)) d_X12_findSpent_136 (Nat.le_of_ble_eq_true rfl) (Nat.le_of_ble_eq_true rfl) rfl hi rfl hF ?_
      refine am_seg s_M_findSpent_7 (y := (144, [(0, .ref 140), (2, .int a2)], [.int (a2 - (nI 1)), .ref 150, .int (τ.1 150 (a2.toNatClampNeg)), .int a2, .ref 150], am_D τ)) hF t_s_M_findSpent_7 rfl rfl ?_
      refine am_gd h (fun hi h => ?_)
      refine am_iald (n := 30) (j := ((a2 - (nI 1)).toNatClampNeg)) d_X12_findSpent_144 (Nat.le_of_ble_eq_true rfl) (Nat.le_of_ble_eq_true rfl) rfl hi rfl hF ?_
      refine am_seg s_M_findSpent_8 (y := (146, [(0, .ref 140), (2, .int a2)], [.int ((τ.1 150 (a2.toNatClampNeg)) + (τ.1 150 ((a2 - (nI 1)).toNatClampNeg))), .int a2, .ref 150], am_D τ)) hF t_s_M_findSpent_8 rfl rfl ?_
      refine am_gd h (fun hi h => ?_)
      refine am_iast (n := 30) (j := (a2.toNatClampNeg)) d_X12_findSpent_146 (Nat.le_of_ble_eq_true rfl) (Nat.le_of_ble_eq_true rfl) rfl hi rfl hF ?_
      refine am_seg s_M_findSpent_9 (y := (124, [(2, .int (a2 + (nI 1))), (0, .ref 140)], [], am_D (am_si τ 150 (a2.toNatClampNeg) ((τ.1 150 (a2.toNatClampNeg)) + (τ.1 150 ((a2 - (nI 1)).toNatClampNeg)))))) hF t_s_M_findSpent_9 rfl rfl ?_
      refine am_pick [1, 0] rfl ?_
      exact ih _ _ h
def M_findSpent_90 (k23 : am_T → Int32 → Int32 → Option (am_T)) (k59 : am_T → Int32 → Int32 → Int32 → Int32 → Int32 → Option (am_T)) (τ : am_T) (a1 : Int32) (a2 : Int32) (a3 : Int32) (a4 : Int32) (a5 : Int32) (s0 : Int32) : Option (am_T) :=
  am_g (am_in s0 30) (am_g (am_in (a3 + (nI 1)) 1060) (am_g (am_in s0 30) (am_g (am_in a3 1060) (k59 (am_si τ 150 (s0.toNatClampNeg) ((τ.1 150 (s0.toNatClampNeg)) + (τ.1 141 ((a3 + (nI 1)).toNatClampNeg)))) a1 a2 a3 a4 (a5 + ((am_si τ 150 (s0.toNatClampNeg) ((τ.1 150 (s0.toNatClampNeg)) + (τ.1 141 ((a3 + (nI 1)).toNatClampNeg)))).1 141 (a3.toNatClampNeg)))))))
set_option maxRecDepth 20000 in
theorem ok_M_findSpent_90 {X : am_X} {τ' : am_T} (hF : am_F X "ShareHouseModel" cX12_findSpent 6) (hR : am_R X 0 0) (hB : am_B X none none (am_D τ')) {k23 : am_T → Int32 → Int32 → Option (am_T)} (hk23 : ∀ (τ : am_T) (a1 : Int32) (a2 : Int32), k23 τ a1 a2 = some τ' → am_W X 6 (23, [(0, .ref 140), (1, .int a1), (2, .int a2)], [], am_D τ)) {k59 : am_T → Int32 → Int32 → Int32 → Int32 → Int32 → Option (am_T)} (hk59 : ∀ (τ : am_T) (a1 : Int32) (a2 : Int32) (a3 : Int32) (a4 : Int32) (a5 : Int32), k59 τ a1 a2 a3 a4 a5 = some τ' → am_W X 6 (59, [(0, .ref 140), (1, .int a1), (2, .int a2), (3, .int a3), (4, .int a4), (5, .int a5)], [], am_D τ)) {τ : am_T} {a1 : Int32} {a2 : Int32} {a3 : Int32} {a4 : Int32} {a5 : Int32} {s0 : Int32} (h : M_findSpent_90 k23 k59 τ a1 a2 a3 a4 a5 s0 = some τ') : am_W X 6 (90, [(0, .ref 140), (1, .int a1), (2, .int a2), (3, .int a3), (4, .int a4), (5, .int a5)], [.int s0, .ref 150], am_D τ) := by
  unfold M_findSpent_90 at h
  refine am_seg s_M_findSpent_16 (y := (91, [(0, .ref 140), (1, .int a1), (2, .int a2), (3, .int a3), (4, .int a4), (5, .int a5)], [.int s0, .ref 150, .int s0, .ref 150], am_D τ)) hF t_s_M_findSpent_16 rfl rfl ?_
  refine am_gd h (fun hi h => ?_)
  refine am_iald (n := 30) (j := (s0.toNatClampNeg)) d_X12_findSpent_91 (Nat.le_of_ble_eq_true rfl) (Nat.le_of_ble_eq_true rfl) rfl hi rfl hF ?_
  refine am_seg s_M_findSpent_17 (y := (99, [(0, .ref 140), (1, .int a1), (2, .int a2), (3, .int a3), (4, .int a4), (5, .int a5)], [.int (a3 + (nI 1)), .ref 141, .int (τ.1 150 (s0.toNatClampNeg)), .int s0, .ref 150], am_D τ)) hF t_s_M_findSpent_17 rfl rfl ?_
  refine am_gd h (fun hi h => ?_)
  refine am_iald (n := 1060) (j := ((a3 + (nI 1)).toNatClampNeg)) d_X12_findSpent_99 (Nat.le_of_ble_eq_true rfl) (Nat.le_of_ble_eq_true rfl) rfl hi rfl hF ?_
  refine am_seg s_M_findSpent_18 (y := (101, [(0, .ref 140), (1, .int a1), (2, .int a2), (3, .int a3), (4, .int a4), (5, .int a5)], [.int ((τ.1 150 (s0.toNatClampNeg)) + (τ.1 141 ((a3 + (nI 1)).toNatClampNeg))), .int s0, .ref 150], am_D τ)) hF t_s_M_findSpent_18 rfl rfl ?_
  refine am_gd h (fun hi h => ?_)
  refine am_iast (n := 30) (j := (s0.toNatClampNeg)) d_X12_findSpent_101 (Nat.le_of_ble_eq_true rfl) (Nat.le_of_ble_eq_true rfl) rfl hi rfl hF ?_
  refine am_seg s_M_findSpent_19 (y := (109, [(0, .ref 140), (1, .int a1), (2, .int a2), (3, .int a3), (4, .int a4), (5, .int a5)], [.int a3, .ref 141, .int a5], am_D (am_si τ 150 (s0.toNatClampNeg) ((τ.1 150 (s0.toNatClampNeg)) + (τ.1 141 ((a3 + (nI 1)).toNatClampNeg)))))) hF t_s_M_findSpent_19 rfl rfl ?_
  refine am_gd h (fun hi h => ?_)
  refine am_iald (n := 1060) (j := (a3.toNatClampNeg)) d_X12_findSpent_109 (Nat.le_of_ble_eq_true rfl) (Nat.le_of_ble_eq_true rfl) rfl hi rfl hF ?_
  refine am_seg s_M_findSpent_20 (y := (59, [(5, .int (a5 + ((am_si τ 150 (s0.toNatClampNeg) ((τ.1 150 (s0.toNatClampNeg)) + (τ.1 141 ((a3 + (nI 1)).toNatClampNeg)))).1 141 (a3.toNatClampNeg)))), (0, .ref 140), (1, .int a1), (2, .int a2), (3, .int a3), (4, .int a4)], [], am_D (am_si τ 150 (s0.toNatClampNeg) ((τ.1 150 (s0.toNatClampNeg)) + (τ.1 141 ((a3 + (nI 1)).toNatClampNeg)))))) hF t_s_M_findSpent_20 rfl rfl ?_
  refine am_pick [1, 2, 3, 4, 5, 0] rfl ?_
  exact hk59 _ _ _ _ _ _ h
def M_findSpent_59 (k23 : am_T → Int32 → Int32 → Option (am_T)) : Nat → am_T → Int32 → Int32 → Int32 → Int32 → Int32 → Option (am_T)
  | 0, _, _, _, _, _, _ => none
  | n + 1, τ, a1, a2, a3, a4, a5 =>
    if (nI 30) ≤ (a5 - a4) then
  (k23 τ a1 (a2 + (nI 1)))
else
  (if 0 ≤ (a5 - a4) then
  (M_findSpent_90 k23 (M_findSpent_59 k23 n) τ a1 a2 a3 a4 a5 (a5 - a4))
else
  (M_findSpent_90 k23 (M_findSpent_59 k23 n) τ a1 a2 a3 a4 a5 (nI 0)))
set_option maxRecDepth 20000 in
theorem ok_M_findSpent_59 {X : am_X} {τ' : am_T} (hF : am_F X "ShareHouseModel" cX12_findSpent 6) (hR : am_R X 0 0) (hB : am_B X none none (am_D τ')) {k23 : am_T → Int32 → Int32 → Option (am_T)} (hk23 : ∀ (τ : am_T) (a1 : Int32) (a2 : Int32), k23 τ a1 a2 = some τ' → am_W X 6 (23, [(0, .ref 140), (1, .int a1), (2, .int a2)], [], am_D τ)) : ∀ (n : Nat) (τ : am_T) (a1 : Int32) (a2 : Int32) (a3 : Int32) (a4 : Int32) (a5 : Int32), M_findSpent_59 k23 n τ a1 a2 a3 a4 a5 = some τ' → am_W X 6 (59, [(0, .ref 140), (1, .int a1), (2, .int a2), (3, .int a3), (4, .int a4), (5, .int a5)], [], am_D τ) := by
  intro n
  induction n with
  | zero => intro τ a1 a2 a3 a4 a5 h; unfold M_findSpent_59 at h; cases h
  | succ n ih =>
    intro τ a1 a2 a3 a4 a5 h
    unfold M_findSpent_59 at h
    refine am_seg s_M_findSpent_12 (y := (66, [(0, .ref 140), (1, .int a1), (2, .int a2), (3, .int a3), (4, .int a4), (5, .int a5)], [.int (nI 30), .int (a5 - a4)], am_D τ)) hF t_s_M_findSpent_12 rfl rfl ?_
    refine am_ite h (fun hc h => ?_) (fun hc h => ?_)
    · refine am_icmp_ge_t (t := 116) d_X12_findSpent_66 (by decide) hc hF ?_
      refine am_seg s_M_findSpent_13 (y := (23, [(2, .int (a2 + (nI 1))), (0, .ref 140), (1, .int a1), (3, .int a3), (4, .int a4), (5, .int a5)], [], am_D τ)) hF t_s_M_findSpent_13 rfl rfl ?_
      refine am_pick [1, 2, 0] rfl ?_
      exact hk23 _ _ _ h
    · refine am_icmp_ge_f (t := 116) d_X12_findSpent_66 (by decide) hc hF ?_
      refine am_seg s_M_findSpent_14 (y := (78, [(0, .ref 140), (1, .int a1), (2, .int a2), (3, .int a3), (4, .int a4), (5, .int a5)], [.int (a5 - a4), .ref 150], am_D τ)) hF t_s_M_findSpent_14 rfl rfl ?_
      refine am_ite h (fun hc h => ?_) (fun hc h => ?_)
      · refine am_if_ge_t (t := 85) d_X12_findSpent_78 (by decide) hc hF ?_
        refine am_seg s_M_findSpent_15 (y := (90, [(0, .ref 140), (1, .int a1), (2, .int a2), (3, .int a3), (4, .int a4), (5, .int a5)], [.int (a5 - a4), .ref 150], am_D τ)) hF t_s_M_findSpent_15 rfl rfl ?_
        exact ok_M_findSpent_90 hF hR hB hk23 ih h
      · refine am_if_ge_f (t := 85) d_X12_findSpent_78 (by decide) hc hF ?_
        refine am_seg s_M_findSpent_21 (y := (90, [(0, .ref 140), (1, .int a1), (2, .int a2), (3, .int a3), (4, .int a4), (5, .int a5)], [.int (nI 0), .ref 150], am_D τ)) hF t_s_M_findSpent_21 rfl rfl ?_
        exact ok_M_findSpent_90 hF hR hB hk23 ih h
def M_findSpent_23 : Nat → am_T → Int32 → Int32 → Option (am_T)
  | 0, _, _, _ => none
  | n + 1, τ, a1, a2 =>
    if (τ.1 141 8) ≤ a2 then
  (M_findSpent_124 5000 τ (nI 1))
else
  (am_g (am_in (((nI 1032) + ((nI 4) * a2)) + (nI 2)) 1060) (M_findSpent_59 (M_findSpent_23 n) 5000 τ a1 a2 ((nI 1032) + ((nI 4) * a2)) ((a1 >>> (a2 &&& 31)) &&& (nI 1)) (τ.1 141 ((((nI 1032) + ((nI 4) * a2)) + (nI 2)).toNatClampNeg))))
set_option maxRecDepth 20000 in
theorem ok_M_findSpent_23 {X : am_X} {τ' : am_T} (hF : am_F X "ShareHouseModel" cX12_findSpent 6) (hR : am_R X 0 0) (hB : am_B X none none (am_D τ')) : ∀ (n : Nat) (τ : am_T) (a1 : Int32) (a2 : Int32), M_findSpent_23 n τ a1 a2 = some τ' → am_W X 6 (23, [(0, .ref 140), (1, .int a1), (2, .int a2)], [], am_D τ) := by
  intro n
  induction n with
  | zero => intro τ a1 a2 h; unfold M_findSpent_23 at h; cases h
  | succ n ih =>
    intro τ a1 a2 h
    unfold M_findSpent_23 at h
    refine am_seg s_M_findSpent_3 (y := (30, [(0, .ref 140), (1, .int a1), (2, .int a2)], [.int (nI 8), .ref 141, .int a2], am_D τ)) hF t_s_M_findSpent_3 rfl rfl ?_
    refine am_iald (n := 1060) (j := 8) d_X12_findSpent_30 (Nat.le_of_ble_eq_true rfl) (Nat.le_of_ble_eq_true rfl) rfl (by decide) rfl hF ?_
    refine am_ite h (fun hc h => ?_) (fun hc h => ?_)
    · refine am_icmp_ge_t (t := 122) d_X12_findSpent_31 (by decide) hc hF ?_
      refine am_seg s_M_findSpent_4 (y := (124, [(2, .int (nI 1)), (0, .ref 140), (1, .int a1)], [], am_D τ)) hF t_s_M_findSpent_4 rfl rfl ?_
      refine am_pick [1, 0] rfl ?_
      exact ok_M_findSpent_124 hF hR hB _ _ _ h
    · refine am_icmp_ge_f (t := 122) d_X12_findSpent_31 (by decide) hc hF ?_
      refine am_seg s_M_findSpent_10 (y := (56, [(4, .int ((a1 >>> (a2 &&& 31)) &&& (nI 1))), (3, .int ((nI 1032) + ((nI 4) * a2))), (0, .ref 140), (1, .int a1), (2, .int a2)], [.int (((nI 1032) + ((nI 4) * a2)) + (nI 2)), .ref 141], am_D τ)) hF t_s_M_findSpent_10 rfl rfl ?_
      refine am_gd h (fun hi h => ?_)
      refine am_iald (n := 1060) (j := ((((nI 1032) + ((nI 4) * a2)) + (nI 2)).toNatClampNeg)) d_X12_findSpent_56 (Nat.le_of_ble_eq_true rfl) (Nat.le_of_ble_eq_true rfl) rfl hi rfl hF ?_
      refine am_seg s_M_findSpent_11 (y := (59, [(5, .int (τ.1 141 ((((nI 1032) + ((nI 4) * a2)) + (nI 2)).toNatClampNeg))), (4, .int ((a1 >>> (a2 &&& 31)) &&& (nI 1))), (3, .int ((nI 1032) + ((nI 4) * a2))), (0, .ref 140), (1, .int a1), (2, .int a2)], [], am_D τ)) hF t_s_M_findSpent_11 rfl rfl ?_
      refine am_pick [3, 4, 5, 2, 1, 0] rfl ?_
      exact ok_M_findSpent_59 hF hR hB ih _ _ _ _ _ _ _ h
def M_findSpent_2 : Nat → am_T → Int32 → Int32 → Option (am_T)
  | 0, _, _, _ => none
  | n + 1, τ, a1, a2 =>
    if (nI 30) ≤ a2 then
  (M_findSpent_23 5000 τ a1 (nI 0))
else
  (am_g (am_in a2 30) ((M_findSpent_2 n) (am_si τ 150 (a2.toNatClampNeg) (nI 0)) a1 (a2 + (nI 1))))
set_option maxRecDepth 20000 in
theorem ok_M_findSpent_2 {X : am_X} {τ' : am_T} (hF : am_F X "ShareHouseModel" cX12_findSpent 6) (hR : am_R X 0 0) (hB : am_B X none none (am_D τ')) : ∀ (n : Nat) (τ : am_T) (a1 : Int32) (a2 : Int32), M_findSpent_2 n τ a1 a2 = some τ' → am_W X 6 (2, [(0, .ref 140), (1, .int a1), (2, .int a2)], [], am_D τ) := by
  intro n
  induction n with
  | zero => intro τ a1 a2 h; unfold M_findSpent_2 at h; cases h
  | succ n ih =>
    intro τ a1 a2 h
    unfold M_findSpent_2 at h
    refine am_seg s_M_findSpent_1 (y := (5, [(0, .ref 140), (1, .int a1), (2, .int a2)], [.int (nI 30), .int a2], am_D τ)) hF t_s_M_findSpent_1 rfl rfl ?_
    refine am_ite h (fun hc h => ?_) (fun hc h => ?_)
    · refine am_icmp_ge_t (t := 21) d_X12_findSpent_5 (by decide) hc hF ?_
      refine am_seg s_M_findSpent_2 (y := (23, [(2, .int (nI 0)), (0, .ref 140), (1, .int a1)], [], am_D τ)) hF t_s_M_findSpent_2 rfl rfl ?_
      refine am_pick [1, 2, 0] rfl ?_
      exact ok_M_findSpent_23 hF hR hB _ _ _ _ h
    · refine am_icmp_ge_f (t := 21) d_X12_findSpent_5 (by decide) hc hF ?_
      refine am_seg s_M_findSpent_22 (y := (14, [(0, .ref 140), (1, .int a1), (2, .int a2)], [.int (nI 0), .int a2, .ref 150], am_D τ)) hF t_s_M_findSpent_22 rfl rfl ?_
      refine am_gd h (fun hi h => ?_)
      refine am_iast (n := 30) (j := (a2.toNatClampNeg)) d_X12_findSpent_14 (Nat.le_of_ble_eq_true rfl) (Nat.le_of_ble_eq_true rfl) rfl hi rfl hF ?_
      refine am_seg s_M_findSpent_23 (y := (2, [(2, .int (a2 + (nI 1))), (0, .ref 140), (1, .int a1)], [], am_D (am_si τ 150 (a2.toNatClampNeg) (nI 0)))) hF t_s_M_findSpent_23 rfl rfl ?_
      refine am_pick [1, 2, 0] rfl ?_
      exact ih _ _ _ h
def M_findSpent (τ : am_T) (a1 : Int32) : Option (am_T) :=
  M_findSpent_2 5000 τ a1 (nI 0)
set_option maxRecDepth 20000 in
theorem ok_M_findSpent {X : am_X} {a1 : Int32} {τ τ' : am_T} (hF : am_F X "ShareHouseModel" cX12_findSpent 6) (hR : am_R X 0 0) (hB : am_B X none none (am_D τ')) (h : M_findSpent τ a1 = some τ') : am_W X 6 (0, [(0, .ref 140), (1, .int a1)], [], am_D τ) := by
  unfold M_findSpent at h
  refine am_seg s_M_findSpent_0 (y := (2, [(2, .int (nI 0)), (0, .ref 140), (1, .int a1)], [], am_D τ)) hF t_s_M_findSpent_0 rfl rfl ?_
  refine am_pick [1, 2, 0] rfl ?_
  exact ok_M_findSpent_2 hF hR hB _ _ _ _ h
theorem c_M_findSpent {a1 : Int32} {τ τ' : am_T} (h : M_findSpent τ a1 = some τ') : am_C yX12_findSpent cX12_findSpent 6 none 0 0 [.ref 140, .int a1] (am_D τ) none (am_D τ') :=
  am_enter (by decide +kernel) (Nat.le_of_ble_eq_true rfl) ⟨Nat.le_refl _, Nat.le_refl _⟩ (fun X hF hR hB => ok_M_findSpent hF hR hB h)
def s_M_lacks_0 : List am_Q := [(0, .aload_n 0, 0, 0, 0, .null), (1, .getfield 7, 12, 0, 152, .null), (4, .bipush 15, 0, 0, 0, .int (nI 15))]
theorem t_s_M_lacks_0 : s_M_lacks_0.all (am_ok 12 cX12_lacks) = true := by decide +kernel
theorem d_X12_lacks_6 : decode cX12_lacks 6 = .ok (.iaload, 1) := by decide +kernel
def s_M_lacks_1 : List am_Q := [(7, .aload_n 0, 0, 0, 0, .null), (8, .getfield 38, 12, 25, 177, .null), (11, .iload_n 1, 0, 0, 0, .null)]
theorem t_s_M_lacks_1 : s_M_lacks_1.all (am_ok 12 cX12_lacks) = true := by decide +kernel
theorem d_X12_lacks_12 : decode cX12_lacks 12 = .ok (.iaload, 1) := by decide +kernel
def s_M_lacks_2 : List am_Q := [(13, .iadd, 0, 0, 0, .null), (14, .aload_n 0, 0, 0, 0, .null), (15, .getfield 7, 12, 0, 152, .null), (18, .bipush 14, 0, 0, 0, .int (nI 14))]
theorem t_s_M_lacks_2 : s_M_lacks_2.all (am_ok 12 cX12_lacks) = true := by decide +kernel
theorem d_X12_lacks_20 : decode cX12_lacks 20 = .ok (.iaload, 1) := by decide +kernel
def s_M_lacks_3 : List am_Q := [(21, .isub, 0, 0, 0, .null), (22, .iload_n 1, 0, 0, 0, .null), (23, .iconst 1, 0, 0, 0, .int (nI 1)), (24, .iadd, 0, 0, 0, .null), (25, .iload_n 2, 0, 0, 0, .null), (26, .imul, 0, 0, 0, .null), (27, .isub, 0, 0, 0, .null)]
theorem t_s_M_lacks_3 : s_M_lacks_3.all (am_ok 12 cX12_lacks) = true := by decide +kernel
theorem d_X12_lacks_28 : decode cX12_lacks 28 = .ok (.ireturn, 1) := by decide +kernel
def M_lacks (τ : am_T) (a1 : Int32) (a2 : Int32) : Option (Int32 × am_T) :=
  am_g (am_in a1 30) (some (((((τ.1 141 15) + (τ.1 150 (a1.toNatClampNeg))) - (τ.1 141 14)) - ((a1 + (nI 1)) * a2)), τ))
set_option maxRecDepth 20000 in
theorem ok_M_lacks {X : am_X} {a1 : Int32} {a2 : Int32} {v : Int32} {τ τ' : am_T} (hF : am_F X "ShareHouseModel" cX12_lacks 3) (hR : am_R X 0 0) (hB : am_B X (some .int) (some (.int v)) (am_D τ')) (h : M_lacks τ a1 a2 = some (v, τ')) : am_W X 3 (0, [(0, .ref 140), (1, .int a1), (2, .int a2)], [], am_D τ) := by
  unfold M_lacks at h
  refine am_seg s_M_lacks_0 (y := (6, [(0, .ref 140), (1, .int a1), (2, .int a2)], [.int (nI 15), .ref 141], am_D τ)) hF t_s_M_lacks_0 rfl rfl ?_
  refine am_iald (n := 1060) (j := 15) d_X12_lacks_6 (Nat.le_of_ble_eq_true rfl) (Nat.le_of_ble_eq_true rfl) rfl (by decide) rfl hF ?_
  refine am_seg s_M_lacks_1 (y := (12, [(0, .ref 140), (1, .int a1), (2, .int a2)], [.int a1, .ref 150, .int (τ.1 141 15)], am_D τ)) hF t_s_M_lacks_1 rfl rfl ?_
  refine am_gd h (fun hi h => ?_)
  refine am_iald (n := 30) (j := (a1.toNatClampNeg)) d_X12_lacks_12 (Nat.le_of_ble_eq_true rfl) (Nat.le_of_ble_eq_true rfl) rfl hi rfl hF ?_
  refine am_seg s_M_lacks_2 (y := (20, [(0, .ref 140), (1, .int a1), (2, .int a2)], [.int (nI 14), .ref 141, .int ((τ.1 141 15) + (τ.1 150 (a1.toNatClampNeg)))], am_D τ)) hF t_s_M_lacks_2 rfl rfl ?_
  refine am_iald (n := 1060) (j := 14) d_X12_lacks_20 (Nat.le_of_ble_eq_true rfl) (Nat.le_of_ble_eq_true rfl) rfl (by decide) rfl hF ?_
  refine am_seg s_M_lacks_3 (y := (28, [(0, .ref 140), (1, .int a1), (2, .int a2)], [.int ((((τ.1 141 15) + (τ.1 150 (a1.toNatClampNeg))) - (τ.1 141 14)) - ((a1 + (nI 1)) * a2))], am_D τ)) hF t_s_M_lacks_3 rfl rfl ?_
  obtain ⟨rfl, rfl⟩ := am_pair h
  exact am_iret d_X12_lacks_28 hF hB
theorem c_M_lacks {a1 : Int32} {a2 : Int32} {v : Int32} {τ τ' : am_T} (h : M_lacks τ a1 a2 = some (v, τ')) : am_C yX12_lacks cX12_lacks 3 (some .int) 0 0 [.ref 140, .int a1, .int a2] (am_D τ) (some (.int v)) (am_D τ') :=
  am_enter (by decide +kernel) (Nat.le_of_ble_eq_true rfl) ⟨Nat.le_refl _, Nat.le_refl _⟩ (fun X hF hR hB => ok_M_lacks hF hR hB h)

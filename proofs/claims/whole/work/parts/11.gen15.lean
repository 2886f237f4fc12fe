def s_M_sell_0 : List am_Q := [(0, .aload_n 0, 0, 0, 0, .null), (1, .iload_n 1, 0, 0, 0, .null)]
theorem t_s_M_sell_0 : s_M_sell_0.all (am_ok 12 cX12_sell) = true := by decide +kernel
theorem d_X12_sell_2 : decode cX12_sell 2 = .ok (.invokevirtual 179, 3) := by decide +kernel
theorem d_X12_sell_5 : decode cX12_sell 5 = .ok (.ifCond .eq 18, 3) := by decide +kernel
def s_M_sell_1 : List am_Q := [(23, .iconst (-1), 0, 0, 0, .int (-1 : Int32))]
theorem t_s_M_sell_1 : s_M_sell_1.all (am_ok 12 cX12_sell) = true := by decide +kernel
theorem d_X12_sell_24 : decode cX12_sell 24 = .ok (.ireturn, 1) := by decide +kernel
def s_M_sell_2 : List am_Q := [(8, .iload_n 2, 0, 0, 0, .null)]
theorem t_s_M_sell_2 : s_M_sell_2.all (am_ok 12 cX12_sell) = true := by decide +kernel
theorem d_X12_sell_9 : decode cX12_sell 9 = .ok (.invokestatic 264, 3) := by decide +kernel
theorem d_X12_sell_12 : decode cX12_sell 12 = .ok (.ifCond .eq 11, 3) := by decide +kernel
def s_M_sell_3 : List am_Q := [(23, .iconst (-1), 0, 0, 0, .int (-1 : Int32))]
theorem t_s_M_sell_3 : s_M_sell_3.all (am_ok 12 cX12_sell) = true := by decide +kernel
def s_M_sell_4 : List am_Q := [(15, .aload_n 0, 0, 0, 0, .null), (16, .iload_n 3, 0, 0, 0, .null)]
theorem t_s_M_sell_4 : s_M_sell_4.all (am_ok 12 cX12_sell) = true := by decide +kernel
theorem d_X12_sell_17 : decode cX12_sell 17 = .ok (.invokevirtual 226, 3) := by decide +kernel
theorem d_X12_sell_20 : decode cX12_sell 20 = .ok (.ifCond .ne 5, 3) := by decide +kernel
def s_M_sell_5 : List am_Q := [(25, .aload_n 0, 0, 0, 0, .null), (26, .getfield 7, 12, 0, 152, .null), (29, .iconst 4, 0, 0, 0, .int (nI 4))]
theorem t_s_M_sell_5 : s_M_sell_5.all (am_ok 12 cX12_sell) = true := by decide +kernel
theorem d_X12_sell_30 : decode cX12_sell 30 = .ok (.iaload, 1) := by decide +kernel
def s_M_sell_6 : List am_Q := [(31, .bipush 20, 0, 0, 0, .int (nI 20))]
theorem t_s_M_sell_6 : s_M_sell_6.all (am_ok 12 cX12_sell) = true := by decide +kernel
theorem d_X12_sell_33 : decode cX12_sell 33 = .ok (.if_icmp .ne 6, 3) := by decide +kernel
def s_M_sell_7 : List am_Q := [(39, .sipush 820, 0, 0, 0, .int (nI 820)), (42, .iconst 3, 0, 0, 0, .int (nI 3)), (43, .aload_n 0, 0, 0, 0, .null), (44, .getfield 7, 12, 0, 152, .null), (47, .iconst 4, 0, 0, 0, .int (nI 4))]
theorem t_s_M_sell_7 : s_M_sell_7.all (am_ok 12 cX12_sell) = true := by decide +kernel
theorem d_X12_sell_48 : decode cX12_sell 48 = .ok (.iaload, 1) := by decide +kernel
def s_M_sell_8 : List am_Q := [(49, .imul, 0, 0, 0, .null), (50, .iadd, 0, 0, 0, .null), (51, .istore 4, 0, 0, 0, .null), (53, .aload_n 0, 0, 0, 0, .null), (54, .getfield 7, 12, 0, 152, .null), (57, .iload 4, 0, 0, 0, .null), (59, .iload_n 1, 0, 0, 0, .null)]
theorem t_s_M_sell_8 : s_M_sell_8.all (am_ok 12 cX12_sell) = true := by decide +kernel
theorem d_X12_sell_60 : decode cX12_sell 60 = .ok (.iastore, 1) := by decide +kernel
def s_M_sell_9 : List am_Q := [(61, .aload_n 0, 0, 0, 0, .null), (62, .getfield 7, 12, 0, 152, .null), (65, .iload 4, 0, 0, 0, .null), (67, .iconst 1, 0, 0, 0, .int (nI 1)), (68, .iadd, 0, 0, 0, .null), (69, .iload_n 2, 0, 0, 0, .null)]
theorem t_s_M_sell_9 : s_M_sell_9.all (am_ok 12 cX12_sell) = true := by decide +kernel
theorem d_X12_sell_70 : decode cX12_sell 70 = .ok (.iastore, 1) := by decide +kernel
def s_M_sell_10 : List am_Q := [(71, .aload_n 0, 0, 0, 0, .null), (72, .getfield 7, 12, 0, 152, .null), (75, .iload 4, 0, 0, 0, .null), (77, .iconst 2, 0, 0, 0, .int (nI 2)), (78, .iadd, 0, 0, 0, .null), (79, .iload_n 3, 0, 0, 0, .null)]
theorem t_s_M_sell_10 : s_M_sell_10.all (am_ok 12 cX12_sell) = true := by decide +kernel
theorem d_X12_sell_80 : decode cX12_sell 80 = .ok (.iastore, 1) := by decide +kernel
def s_M_sell_11 : List am_Q := [(81, .aload_n 0, 0, 0, 0, .null), (82, .getfield 7, 12, 0, 152, .null), (85, .iconst 4, 0, 0, 0, .int (nI 4)), (86, .dup2, 0, 0, 0, .null)]
theorem t_s_M_sell_11 : s_M_sell_11.all (am_ok 12 cX12_sell) = true := by decide +kernel
theorem d_X12_sell_87 : decode cX12_sell 87 = .ok (.iaload, 1) := by decide +kernel
def s_M_sell_12 : List am_Q := [(88, .iconst 1, 0, 0, 0, .int (nI 1)), (89, .iadd, 0, 0, 0, .null)]
theorem t_s_M_sell_12 : s_M_sell_12.all (am_ok 12 cX12_sell) = true := by decide +kernel
theorem d_X12_sell_90 : decode cX12_sell 90 = .ok (.iastore, 1) := by decide +kernel
def s_M_sell_13 : List am_Q := [(91, .aload_n 0, 0, 0, 0, .null), (92, .getfield 7, 12, 0, 152, .null), (95, .iconst 4, 0, 0, 0, .int (nI 4))]
theorem t_s_M_sell_13 : s_M_sell_13.all (am_ok 12 cX12_sell) = true := by decide +kernel
theorem d_X12_sell_96 : decode cX12_sell 96 = .ok (.iaload, 1) := by decide +kernel
theorem d_X12_sell_97 : decode cX12_sell 97 = .ok (.ireturn, 1) := by decide +kernel
def s_M_sell_14 : List am_Q := [(36, .bipush (-2), 0, 0, 0, .int (-2 : Int32))]
theorem t_s_M_sell_14 : s_M_sell_14.all (am_ok 12 cX12_sell) = true := by decide +kernel
theorem d_X12_sell_38 : decode cX12_sell 38 = .ok (.ireturn, 1) := by decide +kernel
def s_M_sell_15 : List am_Q := [(23, .iconst (-1), 0, 0, 0, .int (-1 : Int32))]
theorem t_s_M_sell_15 : s_M_sell_15.all (am_ok 12 cX12_sell) = true := by decide +kernel
def M_sell (τ : am_T) (a1 : Int32) (a2 : Int32) (a3 : Int32) : Option (Int32 × am_T) :=
  (M_isFlat τ a1).bind (fun x1 =>
  if x1.1 = 0 then
  (some ((-1 : Int32), x1.2))
else
  ((M_isOwner x1.2 a2).bind (fun x2 =>
  if x2.1 = 0 then
  (some ((-1 : Int32), x2.2))
else
  ((M_isKnownDay x2.2 a3).bind (fun x3 =>
  if x3.1 = 0 then
  (some ((-1 : Int32), x3.2))
else
  (if (x3.2.1 141 4) = (nI 20) then
  (some ((-2 : Int32), x3.2))
else
  (am_g (am_in ((nI 820) + ((nI 3) * (x3.2.1 141 4))) 1060) (am_g (am_in (((nI 820) + ((nI 3) * (x3.2.1 141 4))) + (nI 1)) 1060) (am_g (am_in (((nI 820) + ((nI 3) * (x3.2.1 141 4))) + (nI 2)) 1060) (some (((am_si (am_si (am_si (am_si x3.2 141 (((nI 820) + ((nI 3) * (x3.2.1 141 4))).toNatClampNeg) a1) 141 ((((nI 820) + ((nI 3) * (x3.2.1 141 4))) + (nI 1)).toNatClampNeg) a2) 141 ((((nI 820) + ((nI 3) * (x3.2.1 141 4))) + (nI 2)).toNatClampNeg) a3) 141 4 (((am_si (am_si (am_si x3.2 141 (((nI 820) + ((nI 3) * (x3.2.1 141 4))).toNatClampNeg) a1) 141 ((((nI 820) + ((nI 3) * (x3.2.1 141 4))) + (nI 1)).toNatClampNeg) a2) 141 ((((nI 820) + ((nI 3) * (x3.2.1 141 4))) + (nI 2)).toNatClampNeg) a3).1 141 4) + (nI 1))).1 141 4), (am_si (am_si (am_si (am_si x3.2 141 (((nI 820) + ((nI 3) * (x3.2.1 141 4))).toNatClampNeg) a1) 141 ((((nI 820) + ((nI 3) * (x3.2.1 141 4))) + (nI 1)).toNatClampNeg) a2) 141 ((((nI 820) + ((nI 3) * (x3.2.1 141 4))) + (nI 2)).toNatClampNeg) a3) 141 4 (((am_si (am_si (am_si x3.2 141 (((nI 820) + ((nI 3) * (x3.2.1 141 4))).toNatClampNeg) a1) 141 ((((nI 820) + ((nI 3) * (x3.2.1 141 4))) + (nI 1)).toNatClampNeg) a2) 141 ((((nI 820) + ((nI 3) * (x3.2.1 141 4))) + (nI 2)).toNatClampNeg) a3).1 141 4) + (nI 1))))))))))))))
set_option maxRecDepth 20000 in
theorem ok_M_sell {X : am_X} {a1 : Int32} {a2 : Int32} {a3 : Int32} {v : Int32} {τ τ' : am_T} (hF : am_F X "ShareHouseModel" cX12_sell 5) (hR : am_R X 2 43) (hB : am_B X (some .int) (some (.int v)) (am_D τ')) (h : M_sell τ a1 a2 a3 = some (v, τ')) : am_W X 5 (0, [(0, .ref 140), (1, .int a1), (2, .int a2), (3, .int a3)], [], am_D τ) := by
  unfold M_sell at h
  refine am_seg s_M_sell_0 (y := (2, [(0, .ref 140), (1, .int a1), (2, .int a2), (3, .int a3)], [.int a1, .ref 140], am_D τ)) hF t_s_M_sell_0 rfl rfl ?_
  refine am_bd h (fun x1 hx h => ?_)
  refine am_callV (As := [.int a1]) (r := (some (.int x1.1))) (st := []) (σ' := am_D x1.2) (ci := 12) hF hR d_X12_sell_2 (c_M_isFlat (τ' := x1.2) hx) (Nat.le_refl _) (Nat.le_refl _) wl_M_179 wi_yX12_isFlat we_yX12_isFlat wn_ShareHouseModel wc_yX12_isFlat (Nat.le_of_ble_eq_true rfl) (Nat.le_of_ble_eq_true rfl) rfl rfl wy_yX12_isFlat rfl ⟨by decide, by decide⟩ (Nat.le_of_ble_eq_true rfl) ?_
  refine am_ite h (fun hc h => ?_) (fun hc h => ?_)
  · refine am_if_eq_t (t := 23) d_X12_sell_5 (by decide) hc hF ?_
    refine am_seg s_M_sell_1 (y := (24, [(0, .ref 140), (1, .int a1), (2, .int a2), (3, .int a3)], [.int (-1 : Int32)], am_D x1.2)) hF t_s_M_sell_1 rfl rfl ?_
    obtain ⟨rfl, rfl⟩ := am_pair h
    exact am_iret d_X12_sell_24 hF hB
  · refine am_if_eq_f (t := 23) d_X12_sell_5 (by decide) hc hF ?_
    refine am_seg s_M_sell_2 (y := (9, [(0, .ref 140), (1, .int a1), (2, .int a2), (3, .int a3)], [.int a2], am_D x1.2)) hF t_s_M_sell_2 rfl rfl ?_
    refine am_bd h (fun x2 hx h => ?_)
    refine am_callS (As := [.int a2]) (r := (some (.int x2.1))) (st := []) (σ' := am_D x2.2) hF hR d_X12_sell_9 (c_M_isOwner (τ' := x2.2) hx) (Nat.le_refl _) (Nat.le_refl _) wl_M_264 ws_yX12_isOwner wn_ShareHouseModel wc_yX12_isOwner wy_yX12_isOwner rfl ⟨by decide, by decide⟩ (Nat.le_of_ble_eq_true rfl) ?_
    refine am_ite h (fun hc h => ?_) (fun hc h => ?_)
    · refine am_if_eq_t (t := 23) d_X12_sell_12 (by decide) hc hF ?_
      refine am_seg s_M_sell_3 (y := (24, [(0, .ref 140), (1, .int a1), (2, .int a2), (3, .int a3)], [.int (-1 : Int32)], am_D x2.2)) hF t_s_M_sell_3 rfl rfl ?_
      obtain ⟨rfl, rfl⟩ := am_pair h
      exact am_iret d_X12_sell_24 hF hB
    · refine am_if_eq_f (t := 23) d_X12_sell_12 (by decide) hc hF ?_
      refine am_seg s_M_sell_4 (y := (17, [(0, .ref 140), (1, .int a1), (2, .int a2), (3, .int a3)], [.int a3, .ref 140], am_D x2.2)) hF t_s_M_sell_4 rfl rfl ?_
      refine am_bd h (fun x3 hx h => ?_)
      refine am_callV (As := [.int a3]) (r := (some (.int x3.1))) (st := []) (σ' := am_D x3.2) (ci := 12) hF hR d_X12_sell_17 (c_M_isKnownDay (τ' := x3.2) hx) (Nat.le_refl _) (Nat.le_refl _) wl_M_226 wi_yX12_isKnownDay we_yX12_isKnownDay wn_ShareHouseModel wc_yX12_isKnownDay (Nat.le_of_ble_eq_true rfl) (Nat.le_of_ble_eq_true rfl) rfl rfl wy_yX12_isKnownDay rfl ⟨by decide, by decide⟩ (Nat.le_of_ble_eq_true rfl) ?_
      refine am_ite h (fun hc h => ?_) (fun hc h => ?_)
      · refine am_if_ne_f (t := 25) d_X12_sell_20 (by decide) hc hF ?_
        refine am_seg s_M_sell_15 (y := (24, [(0, .ref 140), (1, .int a1), (2, .int a2), (3, .int a3)], [.int (-1 : Int32)], am_D x3.2)) hF t_s_M_sell_15 rfl rfl ?_
        obtain ⟨rfl, rfl⟩ := am_pair h
        exact am_iret d_X12_sell_24 hF hB
      · refine am_if_ne_t (t := 25) d_X12_sell_20 (by decide) hc hF ?_
        refine am_seg s_M_sell_5 (y := (30, [(0, .ref 140), (1, .int a1), (2, .int a2), (3, .int a3)], [.int (nI 4), .ref 141], am_D x3.2)) hF t_s_M_sell_5 rfl rfl ?_
        refine am_iald (n := 1060) (j := 4) d_X12_sell_30 (Nat.le_of_ble_eq_true rfl) (Nat.le_of_ble_eq_true rfl) rfl (by decide) rfl hF ?_
        refine am_seg s_M_sell_6 (y := (33, [(0, .ref 140), (1, .int a1), (2, .int a2), (3, .int a3)], [.int (nI 20), .int (x3.2.1 141 4)], am_D x3.2)) hF t_s_M_sell_6 rfl rfl ?_
        refine am_ite h (fun hc h => ?_) (fun hc h => ?_)
        · refine am_icmp_ne_f (t := 39) d_X12_sell_33 (by decide) hc hF ?_
          refine am_seg s_M_sell_14 (y := (38, [(0, .ref 140), (1, .int a1), (2, .int a2), (3, .int a3)], [.int (-2 : Int32)], am_D x3.2)) hF t_s_M_sell_14 rfl rfl ?_
          obtain ⟨rfl, rfl⟩ := am_pair h
          exact am_iret d_X12_sell_38 hF hB
        · refine am_icmp_ne_t (t := 39) d_X12_sell_33 (by decide) hc hF ?_
          refine am_seg s_M_sell_7 (y := (48, [(0, .ref 140), (1, .int a1), (2, .int a2), (3, .int a3)], [.int (nI 4), .ref 141, .int (nI 3), .int (nI 820)], am_D x3.2)) hF t_s_M_sell_7 rfl rfl ?_
          refine am_iald (n := 1060) (j := 4) d_X12_sell_48 (Nat.le_of_ble_eq_true rfl) (Nat.le_of_ble_eq_true rfl) rfl (by decide) rfl hF ?_
          refine am_seg s_M_sell_8 (y := (60, [(4, .int ((nI 820) + ((nI 3) * (x3.2.1 141 4)))), (0, .ref 140), (1, .int a1), (2, .int a2), (3, .int a3)], [.int a1, .int ((nI 820) + ((nI 3) * (x3.2.1 141 4))), .ref 141], am_D x3.2)) hF t_s_M_sell_8 rfl rfl ?_
          refine am_gd h (fun hi h => ?_)
          refine am_iast (n := 1060) (j := (((nI 820) + ((nI 3) * (x3.2.1 141 4))).toNatClampNeg)) d_X12_sell_60 (Nat.le_of_ble_eq_true rfl) (Nat.le_of_ble_eq_true rfl) rfl hi rfl hF ?_
          refine am_seg s_M_sell_9 (y := (70, [(4, .int ((nI 820) + ((nI 3) * (x3.2.1 141 4)))), (0, .ref 140), (1, .int a1), (2, .int a2), (3, .int a3)], [.int a2, .int (((nI 820) + ((nI 3) * (x3.2.1 141 4))) + (nI 1)), .ref 141], am_D (am_si x3.2 141 (((nI 820) + ((nI 3) * (x3.2.1 141 4))).toNatClampNeg) a1))) hF t_s_M_sell_9 rfl rfl ?_
          refine am_gd h (fun hi h => ?_)
          refine am_iast (n := 1060) (j := ((((nI 820) + ((nI 3) * (x3.2.1 141 4))) + (nI 1)).toNatClampNeg)) d_X12_sell_70 (Nat.le_of_ble_eq_true rfl) (Nat.le_of_ble_eq_true rfl) rfl hi rfl hF ?_
          refine am_seg s_M_sell_10 (y := (80, [(4, .int ((nI 820) + ((nI 3) * (x3.2.1 141 4)))), (0, .ref 140), (1, .int a1), (2, .int a2), (3, .int a3)], [.int a3, .int (((nI 820) + ((nI 3) * (x3.2.1 141 4))) + (nI 2)), .ref 141], am_D (am_si (am_si x3.2 141 (((nI 820) + ((nI 3) * (x3.2.1 141 4))).toNatClampNeg) a1) 141 ((((nI 820) + ((nI 3) * (x3.2.1 141 4))) + (nI 1)).toNatClampNeg) a2))) hF t_s_M_sell_10 rfl rfl ?_
          refine am_gd h (fun hi h => ?_)
          refine am_iast (n := 1060) (j := ((((nI 820) + ((nI 3) * (x3.2.1 141 4))) + (nI 2)).toNatClampNeg)) d_X12_sell_80 (Nat.le_of_ble_eq_true rfl) (Nat.le_of_ble_eq_true rfl) rfl hi rfl hF ?_
          refine am_seg s_M_sell_11 (y := (87, [(4, .int ((nI 820) + ((nI 3) * (x3.2.1 141 4)))), (0, .ref 140), (1, .int a1), (2, .int a2), (3, .int a3)], [.int (nI 4), .ref 141, .int (nI 4), .ref 141], am_D (am_si (am_si (am_si x3.2 141 (((nI 820) + ((nI 3) * (x3.2.1 141 4))).toNatClampNeg) a1) 141 ((((nI 820) + ((nI 3) * (x3.2.1 141 4))) + (nI 1)).toNatClampNeg) a2) 141 ((((nI 820) + ((nI 3) * (x3.2.1 141 4))) + (nI 2)).toNatClampNeg) a3))) hF t_s_M_sell_11 rfl rfl ?_
          refine am_iald (n := 1060) (j := 4) d_X12_sell_87 (Nat.le_of_ble_eq_true rfl) (Nat.le_of_ble_eq_true rfl) rfl (by decide) rfl hF ?_
          refine am_seg s_M_sell_12 (y := (90, [(4, .int ((nI 820) + ((nI 3) * (x3.2.1 141 4)))), (0, .ref 140), (1, .int a1), (2, .int a2), (3, .int a3)], [.int (((am_si (am_si (am_si x3.2 141 (((nI 820) + ((nI 3) * (x3.2.1 141 4))).toNatClampNeg) a1) 141 ((((nI 820) + ((nI 3) * (x3.2.1 141 4))) + (nI 1)).toNatClampNeg) a2) 141 ((((nI 820) + ((nI 3) * (x3.2.1 141 4))) + (nI 2)).toNatClampNeg) a3).1 141 4) + (nI 1)), .int (nI 4), .ref 141], am_D (am_si (am_si (am_si x3.2 141 (((nI 820) + ((nI 3) * (x3.2.1 141 4))).toNatClampNeg) a1) 141 ((((nI 820) + ((nI 3) * (x3.2.1 141 4))) + (nI 1)).toNatClampNeg) a2) 141 ((((nI 820) + ((nI 3) * (x3.2.1 141 4))) + (nI 2)).toNatClampNeg) a3))) hF t_s_M_sell_12 rfl rfl ?_
          refine am_iast (n := 1060) (j := 4) d_X12_sell_90 (Nat.le_of_ble_eq_true rfl) (Nat.le_of_ble_eq_true rfl) rfl (by decide) rfl hF ?_
          refine am_seg s_M_sell_13 (y := (96, [(4, .int ((nI 820) + ((nI 3) * (x3.2.1 141 4)))), (0, .ref 140), (1, .int a1), (2, .int a2), (3, .int a3)], [.int (nI 4), .ref 141], am_D (am_si (am_si (am_si (am_si x3.2 141 (((nI 820) + ((nI 3) * (x3.2.1 141 4))).toNatClampNeg) a1) 141 ((((nI 820) + ((nI 3) * (x3.2.1 141 4))) + (nI 1)).toNatClampNeg) a2) 141 ((((nI 820) + ((nI 3) * (x3.2.1 141 4))) + (nI 2)).toNatClampNeg) a3) 141 4 (((am_si (am_si (am_si x3.2 141 (((nI 820) + ((nI 3) * (x3.2.1 141 4))).toNatClampNeg) a1) 141 ((((nI 820) + ((nI 3) * (x3.2.1 141 4))) + (nI 1)).toNatClampNeg) a2) 141 ((((nI 820) + ((nI 3) * (x3.2.1 141 4))) + (nI 2)).toNatClampNeg) a3).1 141 4) + (nI 1))))) hF t_s_M_sell_13 rfl rfl ?_
          refine am_iald (n := 1060) (j := 4) d_X12_sell_96 (Nat.le_of_ble_eq_true rfl) (Nat.le_of_ble_eq_true rfl) rfl (by decide) rfl hF ?_
          obtain ⟨rfl, rfl⟩ := am_pair h
          exact am_iret d_X12_sell_97 hF hB
theorem c_M_sell {a1 : Int32} {a2 : Int32} {a3 : Int32} {v : Int32} {τ τ' : am_T} (h : M_sell τ a1 a2 a3 = some (v, τ')) : am_C yX12_sell cX12_sell 5 (some .int) 2 43 [.ref 140, .int a1, .int a2, .int a3] (am_D τ) (some (.int v)) (am_D τ') :=
  am_enter (by decide +kernel) (Nat.le_of_ble_eq_true rfl) ⟨Nat.le_refl _, Nat.le_refl _⟩ (fun X hF hR hB => ok_M_sell hF hR hB h)
def s_M_ownerOf_0 : List am_Q := [(0, .iconst (-1), 0, 0, 0, .int (-1 : Int32)), (1, .istore_n 3, 0, 0, 0, .null), (2, .sipush 820, 0, 0, 0, .int (nI 820)), (5, .istore 4, 0, 0, 0, .null)]
theorem t_s_M_ownerOf_0 : s_M_ownerOf_0.all (am_ok 12 cX12_ownerOf) = true := by decide +kernel
def s_M_ownerOf_1 : List am_Q := [(7, .iload 4, 0, 0, 0, .null), (9, .sipush 820, 0, 0, 0, .int (nI 820)), (12, .iconst 3, 0, 0, 0, .int (nI 3)), (13, .aload_n 0, 0, 0, 0, .null), (14, .getfield 7, 12, 0, 152, .null), (17, .iconst 4, 0, 0, 0, .int (nI 4))]
theorem t_s_M_ownerOf_1 : s_M_ownerOf_1.all (am_ok 12 cX12_ownerOf) = true := by decide +kernel
theorem d_X12_ownerOf_18 : decode cX12_ownerOf 18 = .ok (.iaload, 1) := by decide +kernel
def s_M_ownerOf_2 : List am_Q := [(19, .imul, 0, 0, 0, .null), (20, .iadd, 0, 0, 0, .null)]
theorem t_s_M_ownerOf_2 : s_M_ownerOf_2.all (am_ok 12 cX12_ownerOf) = true := by decide +kernel
theorem d_X12_ownerOf_21 : decode cX12_ownerOf 21 = .ok (.if_icmp .ge 64, 3) := by decide +kernel
def s_M_ownerOf_3 : List am_Q := [(85, .iload_n 3, 0, 0, 0, .null)]
theorem t_s_M_ownerOf_3 : s_M_ownerOf_3.all (am_ok 12 cX12_ownerOf) = true := by decide +kernel
theorem d_X12_ownerOf_86 : decode cX12_ownerOf 86 = .ok (.ifCond .ge 8, 3) := by decide +kernel
def s_M_ownerOf_4 : List am_Q := [(94, .aload_n 0, 0, 0, 0, .null), (95, .getfield 7, 12, 0, 152, .null), (98, .iload_n 3, 0, 0, 0, .null), (99, .iconst 1, 0, 0, 0, .int (nI 1)), (100, .iadd, 0, 0, 0, .null)]
theorem t_s_M_ownerOf_4 : s_M_ownerOf_4.all (am_ok 12 cX12_ownerOf) = true := by decide +kernel
theorem d_X12_ownerOf_101 : decode cX12_ownerOf 101 = .ok (.iaload, 1) := by decide +kernel
theorem d_X12_ownerOf_102 : decode cX12_ownerOf 102 = .ok (.ireturn, 1) := by decide +kernel
def s_M_ownerOf_5 : List am_Q := [(89, .bipush (-3), 0, 0, 0, .int (-3 : Int32)), (91, .goto 11, 102, 0, 0, .null)]
theorem t_s_M_ownerOf_5 : s_M_ownerOf_5.all (am_ok 12 cX12_ownerOf) = true := by decide +kernel
def s_M_ownerOf_6 : List am_Q := [(24, .aload_n 0, 0, 0, 0, .null), (25, .getfield 7, 12, 0, 152, .null), (28, .iload 4, 0, 0, 0, .null)]
theorem t_s_M_ownerOf_6 : s_M_ownerOf_6.all (am_ok 12 cX12_ownerOf) = true := by decide +kernel
theorem d_X12_ownerOf_30 : decode cX12_ownerOf 30 = .ok (.iaload, 1) := by decide +kernel
def s_M_ownerOf_7 : List am_Q := [(31, .iload_n 1, 0, 0, 0, .null)]
theorem t_s_M_ownerOf_7 : s_M_ownerOf_7.all (am_ok 12 cX12_ownerOf) = true := by decide +kernel
theorem d_X12_ownerOf_32 : decode cX12_ownerOf 32 = .ok (.if_icmp .ne 45, 3) := by decide +kernel
def s_M_ownerOf_8 : List am_Q := [(77, .iload_n 3, 0, 0, 0, .null), (78, .istore_n 3, 0, 0, 0, .null), (79, .iinc 4 3, 0, 0, 0, .int (nI 3)), (82, .goto (-75), 7, 0, 0, .null)]
theorem t_s_M_ownerOf_8 : s_M_ownerOf_8.all (am_ok 12 cX12_ownerOf) = true := by decide +kernel
def s_M_ownerOf_9 : List am_Q := [(35, .aload_n 0, 0, 0, 0, .null), (36, .getfield 7, 12, 0, 152, .null), (39, .iload 4, 0, 0, 0, .null), (41, .iconst 2, 0, 0, 0, .int (nI 2)), (42, .iadd, 0, 0, 0, .null)]
theorem t_s_M_ownerOf_9 : s_M_ownerOf_9.all (am_ok 12 cX12_ownerOf) = true := by decide +kernel
theorem d_X12_ownerOf_43 : decode cX12_ownerOf 43 = .ok (.iaload, 1) := by decide +kernel
def s_M_ownerOf_10 : List am_Q := [(44, .iload_n 2, 0, 0, 0, .null)]
theorem t_s_M_ownerOf_10 : s_M_ownerOf_10.all (am_ok 12 cX12_ownerOf) = true := by decide +kernel
theorem d_X12_ownerOf_45 : decode cX12_ownerOf 45 = .ok (.if_icmp .gt 32, 3) := by decide +kernel
def s_M_ownerOf_11 : List am_Q := [(77, .iload_n 3, 0, 0, 0, .null), (78, .istore_n 3, 0, 0, 0, .null), (79, .iinc 4 3, 0, 0, 0, .int (nI 3)), (82, .goto (-75), 7, 0, 0, .null)]
theorem t_s_M_ownerOf_11 : s_M_ownerOf_11.all (am_ok 12 cX12_ownerOf) = true := by decide +kernel
def s_M_ownerOf_12 : List am_Q := [(48, .iload_n 3, 0, 0, 0, .null)]
theorem t_s_M_ownerOf_12 : s_M_ownerOf_12.all (am_ok 12 cX12_ownerOf) = true := by decide +kernel
theorem d_X12_ownerOf_49 : decode cX12_ownerOf 49 = .ok (.ifCond .lt 23, 3) := by decide +kernel
def s_M_ownerOf_13 : List am_Q := [(72, .iload 4, 0, 0, 0, .null), (74, .goto 4, 78, 0, 0, .null), (78, .istore_n 3, 0, 0, 0, .null), (79, .iinc 4 3, 0, 0, 0, .int (nI 3)), (82, .goto (-75), 7, 0, 0, .null)]
theorem t_s_M_ownerOf_13 : s_M_ownerOf_13.all (am_ok 12 cX12_ownerOf) = true := by decide +kernel
def s_M_ownerOf_14 : List am_Q := [(52, .aload_n 0, 0, 0, 0, .null), (53, .getfield 7, 12, 0, 152, .null), (56, .iload 4, 0, 0, 0, .null), (58, .iconst 2, 0, 0, 0, .int (nI 2)), (59, .iadd, 0, 0, 0, .null)]
theorem t_s_M_ownerOf_14 : s_M_ownerOf_14.all (am_ok 12 cX12_ownerOf) = true := by decide +kernel
theorem d_X12_ownerOf_60 : decode cX12_ownerOf 60 = .ok (.iaload, 1) := by decide +kernel
def s_M_ownerOf_15 : List am_Q := [(61, .aload_n 0, 0, 0, 0, .null), (62, .getfield 7, 12, 0, 152, .null), (65, .iload_n 3, 0, 0, 0, .null), (66, .iconst 2, 0, 0, 0, .int (nI 2)), (67, .iadd, 0, 0, 0, .null)]
theorem t_s_M_ownerOf_15 : s_M_ownerOf_15.all (am_ok 12 cX12_ownerOf) = true := by decide +kernel
theorem d_X12_ownerOf_68 : decode cX12_ownerOf 68 = .ok (.iaload, 1) := by decide +kernel
theorem d_X12_ownerOf_69 : decode cX12_ownerOf 69 = .ok (.if_icmp .lt 8, 3) := by decide +kernel
def s_M_ownerOf_16 : List am_Q := [(77, .iload_n 3, 0, 0, 0, .null), (78, .istore_n 3, 0, 0, 0, .null), (79, .iinc 4 3, 0, 0, 0, .int (nI 3)), (82, .goto (-75), 7, 0, 0, .null)]
theorem t_s_M_ownerOf_16 : s_M_ownerOf_16.all (am_ok 12 cX12_ownerOf) = true := by decide +kernel
def s_M_ownerOf_17 : List am_Q := [(72, .iload 4, 0, 0, 0, .null), (74, .goto 4, 78, 0, 0, .null), (78, .istore_n 3, 0, 0, 0, .null), (79, .iinc 4 3, 0, 0, 0, .int (nI 3)), (82, .goto (-75), 7, 0, 0, .null)]
theorem t_s_M_ownerOf_17 : s_M_ownerOf_17.all (am_ok 12 cX12_ownerOf) = true := by decide +kernel
def M_ownerOf_7 : Nat → am_T → Int32 → Int32 → Int32 → Int32 → Option (Int32 × am_T)
  | 0, _, _, _, _, _ => none
  | n + 1, τ, a1, a2, a3, a4 =>
    if ((nI 820) + ((nI 3) * (τ.1 141 4))) ≤ a4 then
  (if 0 ≤ a3 then
  (am_g (am_in (a3 + (nI 1)) 1060) (some ((τ.1 141 ((a3 + (nI 1)).toNatClampNeg)), τ)))
else
  (some ((-3 : Int32), τ)))
else
  (am_g (am_in a4 1060) (if (τ.1 141 (a4.toNatClampNeg)) = a1 then
  (am_g (am_in (a4 + (nI 2)) 1060) (if a2 < (τ.1 141 ((a4 + (nI 2)).toNatClampNeg)) then
  ((M_ownerOf_7 n) τ a1 a2 a3 (a4 + (nI 3)))
else
  (if a3 < 0 then
  ((M_ownerOf_7 n) τ a1 a2 a4 (a4 + (nI 3)))
else
  (am_g (am_in (a4 + (nI 2)) 1060) (am_g (am_in (a3 + (nI 2)) 1060) (if (τ.1 141 ((a4 + (nI 2)).toNatClampNeg)) < (τ.1 141 ((a3 + (nI 2)).toNatClampNeg)) then
  ((M_ownerOf_7 n) τ a1 a2 a3 (a4 + (nI 3)))
else
  ((M_ownerOf_7 n) τ a1 a2 a4 (a4 + (nI 3)))))))))
else
  ((M_ownerOf_7 n) τ a1 a2 a3 (a4 + (nI 3)))))
set_option maxRecDepth 20000 in
theorem ok_M_ownerOf_7 {X : am_X} {v : Int32} {τ' : am_T} (hF : am_F X "ShareHouseModel" cX12_ownerOf 5) (hR : am_R X 0 0) (hB : am_B X (some .int) (some (.int v)) (am_D τ')) : ∀ (n : Nat) (τ : am_T) (a1 : Int32) (a2 : Int32) (a3 : Int32) (a4 : Int32), M_ownerOf_7 n τ a1 a2 a3 a4 = some (v, τ') → am_W X 5 (7, [(0, .ref 140), (1, .int a1), (2, .int a2), (3, .int a3), (4, .int a4)], [], am_D τ) := by
  intro n
  induction n with
  | zero => intro τ a1 a2 a3 a4 h; unfold M_ownerOf_7 at h; cases h
  | succ n ih =>
    intro τ a1 a2 a3 a4 h
    unfold M_ownerOf_7 at h
    refine am_seg s_M_ownerOf_1 (y := (18, [(0, .ref 140), (1, .int a1), (2, .int a2), (3, .int a3), (4, .int a4)], [.int (nI 4), .ref 141, .int (nI 3), .int (nI 820), .int a4], am_D τ)) hF t_s_M_ownerOf_1 rfl rfl ?_
    refine am_iald (n := 1060) (j := 4) d_X12_ownerOf_18 (Nat.le_of_ble_eq_true rfl) (Nat.le_of_ble_eq_true rfl) rfl (by decide) rfl hF ?_
    refine am_seg s_M_ownerOf_2 (y := (21, [(0, .ref 140), (1, .int a1), (2, .int a2), (3, .int a3), (4, .int a4)], [.int ((nI 820) + ((nI 3) * (τ.1 141 4))), .int a4], am_D τ)) hF t_s_M_ownerOf_2 rfl rfl ?_
    refine am_ite h (fun hc h => ?_) (fun hc h => ?_)
    · refine am_icmp_ge_t (t := 85) d_X12_ownerOf_21 (by decide) hc hF ?_
      refine am_seg s_M_ownerOf_3 (y := (86, [(0, .ref 140), (1, .int a1), (2, .int a2), (3, .int a3), (4, .int a4)], [.int a3], am_D τ)) hF t_s_M_ownerOf_3 rfl rfl ?_
      refine am_ite h (fun hc h => ?_) (fun hc h => ?_)
      · refine am_if_ge_t (t := 94) d_X12_ownerOf_86 (by decide) hc hF ?_
        refine am_seg s_M_ownerOf_4 (y := (101, [(0, .ref 140), (1, .int a1), (2, .int a2), (3, .int a3), (4, .int a4)], [.int (a3 + (nI 1)), .ref 141], am_D τ)) hF t_s_M_ownerOf_4 rfl rfl ?_
        refine am_gd h (fun hi h => ?_)
        refine am_iald (n := 1060) (j := ((a3 + (nI 1)).toNatClampNeg)) d_X12_ownerOf_101 (Nat.le_of_ble_eq_true rfl) (Nat.le_of_ble_eq_true rfl) rfl hi rfl hF ?_
        obtain ⟨rfl, rfl⟩ := am_pair h
        exact am_iret d_X12_ownerOf_102 hF hB
      · refine am_if_ge_f (t := 94) d_X12_ownerOf_86 (by decide) hc hF ?_
        refine am_seg s_M_ownerOf_5 (y := (102, [(0, .ref 140), (1, .int a1), (2, .int a2), (3, .int a3), (4, .int a4)], [.int (-3 : Int32)], am_D τ)) hF t_s_M_ownerOf_5 rfl rfl ?_
        obtain ⟨rfl, rfl⟩ := am_pair h
        exact am_iret d_X12_ownerOf_102 hF hB
    · refine am_icmp_ge_f (t := 85) d_X12_ownerOf_21 (by decide) hc hF ?_
      refine am_seg s_M_ownerOf_6 (y := (30, [(0, .ref 140), (1, .int a1), (2, .int a2), (3, .int a3), (4, .int a4)], [.int a4, .ref 141], am_D τ)) hF t_s_M_ownerOf_6 rfl rfl ?_
      refine am_gd h (fun hi h => ?_)
      refine am_iald (n := 1060) (j := (a4.toNatClampNeg)) d_X12_ownerOf_30 (Nat.le_of_ble_eq_true rfl) (Nat.le_of_ble_eq_true rfl) rfl hi rfl hF ?_
      refine am_seg s_M_ownerOf_7 (y := (32, [(0, .ref 140), (1, .int a1), (2, .int a2), (3, .int a3), (4, .int a4)], [.int a1, .int (τ.1 141 (a4.toNatClampNeg))], am_D τ)) hF t_s_M_ownerOf_7 rfl rfl ?_
      refine am_ite h (fun hc h => ?_) (fun hc h => ?_)
      · refine am_icmp_ne_f (t := 77) d_X12_ownerOf_32 (by decide) hc hF ?_
        refine am_seg s_M_ownerOf_9 (y := (43, [(0, .ref 140), (1, .int a1), (2, .int a2), (3, .int a3), (4, .int a4)], [.int (a4 + (nI 2)), .ref 141], am_D τ)) hF t_s_M_ownerOf_9 rfl rfl ?_
        refine am_gd h (fun hi h => ?_)
        refine am_iald (n := 1060) (j := ((a4 + (nI 2)).toNatClampNeg)) d_X12_ownerOf_43 (Nat.le_of_ble_eq_true rfl) (Nat.le_of_ble_eq_true rfl) rfl hi rfl hF ?_
        refine am_seg s_M_ownerOf_10 (y := (45, [(0, .ref 140), (1, .int a1), (2, .int a2), (3, .int a3), (4, .int a4)], [.int a2, .int (τ.1 141 ((a4 + (nI 2)).toNatClampNeg))], am_D τ)) hF t_s_M_ownerOf_10 rfl rfl ?_
        refine am_ite h (fun hc h => ?_) (fun hc h => ?_)
        · refine am_icmp_gt_t (t := 77) d_X12_ownerOf_45 (by decide) hc hF ?_
          refine am_seg s_M_ownerOf_11 (y := (7, [(4, .int (a4 + (nI 3))), (3, .int a3), (0, .ref 140), (1, .int a1), (2, .int a2)], [], am_D τ)) hF t_s_M_ownerOf_11 rfl rfl ?_
          refine am_pick [2, 3, 4, 1, 0] rfl ?_
          exact ih _ _ _ _ _ h
        · refine am_icmp_gt_f (t := 77) d_X12_ownerOf_45 (by decide) hc hF ?_
          refine am_seg s_M_ownerOf_12 (y := (49, [(0, .ref 140), (1, .int a1), (2, .int a2), (3, .int a3), (4, .int a4)], [.int a3], am_D τ)) hF t_s_M_ownerOf_12 rfl rfl ?_
          refine am_ite h (fun hc h => ?_) (fun hc h => ?_)
          · refine am_if_lt_t (t := 72) d_X12_ownerOf_49 (by decide) hc hF ?_
            refine am_seg s_M_ownerOf_13 (y := (7, [(4, .int (a4 + (nI 3))), (3, .int a4), (0, .ref 140), (1, .int a1), (2, .int a2)], [], am_D τ)) hF t_s_M_ownerOf_13 rfl rfl ?_
            refine am_pick [2, 3, 4, 1, 0] rfl ?_
            exact ih _ _ _ _ _ h
          · refine am_if_lt_f (t := 72) d_X12_ownerOf_49 (by decide) hc hF ?_
            refine am_seg s_M_ownerOf_14 (y := (60, [(0, .ref 140), (1, .int a1), (2, .int a2), (3, .int a3), (4, .int a4)], [.int (a4 + (nI 2)), .ref 141], am_D τ)) hF t_s_M_ownerOf_14 rfl rfl ?_
            refine am_gd h (fun hi h => ?_)
            refine am_iald (n := 1060) (j := ((a4 + (nI 2)).toNatClampNeg)) d_X12_ownerOf_60 (Nat.le_of_ble_eq_true rfl) (Nat.le_of_ble_eq_true rfl) rfl hi rfl hF ?_
            refine am_seg s_M_ownerOf_15 (y := (68, [(0, .ref 140), (1, .int a1), (2, .int a2), (3, .int a3), (4, .int a4)], [.int (a3 + (nI 2)), .ref 141, .int (τ.1 141 ((a4 + (nI 2)).toNatClampNeg))], am_D τ)) hF t_s_M_ownerOf_15 rfl rfl ?_
            refine am_gd h (fun hi h => ?_)
            refine am_iald (n := 1060) (j := ((a3 + (nI 2)).toNatClampNeg)) d_X12_ownerOf_68 (Nat.le_of_ble_eq_true rfl) (Nat.le_of_ble_eq_true rfl) rfl hi rfl hF ?_
            refine am_ite h (fun hc h => ?_) (fun hc h => ?_)
            · refine am_icmp_lt_t (t := 77) d_X12_ownerOf_69 (by decide) hc hF ?_
              refine am_seg s_M_ownerOf_16 (y := (7, [(4, .int (a4 + (nI 3))), (3, .int a3), (0, .ref 140), (1, .int a1), (2, .int a2)], [], am_D τ)) hF t_s_M_ownerOf_16 rfl rfl ?_
              refine am_pick [2, 3, 4, 1, 0] rfl ?_
              exact ih _ _ _ _ _ h
            · refine am_icmp_lt_f (t := 77) d_X12_ownerOf_69 (by decide) hc hF ?_
              refine am_seg s_M_ownerOf_17 (y := (7, [(4, .int (a4 + (nI 3))), (3, .int a4), (0, .ref 140), (1, .int a1), (2, .int a2)], [], am_D τ)) hF t_s_M_ownerOf_17 rfl rfl ?_
              refine am_pick [2, 3, 4, 1, 0] rfl ?_
              exact ih _ _ _ _ _ h
      · refine am_icmp_ne_t (t := 77) d_X12_ownerOf_32 (by decide) hc hF ?_
        refine am_seg s_M_ownerOf_8 (y := (7, [(4, .int (a4 + (nI 3))), (3, .int a3), (0, .ref 140), (1, .int a1), (2, .int a2)], [], am_D τ)) hF t_s_M_ownerOf_8 rfl rfl ?_
        refine am_pick [2, 3, 4, 1, 0] rfl ?_
        exact ih _ _ _ _ _ h
def M_ownerOf (τ : am_T) (a1 : Int32) (a2 : Int32) : Option (Int32 × am_T) :=
  M_ownerOf_7 5000 τ a1 a2 (-1 : Int32) (nI 820)
set_option maxRecDepth 20000 in
theorem ok_M_ownerOf {X : am_X} {a1 : Int32} {a2 : Int32} {v : Int32} {τ τ' : am_T} (hF : am_F X "ShareHouseModel" cX12_ownerOf 5) (hR : am_R X 0 0) (hB : am_B X (some .int) (some (.int v)) (am_D τ')) (h : M_ownerOf τ a1 a2 = some (v, τ')) : am_W X 5 (0, [(0, .ref 140), (1, .int a1), (2, .int a2)], [], am_D τ) := by
  unfold M_ownerOf at h
  refine am_seg s_M_ownerOf_0 (y := (7, [(4, .int (nI 820)), (3, .int (-1 : Int32)), (0, .ref 140), (1, .int a1), (2, .int a2)], [], am_D τ)) hF t_s_M_ownerOf_0 rfl rfl ?_
  refine am_pick [2, 3, 4, 1, 0] rfl ?_
  exact ok_M_ownerOf_7 hF hR hB _ _ _ _ _ _ h
theorem c_M_ownerOf {a1 : Int32} {a2 : Int32} {v : Int32} {τ τ' : am_T} (h : M_ownerOf τ a1 a2 = some (v, τ')) : am_C yX12_ownerOf cX12_ownerOf 5 (some .int) 0 0 [.ref 140, .int a1, .int a2] (am_D τ) (some (.int v)) (am_D τ') :=
  am_enter (by decide +kernel) (Nat.le_of_ble_eq_true rfl) ⟨Nat.le_refl _, Nat.le_refl _⟩ (fun X hF hR hB => ok_M_ownerOf hF hR hB h)
def s_M_owner_0 : List am_Q := [(0, .aload_n 0, 0, 0, 0, .null), (1, .iload_n 1, 0, 0, 0, .null)]
theorem t_s_M_owner_0 : s_M_owner_0.all (am_ok 12 cX12_owner) = true := by decide +kernel
theorem d_X12_owner_2 : decode cX12_owner 2 = .ok (.invokevirtual 179, 3) := by decide +kernel
theorem d_X12_owner_5 : decode cX12_owner 5 = .ok (.ifCond .eq 23, 3) := by decide +kernel
def s_M_owner_1 : List am_Q := [(28, .iconst (-1), 0, 0, 0, .int (-1 : Int32))]
theorem t_s_M_owner_1 : s_M_owner_1.all (am_ok 12 cX12_owner) = true := by decide +kernel
theorem d_X12_owner_29 : decode cX12_owner 29 = .ok (.ireturn, 1) := by decide +kernel
def s_M_owner_2 : List am_Q := [(8, .iload_n 2, 0, 0, 0, .null), (9, .iconst 0, 0, 0, 0, .int (nI 0)), (10, .sipush 900, 0, 0, 0, .int (nI 900))]
theorem t_s_M_owner_2 : s_M_owner_2.all (am_ok 12 cX12_owner) = true := by decide +kernel
theorem d_X12_owner_13 : decode cX12_owner 13 = .ok (.invokestatic 51, 3) := by decide +kernel
theorem d_X12_owner_16 : decode cX12_owner 16 = .ok (.ifCond .eq 12, 3) := by decide +kernel
def s_M_owner_3 : List am_Q := [(28, .iconst (-1), 0, 0, 0, .int (-1 : Int32))]
theorem t_s_M_owner_3 : s_M_owner_3.all (am_ok 12 cX12_owner) = true := by decide +kernel
def s_M_owner_4 : List am_Q := [(19, .aload_n 0, 0, 0, 0, .null), (20, .iload_n 1, 0, 0, 0, .null), (21, .iload_n 2, 0, 0, 0, .null)]
theorem t_s_M_owner_4 : s_M_owner_4.all (am_ok 12 cX12_owner) = true := by decide +kernel
theorem d_X12_owner_22 : decode cX12_owner 22 = .ok (.invokevirtual 267, 3) := by decide +kernel
def s_M_owner_5 : List am_Q := [(25, .goto 4, 29, 0, 0, .null)]
theorem t_s_M_owner_5 : s_M_owner_5.all (am_ok 12 cX12_owner) = true := by decide +kernel
def M_owner (τ : am_T) (a1 : Int32) (a2 : Int32) : Option (Int32 × am_T) :=
  (M_isFlat τ a1).bind (fun x1 =>
  if x1.1 = 0 then
  (some ((-1 : Int32), x1.2))
else
  ((M_in x1.2 a2 (nI 0) (nI 900)).bind (fun x2 =>
  if x2.1 = 0 then
  (some ((-1 : Int32), x2.2))
else
  ((M_ownerOf x2.2 a1 a2).bind (fun x3 =>
  some (x3.1, x3.2))))))
set_option maxRecDepth 20000 in
theorem ok_M_owner {X : am_X} {a1 : Int32} {a2 : Int32} {v : Int32} {τ τ' : am_T} (hF : am_F X "ShareHouseModel" cX12_owner 3) (hR : am_R X 2 43) (hB : am_B X (some .int) (some (.int v)) (am_D τ')) (h : M_owner τ a1 a2 = some (v, τ')) : am_W X 3 (0, [(0, .ref 140), (1, .int a1), (2, .int a2)], [], am_D τ) := by
  unfold M_owner at h
  refine am_seg s_M_owner_0 (y := (2, [(0, .ref 140), (1, .int a1), (2, .int a2)], [.int a1, .ref 140], am_D τ)) hF t_s_M_owner_0 rfl rfl ?_
  refine am_bd h (fun x1 hx h => ?_)
  refine am_callV (As := [.int a1]) (r := (some (.int x1.1))) (st := []) (σ' := am_D x1.2) (ci := 12) hF hR d_X12_owner_2 (c_M_isFlat (τ' := x1.2) hx) (Nat.le_refl _) (Nat.le_refl _) wl_M_179 wi_yX12_isFlat we_yX12_isFlat wn_ShareHouseModel wc_yX12_isFlat (Nat.le_of_ble_eq_true rfl) (Nat.le_of_ble_eq_true rfl) rfl rfl wy_yX12_isFlat rfl ⟨by decide, by decide⟩ (Nat.le_of_ble_eq_true rfl) ?_
  refine am_ite h (fun hc h => ?_) (fun hc h => ?_)
  · refine am_if_eq_t (t := 28) d_X12_owner_5 (by decide) hc hF ?_
    refine am_seg s_M_owner_1 (y := (29, [(0, .ref 140), (1, .int a1), (2, .int a2)], [.int (-1 : Int32)], am_D x1.2)) hF t_s_M_owner_1 rfl rfl ?_
    obtain ⟨rfl, rfl⟩ := am_pair h
    exact am_iret d_X12_owner_29 hF hB
  · refine am_if_eq_f (t := 28) d_X12_owner_5 (by decide) hc hF ?_
    refine am_seg s_M_owner_2 (y := (13, [(0, .ref 140), (1, .int a1), (2, .int a2)], [.int (nI 900), .int (nI 0), .int a2], am_D x1.2)) hF t_s_M_owner_2 rfl rfl ?_
    refine am_bd h (fun x2 hx h => ?_)
    refine am_callS (As := [.int a2, .int (nI 0), .int (nI 900)]) (r := (some (.int x2.1))) (st := []) (σ' := am_D x2.2) hF hR d_X12_owner_13 (c_M_in (τ' := x2.2) hx) (Nat.le_refl _) (Nat.le_refl _) wl_M_51 ws_yX12_in wn_ShareHouseModel wc_yX12_in wy_yX12_in rfl ⟨by decide, by decide⟩ (Nat.le_of_ble_eq_true rfl) ?_
    refine am_ite h (fun hc h => ?_) (fun hc h => ?_)
    · refine am_if_eq_t (t := 28) d_X12_owner_16 (by decide) hc hF ?_
      refine am_seg s_M_owner_3 (y := (29, [(0, .ref 140), (1, .int a1), (2, .int a2)], [.int (-1 : Int32)], am_D x2.2)) hF t_s_M_owner_3 rfl rfl ?_
      obtain ⟨rfl, rfl⟩ := am_pair h
      exact am_iret d_X12_owner_29 hF hB
    · refine am_if_eq_f (t := 28) d_X12_owner_16 (by decide) hc hF ?_
      refine am_seg s_M_owner_4 (y := (22, [(0, .ref 140), (1, .int a1), (2, .int a2)], [.int a2, .int a1, .ref 140], am_D x2.2)) hF t_s_M_owner_4 rfl rfl ?_
      refine am_bd h (fun x3 hx h => ?_)
      refine am_callV (As := [.int a1, .int a2]) (r := (some (.int x3.1))) (st := []) (σ' := am_D x3.2) (ci := 12) hF hR d_X12_owner_22 (c_M_ownerOf (τ' := x3.2) hx) (Nat.le_refl _) (Nat.le_refl _) wl_M_267 wi_yX12_ownerOf we_yX12_ownerOf wn_ShareHouseModel wc_yX12_ownerOf (Nat.le_of_ble_eq_true rfl) (Nat.le_of_ble_eq_true rfl) rfl rfl wy_yX12_ownerOf rfl ⟨by decide, by decide⟩ (Nat.le_of_ble_eq_true rfl) ?_
      refine am_seg s_M_owner_5 (y := (29, [(0, .ref 140), (1, .int a1), (2, .int a2)], [.int x3.1], am_D x3.2)) hF t_s_M_owner_5 rfl rfl ?_
      obtain ⟨rfl, rfl⟩ := am_pair h
      exact am_iret d_X12_owner_29 hF hB
theorem c_M_owner {a1 : Int32} {a2 : Int32} {v : Int32} {τ τ' : am_T} (h : M_owner τ a1 a2 = some (v, τ')) : am_C yX12_owner cX12_owner 3 (some .int) 2 43 [.ref 140, .int a1, .int a2] (am_D τ) (some (.int v)) (am_D τ') :=
  am_enter (by decide +kernel) (Nat.le_of_ble_eq_true rfl) ⟨Nat.le_refl _, Nat.le_refl _⟩ (fun X hF hR hB => ok_M_owner hF hR hB h)
def s_M_pay_0 : List am_Q := [(0, .iload_n 1, 0, 0, 0, .null)]
theorem t_s_M_pay_0 : s_M_pay_0.all (am_ok 12 cX12_pay) = true := by decide +kernel
theorem d_X12_pay_1 : decode cX12_pay 1 = .ok (.invokestatic 264, 3) := by decide +kernel
theorem d_X12_pay_4 : decode cX12_pay 4 = .ok (.ifCond .eq 13, 3) := by decide +kernel
def s_M_pay_1 : List am_Q := [(17, .iconst (-1), 0, 0, 0, .int (-1 : Int32))]
theorem t_s_M_pay_1 : s_M_pay_1.all (am_ok 12 cX12_pay) = true := by decide +kernel
theorem d_X12_pay_18 : decode cX12_pay 18 = .ok (.ireturn, 1) := by decide +kernel
def s_M_pay_2 : List am_Q := [(7, .iload_n 2, 0, 0, 0, .null), (8, .iconst 1, 0, 0, 0, .int (nI 1)), (9, .ldc 222, 0, 0, 30, .int (nI 99999))]
theorem t_s_M_pay_2 : s_M_pay_2.all (am_ok 12 cX12_pay) = true := by decide +kernel
theorem d_X12_pay_11 : decode cX12_pay 11 = .ok (.invokestatic 51, 3) := by decide +kernel
theorem d_X12_pay_14 : decode cX12_pay 14 = .ok (.ifCond .ne 5, 3) := by decide +kernel
def s_M_pay_3 : List am_Q := [(19, .aload_n 0, 0, 0, 0, .null), (20, .getfield 7, 12, 0, 152, .null), (23, .iconst 5, 0, 0, 0, .int (nI 5))]
theorem t_s_M_pay_3 : s_M_pay_3.all (am_ok 12 cX12_pay) = true := by decide +kernel
theorem d_X12_pay_24 : decode cX12_pay 24 = .ok (.iaload, 1) := by decide +kernel
def s_M_pay_4 : List am_Q := [(25, .bipush 20, 0, 0, 0, .int (nI 20))]
theorem t_s_M_pay_4 : s_M_pay_4.all (am_ok 12 cX12_pay) = true := by decide +kernel
theorem d_X12_pay_27 : decode cX12_pay 27 = .ok (.if_icmp .ne 6, 3) := by decide +kernel
def s_M_pay_5 : List am_Q := [(33, .sipush 880, 0, 0, 0, .int (nI 880)), (36, .iconst 3, 0, 0, 0, .int (nI 3)), (37, .aload_n 0, 0, 0, 0, .null), (38, .getfield 7, 12, 0, 152, .null), (41, .iconst 5, 0, 0, 0, .int (nI 5))]
theorem t_s_M_pay_5 : s_M_pay_5.all (am_ok 12 cX12_pay) = true := by decide +kernel
theorem d_X12_pay_42 : decode cX12_pay 42 = .ok (.iaload, 1) := by decide +kernel
def s_M_pay_6 : List am_Q := [(43, .imul, 0, 0, 0, .null), (44, .iadd, 0, 0, 0, .null), (45, .istore_n 3, 0, 0, 0, .null), (46, .aload_n 0, 0, 0, 0, .null), (47, .getfield 7, 12, 0, 152, .null), (50, .iload_n 3, 0, 0, 0, .null), (51, .iload_n 1, 0, 0, 0, .null)]
theorem t_s_M_pay_6 : s_M_pay_6.all (am_ok 12 cX12_pay) = true := by decide +kernel
theorem d_X12_pay_52 : decode cX12_pay 52 = .ok (.iastore, 1) := by decide +kernel
def s_M_pay_7 : List am_Q := [(53, .aload_n 0, 0, 0, 0, .null), (54, .getfield 7, 12, 0, 152, .null), (57, .iload_n 3, 0, 0, 0, .null), (58, .iconst 1, 0, 0, 0, .int (nI 1)), (59, .iadd, 0, 0, 0, .null), (60, .iload_n 2, 0, 0, 0, .null)]
theorem t_s_M_pay_7 : s_M_pay_7.all (am_ok 12 cX12_pay) = true := by decide +kernel
theorem d_X12_pay_61 : decode cX12_pay 61 = .ok (.iastore, 1) := by decide +kernel
def s_M_pay_8 : List am_Q := [(62, .aload_n 0, 0, 0, 0, .null), (63, .getfield 7, 12, 0, 152, .null), (66, .iload_n 3, 0, 0, 0, .null), (67, .iconst 2, 0, 0, 0, .int (nI 2)), (68, .iadd, 0, 0, 0, .null), (69, .aload_n 0, 0, 0, 0, .null), (70, .getfield 7, 12, 0, 152, .null), (73, .iconst 0, 0, 0, 0, .int (nI 0))]
theorem t_s_M_pay_8 : s_M_pay_8.all (am_ok 12 cX12_pay) = true := by decide +kernel
theorem d_X12_pay_74 : decode cX12_pay 74 = .ok (.iaload, 1) := by decide +kernel
theorem d_X12_pay_75 : decode cX12_pay 75 = .ok (.iastore, 1) := by decide +kernel
def s_M_pay_9 : List am_Q := [(76, .aload_n 0, 0, 0, 0, .null), (77, .getfield 7, 12, 0, 152, .null), (80, .iconst 5, 0, 0, 0, .int (nI 5)), (81, .dup2, 0, 0, 0, .null)]
theorem t_s_M_pay_9 : s_M_pay_9.all (am_ok 12 cX12_pay) = true := by decide +kernel
theorem d_X12_pay_82 : decode cX12_pay 82 = .ok (.iaload, 1) := by decide +kernel
def s_M_pay_10 : List am_Q := [(83, .iconst 1, 0, 0, 0, .int (nI 1)), (84, .iadd, 0, 0, 0, .null)]
theorem t_s_M_pay_10 : s_M_pay_10.all (am_ok 12 cX12_pay) = true := by decide +kernel
theorem d_X12_pay_85 : decode cX12_pay 85 = .ok (.iastore, 1) := by decide +kernel
def s_M_pay_11 : List am_Q := [(86, .aload_n 0, 0, 0, 0, .null), (87, .getfield 7, 12, 0, 152, .null), (90, .iconst 5, 0, 0, 0, .int (nI 5))]
theorem t_s_M_pay_11 : s_M_pay_11.all (am_ok 12 cX12_pay) = true := by decide +kernel
theorem d_X12_pay_91 : decode cX12_pay 91 = .ok (.iaload, 1) := by decide +kernel
theorem d_X12_pay_92 : decode cX12_pay 92 = .ok (.ireturn, 1) := by decide +kernel
def s_M_pay_12 : List am_Q := [(30, .bipush (-2), 0, 0, 0, .int (-2 : Int32))]
theorem t_s_M_pay_12 : s_M_pay_12.all (am_ok 12 cX12_pay) = true := by decide +kernel
theorem d_X12_pay_32 : decode cX12_pay 32 = .ok (.ireturn, 1) := by decide +kernel
def s_M_pay_13 : List am_Q := [(17, .iconst (-1), 0, 0, 0, .int (-1 : Int32))]
theorem t_s_M_pay_13 : s_M_pay_13.all (am_ok 12 cX12_pay) = true := by decide +kernel
def M_pay (τ : am_T) (a1 : Int32) (a2 : Int32) : Option (Int32 × am_T) :=
  (M_isOwner τ a1).bind (fun x1 =>
  if x1.1 = 0 then
  (some ((-1 : Int32), x1.2))
else
  ((M_in x1.2 a2 (nI 1) (nI 99999)).bind (fun x2 =>
  if x2.1 = 0 then
  (some ((-1 : Int32), x2.2))
else
  (if (x2.2.1 141 5) = (nI 20) then
  (some ((-2 : Int32), x2.2))
else
  (am_g (am_in ((nI 880) + ((nI 3) * (x2.2.1 141 5))) 1060) (am_g (am_in (((nI 880) + ((nI 3) * (x2.2.1 141 5))) + (nI 1)) 1060) (am_g (am_in (((nI 880) + ((nI 3) * (x2.2.1 141 5))) + (nI 2)) 1060) (some (((am_si (am_si (am_si (am_si x2.2 141 (((nI 880) + ((nI 3) * (x2.2.1 141 5))).toNatClampNeg) a1) 141 ((((nI 880) + ((nI 3) * (x2.2.1 141 5))) + (nI 1)).toNatClampNeg) a2) 141 ((((nI 880) + ((nI 3) * (x2.2.1 141 5))) + (nI 2)).toNatClampNeg) ((am_si (am_si x2.2 141 (((nI 880) + ((nI 3) * (x2.2.1 141 5))).toNatClampNeg) a1) 141 ((((nI 880) + ((nI 3) * (x2.2.1 141 5))) + (nI 1)).toNatClampNeg) a2).1 141 0)) 141 5 (((am_si (am_si (am_si x2.2 141 (((nI 880) + ((nI 3) * (x2.2.1 141 5))).toNatClampNeg) a1) 141 ((((nI 880) + ((nI 3) * (x2.2.1 141 5))) + (nI 1)).toNatClampNeg) a2) 141 ((((nI 880) + ((nI 3) * (x2.2.1 141 5))) + (nI 2)).toNatClampNeg) ((am_si (am_si x2.2 141 (((nI 880) + ((nI 3) * (x2.2.1 141 5))).toNatClampNeg) a1) 141 ((((nI 880) + ((nI 3) * (x2.2.1 141 5))) + (nI 1)).toNatClampNeg) a2).1 141 0)).1 141 5) + (nI 1))).1 141 5), (am_si (am_si (am_si (am_si x2.2 141 (((nI 880) + ((nI 3) * (x2.2.1 141 5))).toNatClampNeg) a1) 141 ((((nI 880) + ((nI 3) * (x2.2.1 141 5))) + (nI 1)).toNatClampNeg) a2) 141 ((((nI 880) + ((nI 3) * (x2.2.1 141 5))) + (nI 2)).toNatClampNeg) ((am_si (am_si x2.2 141 (((nI 880) + ((nI 3) * (x2.2.1 141 5))).toNatClampNeg) a1) 141 ((((nI 880) + ((nI 3) * (x2.2.1 141 5))) + (nI 1)).toNatClampNeg) a2).1 141 0)) 141 5 (((am_si (am_si (am_si x2.2 141 (((nI 880) + ((nI 3) * (x2.2.1 141 5))).toNatClampNeg) a1) 141 ((((nI 880) + ((nI 3) * (x2.2.1 141 5))) + (nI 1)).toNatClampNeg) a2) 141 ((((nI 880) + ((nI 3) * (x2.2.1 141 5))) + (nI 2)).toNatClampNeg) ((am_si (am_si x2.2 141 (((nI 880) + ((nI 3) * (x2.2.1 141 5))).toNatClampNeg) a1) 141 ((((nI 880) + ((nI 3) * (x2.2.1 141 5))) + (nI 1)).toNatClampNeg) a2).1 141 0)).1 141 5) + (nI 1))))))))))))
set_option maxRecDepth 20000 in
theorem ok_M_pay {X : am_X} {a1 : Int32} {a2 : Int32} {v : Int32} {τ τ' : am_T} (hF : am_F X "ShareHouseModel" cX12_pay 4) (hR : am_R X 2 42) (hB : am_B X (some .int) (some (.int v)) (am_D τ')) (h : M_pay τ a1 a2 = some (v, τ')) : am_W X 4 (0, [(0, .ref 140), (1, .int a1), (2, .int a2)], [], am_D τ) := by
  unfold M_pay at h
  refine am_seg s_M_pay_0 (y := (1, [(0, .ref 140), (1, .int a1), (2, .int a2)], [.int a1], am_D τ)) hF t_s_M_pay_0 rfl rfl ?_
  refine am_bd h (fun x1 hx h => ?_)
  refine am_callS (As := [.int a1]) (r := (some (.int x1.1))) (st := []) (σ' := am_D x1.2) hF hR d_X12_pay_1 (c_M_isOwner (τ' := x1.2) hx) (Nat.le_refl _) (Nat.le_refl _) wl_M_264 ws_yX12_isOwner wn_ShareHouseModel wc_yX12_isOwner wy_yX12_isOwner rfl ⟨by decide, by decide⟩ (Nat.le_of_ble_eq_true rfl) ?_
  refine am_ite h (fun hc h => ?_) (fun hc h => ?_)
  · refine am_if_eq_t (t := 17) d_X12_pay_4 (by decide) hc hF ?_
    refine am_seg s_M_pay_1 (y := (18, [(0, .ref 140), (1, .int a1), (2, .int a2)], [.int (-1 : Int32)], am_D x1.2)) hF t_s_M_pay_1 rfl rfl ?_
    obtain ⟨rfl, rfl⟩ := am_pair h
    exact am_iret d_X12_pay_18 hF hB
  · refine am_if_eq_f (t := 17) d_X12_pay_4 (by decide) hc hF ?_
    refine am_seg s_M_pay_2 (y := (11, [(0, .ref 140), (1, .int a1), (2, .int a2)], [.int (nI 99999), .int (nI 1), .int a2], am_D x1.2)) hF t_s_M_pay_2 rfl rfl ?_
    refine am_bd h (fun x2 hx h => ?_)
    refine am_callS (As := [.int a2, .int (nI 1), .int (nI 99999)]) (r := (some (.int x2.1))) (st := []) (σ' := am_D x2.2) hF hR d_X12_pay_11 (c_M_in (τ' := x2.2) hx) (Nat.le_refl _) (Nat.le_refl _) wl_M_51 ws_yX12_in wn_ShareHouseModel wc_yX12_in wy_yX12_in rfl ⟨by decide, by decide⟩ (Nat.le_of_ble_eq_true rfl) ?_
    refine am_ite h (fun hc h => ?_) (fun hc h => ?_)
    · refine am_if_ne_f (t := 19) d_X12_pay_14 (by decide) hc hF ?_
      refine am_seg s_M_pay_13 (y := (18, [(0, .ref 140), (1, .int a1), (2, .int a2)], [.int (-1 : Int32)], am_D x2.2)) hF t_s_M_pay_13 rfl rfl ?_
      obtain ⟨rfl, rfl⟩ := am_pair h
      exact am_iret d_X12_pay_18 hF hB
    · refine am_if_ne_t (t := 19) d_X12_pay_14 (by decide) hc hF ?_
      refine am_seg s_M_pay_3 (y := (24, [(0, .ref 140), (1, .int a1), (2, .int a2)], [.int (nI 5), .ref 141], am_D x2.2)) hF t_s_M_pay_3 rfl rfl ?_
      refine am_iald (n := 1060) (j := 5) d_X12_pay_24 (Nat.le_of_ble_eq_true rfl) (Nat.le_of_ble_eq_true rfl) rfl (by decide) rfl hF ?_
      refine am_seg s_M_pay_4 (y := (27, [(0, .ref 140), (1, .int a1), (2, .int a2)], [.int (nI 20), .int (x2.2.1 141 5)], am_D x2.2)) hF t_s_M_pay_4 rfl rfl ?_
      refine am_ite h (fun hc h => ?_) (fun hc h => ?_)
      · refine am_icmp_ne_f (t := 33) d_X12_pay_27 (by decide) hc hF ?_
        refine am_seg s_M_pay_12 (y := (32, [(0, .ref 140), (1, .int a1), (2, .int a2)], [.int (-2 : Int32)], am_D x2.2)) hF t_s_M_pay_12 rfl rfl ?_
        obtain ⟨rfl, rfl⟩ := am_pair h
        exact am_iret d_X12_pay_32 hF hB
      · refine am_icmp_ne_t (t := 33) d_X12_pay_27 (by decide) hc hF ?_
        refine am_seg s_M_pay_5 (y := (42, [(0, .ref 140), (1, .int a1), (2, .int a2)], [.int (nI 5), .ref 141, .int (nI 3), .int (nI 880)], am_D x2.2)) hF t_s_M_pay_5 rfl rfl ?_
        refine am_iald (n := 1060) (j := 5) d_X12_pay_42 (Nat.le_of_ble_eq_true rfl) (Nat.le_of_ble_eq_true rfl) rfl (by decide) rfl hF ?_
        refine am_seg s_M_pay_6 (y := (52, [(3, .int ((nI 880) + ((nI 3) * (x2.2.1 141 5)))), (0, .ref 140), (1, .int a1), (2, .int a2)], [.int a1, .int ((nI 880) + ((nI 3) * (x2.2.1 141 5))), .ref 141], am_D x2.2)) hF t_s_M_pay_6 rfl rfl ?_
        refine am_gd h (fun hi h => ?_)
        refine am_iast (n := 1060) (j := (((nI 880) + ((nI 3) * (x2.2.1 141 5))).toNatClampNeg)) d_X12_pay_52 (Nat.le_of_ble_eq_true rfl) (Nat.le_of_ble_eq_true rfl) rfl hi rfl hF ?_
        refine am_seg s_M_pay_7 (y := (61, [(3, .int ((nI 880) + ((nI 3) * (x2.2.1 141 5)))), (0, .ref 140), (1, .int a1), (2, .int a2)], [.int a2, .int (((nI 880) + ((nI 3) * (x2.2.1 141 5))) + (nI 1)), .ref 141], am_D (am_si x2.2 141 (((nI 880) + ((nI 3) * (x2.2.1 141 5))).toNatClampNeg) a1))) hF t_s_M_pay_7 rfl rfl ?_
        refine am_gd h (fun hi h => ?_)
        refine am_iast (n := 1060) (j := ((((nI 880) + ((nI 3) * (x2.2.1 141 5))) + (nI 1)).toNatClampNeg)) d_X12_pay_61 (Nat.le_of_ble_eq_true rfl) (Nat.le_of_ble_eq_true rfl) rfl hi rfl hF ?_
        refine am_seg s_M_pay_8 (y := (74, [(3, .int ((nI 880) + ((nI 3) * (x2.2.1 141 5)))), (0, .ref 140), (1, .int a1), (2, .int a2)], [.int (nI 0), .ref 141, .int (((nI 880) + ((nI 3) * (x2.2.1 141 5))) + (nI 2)), .ref 141], am_D (am_si (am_si x2.2 141 (((nI 880) + ((nI 3) * (x2.2.1 141 5))).toNatClampNeg) a1) 141 ((((nI 880) + ((nI 3) * (x2.2.1 141 5))) + (nI 1)).toNatClampNeg) a2))) hF t_s_M_pay_8 rfl rfl ?_
        refine am_iald (n := 1060) (j := 0) d_X12_pay_74 (Nat.le_of_ble_eq_true rfl) (Nat.le_of_ble_eq_true rfl) rfl (by decide) rfl hF ?_
        refine am_gd h (fun hi h => ?_)
        refine am_iast (n := 1060) (j := ((((nI 880) + ((nI 3) * (x2.2.1 141 5))) + (nI 2)).toNatClampNeg)) d_X12_pay_75 (Nat.le_of_ble_eq_true rfl) (Nat.le_of_ble_eq_true rfl) rfl hi rfl hF ?_
        refine am_seg s_M_pay_9 (y := (82, [(3, .int ((nI 880) + ((nI 3) * (x2.2.1 141 5)))), (0, .ref 140), (1, .int a1), (2, .int a2)], [.int (nI 5), .ref 141, .int (nI 5), .ref 141], am_D (am_si (am_si (am_si x2.2 141 (((nI 880) + ((nI 3) * (x2.2.1 141 5))).toNatClampNeg) a1) 141 ((((nI 880) + ((nI 3) * (x2.2.1 141 5))) + (nI 1)).toNatClampNeg) a2) 141 ((((nI 880) + ((nI 3) * (x2.2.1 141 5))) + (nI 2)).toNatClampNeg) ((am_si (am_si x2.2 141 (((nI 880) + ((nI 3) * (x2.2.1 141 5))).toNatClampNeg) a1) 141 ((((nI 880) + ((nI 3) * (x2.2.1 141 5))) + (nI 1)).toNatClampNeg) a2).1 141 0)))) hF t_s_M_pay_9 rfl rfl ?_
        refine am_iald (n := 1060) (j := 5) d_X12_pay_82 (Nat.le_of_ble_eq_true rfl) (Nat.le_of_ble_eq_true rfl) rfl (by decide) rfl hF ?_
        refine am_seg s_M_pay_10 (y := (85, [(3, .int ((nI 880) + ((nI 3) * (x2.2.1 141 5)))), (0, .ref 140), (1, .int a1), (2, .int a2)], [.int (((am_si (am_si (am_si x2.2 141 (((nI 880) + ((nI 3) * (x2.2.1 141 5))).toNatClampNeg) a1) 141 ((((nI 880) + ((nI 3) * (x2.2.1 141 5))) + (nI 1)).toNatClampNeg) a2) 141 ((((nI 880) + ((nI 3) * (x2.2.1 141 5))) + (nI 2)).toNatClampNeg) ((am_si (am_si x2.2 141 (((nI 880) + ((nI 3) * (x2.2.1 141 5))).toNatClampNeg) a1) 141 ((((nI 880) + ((nI 3) * (x2.2.1 141 5))) + (nI 1)).toNatClampNeg) a2).1 141 0)).1 141 5) + (nI 1)), .int (nI 5), .ref 141], am_D (am_si (am_si (am_si x2.2 141 (((nI 880) + ((nI 3) * (x2.2.1 141 5))).toNatClampNeg) a1) 141 ((((nI 880) + ((nI 3) * (x2.2.1 141 5))) + (nI 1)).toNatClampNeg) a2) 141 ((((nI 880) + ((nI 3) * (x2.2.1 141 5))) + (nI 2)).toNatClampNeg) ((am_si (am_si x2.2 141 (((nI 880) + ((nI 3) * (x2.2.1 141 5))).toNatClampNeg) a1) 141 ((((nI 880) + ((nI 3) * (x2.2.1 141 5))) + (nI 1)).toNatClampNeg) a2).1 141 0)))) hF t_s_M_pay_10 rfl rfl ?_
        refine am_iast (n := 1060) (j := 5) d_X12_pay_85 (Nat.le_of_ble_eq_true rfl) (Nat.le_of_ble_eq_true rfl) rfl (by decide) rfl hF ?_
        refine am_seg s_M_pay_11 (y := (91, [(3, .int ((nI 880) + ((nI 3) * (x2.2.1 141 5)))), (0, .ref 140), (1, .int a1), (2, .int a2)], [.int (nI 5), .ref 141], am_D (am_si (am_si (am_si (am_si x2.2 141 (((nI 880) + ((nI 3) * (x2.2.1 141 5))).toNatClampNeg) a1) 141 ((((nI 880) + ((nI 3) * (x2.2.1 141 5))) + (nI 1)).toNatClampNeg) a2) 141 ((((nI 880) + ((nI 3) * (x2.2.1 141 5))) + (nI 2)).toNatClampNeg) ((am_si (am_si x2.2 141 (((nI 880) + ((nI 3) * (x2.2.1 141 5))).toNatClampNeg) a1) 141 ((((nI 880) + ((nI 3) * (x2.2.1 141 5))) + (nI 1)).toNatClampNeg) a2).1 141 0)) 141 5 (((am_si (am_si (am_si x2.2 141 (((nI 880) + ((nI 3) * (x2.2.1 141 5))).toNatClampNeg) a1) 141 ((((nI 880) + ((nI 3) * (x2.2.1 141 5))) + (nI 1)).toNatClampNeg) a2) 141 ((((nI 880) + ((nI 3) * (x2.2.1 141 5))) + (nI 2)).toNatClampNeg) ((am_si (am_si x2.2 141 (((nI 880) + ((nI 3) * (x2.2.1 141 5))).toNatClampNeg) a1) 141 ((((nI 880) + ((nI 3) * (x2.2.1 141 5))) + (nI 1)).toNatClampNeg) a2).1 141 0)).1 141 5) + (nI 1))))) hF t_s_M_pay_11 rfl rfl ?_
        refine am_iald (n := 1060) (j := 5) d_X12_pay_91 (Nat.le_of_ble_eq_true rfl) (Nat.le_of_ble_eq_true rfl) rfl (by decide) rfl hF ?_
        obtain ⟨rfl, rfl⟩ := am_pair h
        exact am_iret d_X12_pay_92 hF hB
theorem c_M_pay {a1 : Int32} {a2 : Int32} {v : Int32} {τ τ' : am_T} (h : M_pay τ a1 a2 = some (v, τ')) : am_C yX12_pay cX12_pay 4 (some .int) 2 42 [.ref 140, .int a1, .int a2] (am_D τ) (some (.int v)) (am_D τ') :=
  am_enter (by decide +kernel) (Nat.le_of_ble_eq_true rfl) ⟨Nat.le_refl _, Nat.le_refl _⟩ (fun X hF hR hB => ok_M_pay hF hR hB h)
def s_M_findBill_0 : List am_Q := [(0, .iconst 0, 0, 0, 0, .int (nI 0)), (1, .istore_n 3, 0, 0, 0, .null), (2, .iconst 0, 0, 0, 0, .int (nI 0)), (3, .istore 4, 0, 0, 0, .null)]
theorem t_s_M_findBill_0 : s_M_findBill_0.all (am_ok 12 cX12_findBill) = true := by decide +kernel
def s_M_findBill_1 : List am_Q := [(5, .iload 4, 0, 0, 0, .null), (7, .aload_n 0, 0, 0, 0, .null), (8, .getfield 7, 12, 0, 152, .null), (11, .iconst 2, 0, 0, 0, .int (nI 2))]
theorem t_s_M_findBill_1 : s_M_findBill_1.all (am_ok 12 cX12_findBill) = true := by decide +kernel
theorem d_X12_findBill_12 : decode cX12_findBill 12 = .ok (.iaload, 1) := by decide +kernel
theorem d_X12_findBill_13 : decode cX12_findBill 13 = .ok (.if_icmp .ge 106, 3) := by decide +kernel
def s_M_findBill_2 : List am_Q := [(119, .iload_n 3, 0, 0, 0, .null)]
theorem t_s_M_findBill_2 : s_M_findBill_2.all (am_ok 12 cX12_findBill) = true := by decide +kernel
theorem d_X12_findBill_120 : decode cX12_findBill 120 = .ok (.ireturn, 1) := by decide +kernel
def s_M_findBill_3 : List am_Q := [(16, .aload_n 0, 0, 0, 0, .null), (17, .getfield 32, 12, 23, 175, .null), (20, .iload 4, 0, 0, 0, .null), (22, .iconst 0, 0, 0, 0, .int (nI 0))]
theorem t_s_M_findBill_3 : s_M_findBill_3.all (am_ok 12 cX12_findBill) = true := by decide +kernel
theorem d_X12_findBill_23 : decode cX12_findBill 23 = .ok (.iastore, 1) := by decide +kernel
def s_M_findBill_4 : List am_Q := [(24, .aload_n 0, 0, 0, 0, .null), (25, .iload 4, 0, 0, 0, .null), (27, .iconst 3, 0, 0, 0, .int (nI 3))]
theorem t_s_M_findBill_4 : s_M_findBill_4.all (am_ok 12 cX12_findBill) = true := by decide +kernel
theorem d_X12_findBill_28 : decode cX12_findBill 28 = .ok (.invokevirtual 233, 3) := by decide +kernel
def s_M_findBill_5 : List am_Q := [(31, .iload_n 2, 0, 0, 0, .null)]
theorem t_s_M_findBill_5 : s_M_findBill_5.all (am_ok 12 cX12_findBill) = true := by decide +kernel
theorem d_X12_findBill_32 : decode cX12_findBill 32 = .ok (.if_icmp .le 6, 3) := by decide +kernel
def s_M_findBill_6 : List am_Q := [(38, .aload_n 0, 0, 0, 0, .null), (39, .iload 4, 0, 0, 0, .null), (41, .iload_n 2, 0, 0, 0, .null)]
theorem t_s_M_findBill_6 : s_M_findBill_6.all (am_ok 12 cX12_findBill) = true := by decide +kernel
theorem d_X12_findBill_42 : decode cX12_findBill 42 = .ok (.invokevirtual 260, 3) := by decide +kernel
def s_M_findBill_7 : List am_Q := [(45, .iconst 0, 0, 0, 0, .int (nI 0)), (46, .istore 5, 0, 0, 0, .null)]
theorem t_s_M_findBill_7 : s_M_findBill_7.all (am_ok 12 cX12_findBill) = true := by decide +kernel
def s_M_findBill_8 : List am_Q := [(48, .iload 5, 0, 0, 0, .null), (50, .aload_n 0, 0, 0, 0, .null), (51, .getfield 7, 12, 0, 152, .null), (54, .iconst 1, 0, 0, 0, .int (nI 1))]
theorem t_s_M_findBill_8 : s_M_findBill_8.all (am_ok 12 cX12_findBill) = true := by decide +kernel
theorem d_X12_findBill_55 : decode cX12_findBill 55 = .ok (.iaload, 1) := by decide +kernel
theorem d_X12_findBill_56 : decode cX12_findBill 56 = .ok (.if_icmp .ge 47, 3) := by decide +kernel
def s_M_findBill_9 : List am_Q := [(103, .iload_n 3, 0, 0, 0, .null), (104, .aload_n 0, 0, 0, 0, .null), (105, .getfield 32, 12, 23, 175, .null), (108, .iload 4, 0, 0, 0, .null)]
theorem t_s_M_findBill_9 : s_M_findBill_9.all (am_ok 12 cX12_findBill) = true := by decide +kernel
theorem d_X12_findBill_110 : decode cX12_findBill 110 = .ok (.iaload, 1) := by decide +kernel
def s_M_findBill_10 : List am_Q := [(111, .iadd, 0, 0, 0, .null), (112, .istore_n 3, 0, 0, 0, .null), (113, .iinc 4 1, 0, 0, 0, .int (nI 1)), (116, .goto (-111), 5, 0, 0, .null)]
theorem t_s_M_findBill_10 : s_M_findBill_10.all (am_ok 12 cX12_findBill) = true := by decide +kernel
def s_M_findBill_11 : List am_Q := [(59, .aload_n 0, 0, 0, 0, .null), (60, .getfield 32, 12, 23, 175, .null), (63, .iload 4, 0, 0, 0, .null), (65, .dup2, 0, 0, 0, .null)]
theorem t_s_M_findBill_11 : s_M_findBill_11.all (am_ok 12 cX12_findBill) = true := by decide +kernel
theorem d_X12_findBill_66 : decode cX12_findBill 66 = .ok (.iaload, 1) := by decide +kernel
def s_M_findBill_12 : List am_Q := [(67, .aload_n 0, 0, 0, 0, .null), (68, .iload 5, 0, 0, 0, .null), (70, .aload_n 0, 0, 0, 0, .null), (71, .iload 4, 0, 0, 0, .null), (73, .iconst 1, 0, 0, 0, .int (nI 1))]
theorem t_s_M_findBill_12 : s_M_findBill_12.all (am_ok 12 cX12_findBill) = true := by decide +kernel
theorem d_X12_findBill_74 : decode cX12_findBill 74 = .ok (.invokevirtual 233, 3) := by decide +kernel
theorem d_X12_findBill_77 : decode cX12_findBill 77 = .ok (.invokevirtual 267, 3) := by decide +kernel
def s_M_findBill_13 : List am_Q := [(80, .iload_n 1, 0, 0, 0, .null)]
theorem t_s_M_findBill_13 : s_M_findBill_13.all (am_ok 12 cX12_findBill) = true := by decide +kernel
theorem d_X12_findBill_81 : decode cX12_findBill 81 = .ok (.if_icmp .ne 13, 3) := by decide +kernel
def s_M_findBill_14 : List am_Q := [(94, .iconst 0, 0, 0, 0, .int (nI 0)), (95, .iadd, 0, 0, 0, .null)]
theorem t_s_M_findBill_14 : s_M_findBill_14.all (am_ok 12 cX12_findBill) = true := by decide +kernel
theorem d_X12_findBill_96 : decode cX12_findBill 96 = .ok (.iastore, 1) := by decide +kernel
def s_M_findBill_15 : List am_Q := [(97, .iinc 5 1, 0, 0, 0, .int (nI 1)), (100, .goto (-52), 48, 0, 0, .null)]
theorem t_s_M_findBill_15 : s_M_findBill_15.all (am_ok 12 cX12_findBill) = true := by decide +kernel
def s_M_findBill_16 : List am_Q := [(84, .aload_n 0, 0, 0, 0, .null), (85, .getfield 26, 12, 20, 172, .null), (88, .iload 5, 0, 0, 0, .null)]
theorem t_s_M_findBill_16 : s_M_findBill_16.all (am_ok 12 cX12_findBill) = true := by decide +kernel
theorem d_X12_findBill_90 : decode cX12_findBill 90 = .ok (.iaload, 1) := by decide +kernel
def s_M_findBill_17 : List am_Q := [(91, .goto 4, 95, 0, 0, .null), (95, .iadd, 0, 0, 0, .null)]
theorem t_s_M_findBill_17 : s_M_findBill_17.all (am_ok 12 cX12_findBill) = true := by decide +kernel
def s_M_findBill_18 : List am_Q := [(97, .iinc 5 1, 0, 0, 0, .int (nI 1)), (100, .goto (-52), 48, 0, 0, .null)]
theorem t_s_M_findBill_18 : s_M_findBill_18.all (am_ok 12 cX12_findBill) = true := by decide +kernel
def s_M_findBill_19 : List am_Q := [(35, .goto 78, 113, 0, 0, .null), (113, .iinc 4 1, 0, 0, 0, .int (nI 1)), (116, .goto (-111), 5, 0, 0, .null)]
theorem t_s_M_findBill_19 : s_M_findBill_19.all (am_ok 12 cX12_findBill) = true := by decide +kernel
def M_findBill_48 (k5 : am_T → Int32 → Int32 → Int32 → Int32 → Option (Int32 × am_T)) : Nat → am_T → Int32 → Int32 → Int32 → Int32 → Int32 → Option (Int32 × am_T)
  | 0, _, _, _, _, _, _ => none
  | n + 1, τ, a1, a2, a3, a4, a5 =>
    if (τ.1 141 1) ≤ a5 then
  (am_g (am_in a4 20) (k5 τ a1 a2 (a3 + (τ.1 148 (a4.toNatClampNeg))) (a4 + (nI 1))))
else
  (am_g (am_in a4 20) ((M_costAt τ a4 (nI 1)).bind (fun x3 =>
  (M_ownerOf x3.2 a5 x3.1).bind (fun x4 =>
  if x4.1 = a1 then
  (am_g (am_in a5 8) (am_g (am_in a4 20) ((M_findBill_48 k5 n) (am_si x4.2 148 (a4.toNatClampNeg) ((τ.1 148 (a4.toNatClampNeg)) + (x4.2.1 146 (a5.toNatClampNeg)))) a1 a2 a3 a4 (a5 + (nI 1)))))
else
  (am_g (am_in a4 20) ((M_findBill_48 k5 n) (am_si x4.2 148 (a4.toNatClampNeg) ((τ.1 148 (a4.toNatClampNeg)) + (nI 0))) a1 a2 a3 a4 (a5 + (nI 1))))))))
set_option maxRecDepth 20000 in
theorem ok_M_findBill_48 {X : am_X} {v : Int32} {τ' : am_T} (hF : am_F X "ShareHouseModel" cX12_findBill 6) (hR : am_R X 5 121) (hB : am_B X (some .int) (some (.int v)) (am_D τ')) {k5 : am_T → Int32 → Int32 → Int32 → Int32 → Option (Int32 × am_T)} (hk5 : ∀ (τ : am_T) (a1 : Int32) (a2 : Int32) (a3 : Int32) (a4 : Int32), k5 τ a1 a2 a3 a4 = some (v, τ') → am_W X 6 (5, [(0, .ref 140), (1, .int a1), (2, .int a2), (3, .int a3), (4, .int a4)], [], am_D τ)) : ∀ (n : Nat) (τ : am_T) (a1 : Int32) (a2 : Int32) (a3 : Int32) (a4 : Int32) (a5 : Int32), M_findBill_48 k5 n τ a1 a2 a3 a4 a5 = some (v, τ') → am_W X 6 (48, [(0, .ref 140), (1, .int a1), (2, .int a2), (3, .int a3), (4, .int a4), (5, .int a5)], [], am_D τ) := by
  intro n
  induction n with
  | zero => intro τ a1 a2 a3 a4 a5 h; unfold M_findBill_48 at h; cases h
  | succ n ih =>
    intro τ a1 a2 a3 a4 a5 h
    unfold M_findBill_48 at h
    refine am_seg s_M_findBill_8 (y := (55, [(0, .ref 140), (1, .int a1), (2, .int a2), (3, .int a3), (4, .int a4), (5, .int a5)], [.int (nI 1), .ref 141, .int a5], am_D τ)) hF t_s_M_findBill_8 rfl rfl ?_
    refine am_iald (n := 1060) (j := 1) d_X12_findBill_55 (Nat.le_of_ble_eq_true rfl) (Nat.le_of_ble_eq_true rfl) rfl (by decide) rfl hF ?_
    refine am_ite h (fun hc h => ?_) (fun hc h => ?_)
    · refine am_icmp_ge_t (t := 103) d_X12_findBill_56 (by decide) hc hF ?_
      refine am_seg s_M_findBill_9 (y := (110, [(0, .ref 140), (1, .int a1), (2, .int a2), (3, .int a3), (4, .int a4), (5, .int a5)], [.int a4, .ref 148, .int a3], am_D τ)) hF t_s_M_findBill_9 rfl rfl ?_
      refine am_gd h (fun hi h => ?_)
      refine am_iald (n := 20) (j := (a4.toNatClampNeg)) d_X12_findBill_110 (Nat.le_of_ble_eq_true rfl) (Nat.le_of_ble_eq_true rfl) rfl hi rfl hF ?_
      refine am_seg s_M_findBill_10 (y := (5, [(4, .int (a4 + (nI 1))), (3, .int (a3 + (τ.1 148 (a4.toNatClampNeg)))), (0, .ref 140), (1, .int a1), (2, .int a2), (5, .int a5)], [], am_D τ)) hF t_s_M_findBill_10 rfl rfl ?_
      refine am_pick [2, 3, 4, 1, 0] rfl ?_
      exact hk5 _ _ _ _ _ h
    · refine am_icmp_ge_f (t := 103) d_X12_findBill_56 (by decide) hc hF ?_
      refine am_seg s_M_findBill_11 (y := (66, [(0, .ref 140), (1, .int a1), (2, .int a2), (3, .int a3), (4, .int a4), (5, .int a5)], [.int a4, .ref 148, .int a4, .ref 148], am_D τ)) hF t_s_M_findBill_11 rfl rfl ?_
      refine am_gd h (fun hi h => ?_)
      refine am_iald (n := 20) (j := (a4.toNatClampNeg)) d_X12_findBill_66 (Nat.le_of_ble_eq_true rfl) (Nat.le_of_ble_eq_true rfl) rfl hi rfl hF ?_
      refine am_seg s_M_findBill_12 (y := (74, [(0, .ref 140), (1, .int a1), (2, .int a2), (3, .int a3), (4, .int a4), (5, .int a5)], [.int (nI 1), .int a4, .ref 140, .int a5, .ref 140, .int (τ.1 148 (a4.toNatClampNeg)), .int a4, .ref 148], am_D τ)) hF t_s_M_findBill_12 rfl rfl ?_
      refine am_bd h (fun x3 hx h => ?_)
      refine am_callV (As := [.int a4, .int (nI 1)]) (r := (some (.int x3.1))) (st := [.int a5, .ref 140, .int (τ.1 148 (a4.toNatClampNeg)), .int a4, .ref 148]) (σ' := am_D x3.2) (ci := 12) hF hR d_X12_findBill_74 (c_M_costAt (τ' := x3.2) hx) (Nat.le_refl _) (Nat.le_refl _) wl_M_233 wi_yX12_costAt we_yX12_costAt wn_ShareHouseModel wc_yX12_costAt (Nat.le_of_ble_eq_true rfl) (Nat.le_of_ble_eq_true rfl) rfl rfl wy_yX12_costAt rfl ⟨by decide, by decide⟩ (Nat.le_of_ble_eq_true rfl) ?_
      refine am_bd h (fun x4 hx h => ?_)
      refine am_callV (As := [.int a5, .int x3.1]) (r := (some (.int x4.1))) (st := [.int (τ.1 148 (a4.toNatClampNeg)), .int a4, .ref 148]) (σ' := am_D x4.2) (ci := 12) hF hR d_X12_findBill_77 (c_M_ownerOf (τ' := x4.2) hx) (Nat.le_refl _) (Nat.le_refl _) wl_M_267 wi_yX12_ownerOf we_yX12_ownerOf wn_ShareHouseModel wc_yX12_ownerOf (Nat.le_of_ble_eq_true rfl) (Nat.le_of_ble_eq_true rfl) rfl rfl wy_yX12_ownerOf rfl ⟨by decide, by decide⟩ (Nat.le_of_ble_eq_true rfl) ?_
      refine am_seg s_M_findBill_13 (y := (81, [(0, .ref 140), (1, .int a1), (2, .int a2), (3, .int a3), (4, .int a4), (5, .int a5)], [.int a1, .int x4.1, .int (τ.1 148 (a4.toNatClampNeg)), .int a4, .ref 148], am_D x4.2)) hF t_s_M_findBill_13 rfl rfl ?_
      refine am_ite h (fun hc h => ?_) (fun hc h => ?_)
      · refine am_icmp_ne_f (t := 94) d_X12_findBill_81 (by decide) hc hF ?_
        refine am_seg s_M_findBill_16 (y := (90, [(0, .ref 140), (1, .int a1), (2, .int a2), (3, .int a3), (4, .int a4), (5, .int a5)], [.int a5, .ref 146, .int (τ.1 148 (a4.toNatClampNeg)), .int a4, .ref 148], am_D x4.2)) hF t_s_M_findBill_16 rfl rfl ?_
        refine am_gd h (fun hi h => ?_)
        refine am_iald (n := 8) (j := (a5.toNatClampNeg)) d_X12_findBill_90 (Nat.le_of_ble_eq_true rfl) (Nat.le_of_ble_eq_true rfl) rfl hi rfl hF ?_
        refine am_seg s_M_findBill_17 (y := (96, [(0, .ref 140), (1, .int a1), (2, .int a2), (3, .int a3), (4, .int a4), (5, .int a5)], [.int ((τ.1 148 (a4.toNatClampNeg)) + (x4.2.1 146 (a5.toNatClampNeg))), .int a4, .ref 148], am_D x4.2)) hF t_s_M_findBill_17 rfl rfl ?_
        refine am_gd h (fun hi h => ?_)
        refine am_iast (n := 20) (j := (a4.toNatClampNeg)) d_X12_findBill_96 (Nat.le_of_ble_eq_true rfl) (Nat.le_of_ble_eq_true rfl) rfl hi rfl hF ?_
        refine am_seg s_M_findBill_18 (y := (48, [(5, .int (a5 + (nI 1))), (0, .ref 140), (1, .int a1), (2, .int a2), (3, .int a3), (4, .int a4)], [], am_D (am_si x4.2 148 (a4.toNatClampNeg) ((τ.1 148 (a4.toNatClampNeg)) + (x4.2.1 146 (a5.toNatClampNeg)))))) hF t_s_M_findBill_18 rfl rfl ?_
        refine am_pick [1, 2, 3, 4, 5, 0] rfl ?_
        exact ih _ _ _ _ _ _ h
      · refine am_icmp_ne_t (t := 94) d_X12_findBill_81 (by decide) hc hF ?_
        refine am_seg s_M_findBill_14 (y := (96, [(0, .ref 140), (1, .int a1), (2, .int a2), (3, .int a3), (4, .int a4), (5, .int a5)], [.int ((τ.1 148 (a4.toNatClampNeg)) + (nI 0)), .int a4, .ref 148], am_D x4.2)) hF t_s_M_findBill_14 rfl rfl ?_
        refine am_gd h (fun hi h => ?_)
        refine am_iast (n := 20) (j := (a4.toNatClampNeg)) d_X12_findBill_96 (Nat.le_of_ble_eq_true rfl) (Nat.le_of_ble_eq_true rfl) rfl hi rfl hF ?_
        refine am_seg s_M_findBill_15 (y := (48, [(5, .int (a5 + (nI 1))), (0, .ref 140), (1, .int a1), (2, .int a2), (3, .int a3), (4, .int a4)], [], am_D (am_si x4.2 148 (a4.toNatClampNeg) ((τ.1 148 (a4.toNatClampNeg)) + (nI 0))))) hF t_s_M_findBill_15 rfl rfl ?_
        refine am_pick [1, 2, 3, 4, 5, 0] rfl ?_
        exact ih _ _ _ _ _ _ h
def M_findBill_5 : Nat → am_T → Int32 → Int32 → Int32 → Int32 → Option (Int32 × am_T)
  | 0, _, _, _, _, _ => none
  | n + 1, τ, a1, a2, a3, a4 =>
    if (τ.1 141 2) ≤ a4 then
  (some (a3, τ))
else
  (am_g (am_in a4 20) ((M_costAt (am_si τ 148 (a4.toNatClampNeg) (nI 0)) a4 (nI 3)).bind (fun x1 =>
  if x1.1 ≤ a2 then
  ((M_findParts x1.2 a4 a2).bind (fun x2 =>
  M_findBill_48 (M_findBill_5 n) 5000 x2 a1 a2 a3 a4 (nI 0)))
else
  ((M_findBill_5 n) x1.2 a1 a2 a3 (a4 + (nI 1))))))
set_option maxRecDepth 20000 in
theorem ok_M_findBill_5 {X : am_X} {v : Int32} {τ' : am_T} (hF : am_F X "ShareHouseModel" cX12_findBill 6) (hR : am_R X 5 121) (hB : am_B X (some .int) (some (.int v)) (am_D τ')) : ∀ (n : Nat) (τ : am_T) (a1 : Int32) (a2 : Int32) (a3 : Int32) (a4 : Int32), M_findBill_5 n τ a1 a2 a3 a4 = some (v, τ') → am_W X 6 (5, [(0, .ref 140), (1, .int a1), (2, .int a2), (3, .int a3), (4, .int a4)], [], am_D τ) := by
  intro n
  induction n with
  | zero => intro τ a1 a2 a3 a4 h; unfold M_findBill_5 at h; cases h
  | succ n ih =>
    intro τ a1 a2 a3 a4 h
    unfold M_findBill_5 at h
    refine am_seg s_M_findBill_1 (y := (12, [(0, .ref 140), (1, .int a1), (2, .int a2), (3, .int a3), (4, .int a4)], [.int (nI 2), .ref 141, .int a4], am_D τ)) hF t_s_M_findBill_1 rfl rfl ?_
    refine am_iald (n := 1060) (j := 2) d_X12_findBill_12 (Nat.le_of_ble_eq_true rfl) (Nat.le_of_ble_eq_true rfl) rfl (by decide) rfl hF ?_
    refine am_ite h (fun hc h => ?_) (fun hc h => ?_)
    · refine am_icmp_ge_t (t := 119) d_X12_findBill_13 (by decide) hc hF ?_
      refine am_seg s_M_findBill_2 (y := (120, [(0, .ref 140), (1, .int a1), (2, .int a2), (3, .int a3), (4, .int a4)], [.int a3], am_D τ)) hF t_s_M_findBill_2 rfl rfl ?_
      obtain ⟨rfl, rfl⟩ := am_pair h
      exact am_iret d_X12_findBill_120 hF hB
    · refine am_icmp_ge_f (t := 119) d_X12_findBill_13 (by decide) hc hF ?_
      refine am_seg s_M_findBill_3 (y := (23, [(0, .ref 140), (1, .int a1), (2, .int a2), (3, .int a3), (4, .int a4)], [.int (nI 0), .int a4, .ref 148], am_D τ)) hF t_s_M_findBill_3 rfl rfl ?_
      refine am_gd h (fun hi h => ?_)
      refine am_iast (n := 20) (j := (a4.toNatClampNeg)) d_X12_findBill_23 (Nat.le_of_ble_eq_true rfl) (Nat.le_of_ble_eq_true rfl) rfl hi rfl hF ?_
      refine am_seg s_M_findBill_4 (y := (28, [(0, .ref 140), (1, .int a1), (2, .int a2), (3, .int a3), (4, .int a4)], [.int (nI 3), .int a4, .ref 140], am_D (am_si τ 148 (a4.toNatClampNeg) (nI 0)))) hF t_s_M_findBill_4 rfl rfl ?_
      refine am_bd h (fun x1 hx h => ?_)
      refine am_callV (As := [.int a4, .int (nI 3)]) (r := (some (.int x1.1))) (st := []) (σ' := am_D x1.2) (ci := 12) hF hR d_X12_findBill_28 (c_M_costAt (τ' := x1.2) hx) (Nat.le_refl _) (Nat.le_refl _) wl_M_233 wi_yX12_costAt we_yX12_costAt wn_ShareHouseModel wc_yX12_costAt (Nat.le_of_ble_eq_true rfl) (Nat.le_of_ble_eq_true rfl) rfl rfl wy_yX12_costAt rfl ⟨by decide, by decide⟩ (Nat.le_of_ble_eq_true rfl) ?_
      refine am_seg s_M_findBill_5 (y := (32, [(0, .ref 140), (1, .int a1), (2, .int a2), (3, .int a3), (4, .int a4)], [.int a2, .int x1.1], am_D x1.2)) hF t_s_M_findBill_5 rfl rfl ?_
      refine am_ite h (fun hc h => ?_) (fun hc h => ?_)
      · refine am_icmp_le_t (t := 38) d_X12_findBill_32 (by decide) hc hF ?_
        refine am_seg s_M_findBill_6 (y := (42, [(0, .ref 140), (1, .int a1), (2, .int a2), (3, .int a3), (4, .int a4)], [.int a2, .int a4, .ref 140], am_D x1.2)) hF t_s_M_findBill_6 rfl rfl ?_
        refine am_bd h (fun x2 hx h => ?_)
        refine am_callV (As := [.int a4, .int a2]) (r := none) (st := []) (σ' := am_D x2) (ci := 12) hF hR d_X12_findBill_42 (c_M_findParts (τ' := x2) hx) (Nat.le_refl _) (Nat.le_refl _) wl_M_260 wi_yX12_findParts we_yX12_findParts wn_ShareHouseModel wc_yX12_findParts (Nat.le_of_ble_eq_true rfl) (Nat.le_of_ble_eq_true rfl) rfl rfl wy_yX12_findParts rfl ⟨by decide, by decide⟩ (Nat.le_of_ble_eq_true rfl) ?_
        refine am_seg s_M_findBill_7 (y := (48, [(5, .int (nI 0)), (0, .ref 140), (1, .int a1), (2, .int a2), (3, .int a3), (4, .int a4)], [], am_D x2)) hF t_s_M_findBill_7 rfl rfl ?_
        refine am_pick [1, 2, 3, 4, 5, 0] rfl ?_
        exact ok_M_findBill_48 hF hR hB ih _ _ _ _ _ _ _ h
      · refine am_icmp_le_f (t := 38) d_X12_findBill_32 (by decide) hc hF ?_
        refine am_seg s_M_findBill_19 (y := (5, [(4, .int (a4 + (nI 1))), (0, .ref 140), (1, .int a1), (2, .int a2), (3, .int a3)], [], am_D x1.2)) hF t_s_M_findBill_19 rfl rfl ?_
        refine am_pick [1, 2, 3, 4, 0] rfl ?_
        exact ih _ _ _ _ _ h
def M_findBill (τ : am_T) (a1 : Int32) (a2 : Int32) : Option (Int32 × am_T) :=
  M_findBill_5 5000 τ a1 a2 (nI 0) (nI 0)
set_option maxRecDepth 20000 in
theorem ok_M_findBill {X : am_X} {a1 : Int32} {a2 : Int32} {v : Int32} {τ τ' : am_T} (hF : am_F X "ShareHouseModel" cX12_findBill 6) (hR : am_R X 5 121) (hB : am_B X (some .int) (some (.int v)) (am_D τ')) (h : M_findBill τ a1 a2 = some (v, τ')) : am_W X 6 (0, [(0, .ref 140), (1, .int a1), (2, .int a2)], [], am_D τ) := by
  unfold M_findBill at h
  refine am_seg s_M_findBill_0 (y := (5, [(4, .int (nI 0)), (3, .int (nI 0)), (0, .ref 140), (1, .int a1), (2, .int a2)], [], am_D τ)) hF t_s_M_findBill_0 rfl rfl ?_
  refine am_pick [2, 3, 4, 1, 0] rfl ?_
  exact ok_M_findBill_5 hF hR hB _ _ _ _ _ _ h
theorem c_M_findBill {a1 : Int32} {a2 : Int32} {v : Int32} {τ τ' : am_T} (h : M_findBill τ a1 a2 = some (v, τ')) : am_C yX12_findBill cX12_findBill 6 (some .int) 5 121 [.ref 140, .int a1, .int a2] (am_D τ) (some (.int v)) (am_D τ') :=
  am_enter (by decide +kernel) (Nat.le_of_ble_eq_true rfl) ⟨Nat.le_refl _, Nat.le_refl _⟩ (fun X hF hR hB => ok_M_findBill hF hR hB h)
def s_M_paid_0 : List am_Q := [(0, .iconst 0, 0, 0, 0, .int (nI 0)), (1, .istore_n 3, 0, 0, 0, .null), (2, .sipush 880, 0, 0, 0, .int (nI 880)), (5, .istore 4, 0, 0, 0, .null)]
theorem t_s_M_paid_0 : s_M_paid_0.all (am_ok 12 cX12_paid) = true := by decide +kernel
def s_M_paid_1 : List am_Q := [(7, .iload 4, 0, 0, 0, .null), (9, .sipush 880, 0, 0, 0, .int (nI 880)), (12, .iconst 3, 0, 0, 0, .int (nI 3)), (13, .aload_n 0, 0, 0, 0, .null), (14, .getfield 7, 12, 0, 152, .null), (17, .iconst 5, 0, 0, 0, .int (nI 5))]
theorem t_s_M_paid_1 : s_M_paid_1.all (am_ok 12 cX12_paid) = true := by decide +kernel
theorem d_X12_paid_18 : decode cX12_paid 18 = .ok (.iaload, 1) := by decide +kernel
def s_M_paid_2 : List am_Q := [(19, .imul, 0, 0, 0, .null), (20, .iadd, 0, 0, 0, .null)]
theorem t_s_M_paid_2 : s_M_paid_2.all (am_ok 12 cX12_paid) = true := by decide +kernel
theorem d_X12_paid_21 : decode cX12_paid 21 = .ok (.if_icmp .ge 49, 3) := by decide +kernel
def s_M_paid_3 : List am_Q := [(70, .iload_n 3, 0, 0, 0, .null)]
theorem t_s_M_paid_3 : s_M_paid_3.all (am_ok 12 cX12_paid) = true := by decide +kernel
theorem d_X12_paid_71 : decode cX12_paid 71 = .ok (.ireturn, 1) := by decide +kernel
def s_M_paid_4 : List am_Q := [(24, .iload_n 3, 0, 0, 0, .null), (25, .aload_n 0, 0, 0, 0, .null), (26, .getfield 7, 12, 0, 152, .null), (29, .iload 4, 0, 0, 0, .null)]
theorem t_s_M_paid_4 : s_M_paid_4.all (am_ok 12 cX12_paid) = true := by decide +kernel
theorem d_X12_paid_31 : decode cX12_paid 31 = .ok (.iaload, 1) := by decide +kernel
def s_M_paid_5 : List am_Q := [(32, .iload_n 1, 0, 0, 0, .null)]
theorem t_s_M_paid_5 : s_M_paid_5.all (am_ok 12 cX12_paid) = true := by decide +kernel
theorem d_X12_paid_33 : decode cX12_paid 33 = .ok (.if_icmp .ne 28, 3) := by decide +kernel
def s_M_paid_6 : List am_Q := [(61, .iconst 0, 0, 0, 0, .int (nI 0)), (62, .iadd, 0, 0, 0, .null), (63, .istore_n 3, 0, 0, 0, .null), (64, .iinc 4 3, 0, 0, 0, .int (nI 3)), (67, .goto (-60), 7, 0, 0, .null)]
theorem t_s_M_paid_6 : s_M_paid_6.all (am_ok 12 cX12_paid) = true := by decide +kernel
def s_M_paid_7 : List am_Q := [(36, .aload_n 0, 0, 0, 0, .null), (37, .getfield 7, 12, 0, 152, .null), (40, .iload 4, 0, 0, 0, .null), (42, .iconst 2, 0, 0, 0, .int (nI 2)), (43, .iadd, 0, 0, 0, .null)]
theorem t_s_M_paid_7 : s_M_paid_7.all (am_ok 12 cX12_paid) = true := by decide +kernel
theorem d_X12_paid_44 : decode cX12_paid 44 = .ok (.iaload, 1) := by decide +kernel
def s_M_paid_8 : List am_Q := [(45, .iload_n 2, 0, 0, 0, .null)]
theorem t_s_M_paid_8 : s_M_paid_8.all (am_ok 12 cX12_paid) = true := by decide +kernel
theorem d_X12_paid_46 : decode cX12_paid 46 = .ok (.if_icmp .gt 15, 3) := by decide +kernel
def s_M_paid_9 : List am_Q := [(61, .iconst 0, 0, 0, 0, .int (nI 0)), (62, .iadd, 0, 0, 0, .null), (63, .istore_n 3, 0, 0, 0, .null), (64, .iinc 4 3, 0, 0, 0, .int (nI 3)), (67, .goto (-60), 7, 0, 0, .null)]
theorem t_s_M_paid_9 : s_M_paid_9.all (am_ok 12 cX12_paid) = true := by decide +kernel
def s_M_paid_10 : List am_Q := [(49, .aload_n 0, 0, 0, 0, .null), (50, .getfield 7, 12, 0, 152, .null), (53, .iload 4, 0, 0, 0, .null), (55, .iconst 1, 0, 0, 0, .int (nI 1)), (56, .iadd, 0, 0, 0, .null)]
theorem t_s_M_paid_10 : s_M_paid_10.all (am_ok 12 cX12_paid) = true := by decide +kernel
theorem d_X12_paid_57 : decode cX12_paid 57 = .ok (.iaload, 1) := by decide +kernel
def s_M_paid_11 : List am_Q := [(58, .goto 4, 62, 0, 0, .null), (62, .iadd, 0, 0, 0, .null), (63, .istore_n 3, 0, 0, 0, .null), (64, .iinc 4 3, 0, 0, 0, .int (nI 3)), (67, .goto (-60), 7, 0, 0, .null)]
theorem t_s_M_paid_11 : s_M_paid_11.all (am_ok 12 cX12_paid) = true := by decide +kernel
def M_paid_7 : Nat → am_T → Int32 → Int32 → Int32 → Int32 → Option (Int32 × am_T)
  | 0, _, _, _, _, _ => none
  | n + 1, τ, a1, a2, a3, a4 =>
    if ((nI 880) + ((nI 3) * (τ.1 141 5))) ≤ a4 then
  (some (a3, τ))
else
  (am_g (am_in a4 1060) (if (τ.1 141 (a4.toNatClampNeg)) = a1 then
  (am_g (am_in (a4 + (nI 2)) 1060) (if a2 < (τ.1 141 ((a4 + (nI 2)).toNatClampNeg)) then
  ((M_paid_7 n) τ a1 a2 (a3 + (nI 0)) (a4 + (nI 3)))
else
  (am_g (am_in (a4 + (nI 1)) 1060) ((M_paid_7 n) τ a1 a2 (a3 + (τ.1 141 ((a4 + (nI 1)).toNatClampNeg))) (a4 + (nI 3))))))
else
  ((M_paid_7 n) τ a1 a2 (a3 + (nI 0)) (a4 + (nI 3)))))
set_option maxRecDepth 20000 in
theorem ok_M_paid_7 {X : am_X} {v : Int32} {τ' : am_T} (hF : am_F X "ShareHouseModel" cX12_paid 5) (hR : am_R X 0 0) (hB : am_B X (some .int) (some (.int v)) (am_D τ')) : ∀ (n : Nat) (τ : am_T) (a1 : Int32) (a2 : Int32) (a3 : Int32) (a4 : Int32), M_paid_7 n τ a1 a2 a3 a4 = some (v, τ') → am_W X 5 (7, [(0, .ref 140), (1, .int a1), (2, .int a2), (3, .int a3), (4, .int a4)], [], am_D τ) := by
  intro n
  induction n with
  | zero => intro τ a1 a2 a3 a4 h; unfold M_paid_7 at h; cases h
  | succ n ih =>
    intro τ a1 a2 a3 a4 h
    unfold M_paid_7 at h
    refine am_seg s_M_paid_1 (y := (18, [(0, .ref 140), (1, .int a1), (2, .int a2), (3, .int a3), (4, .int a4)], [.int (nI 5), .ref 141, .int (nI 3), .int (nI 880), .int a4], am_D τ)) hF t_s_M_paid_1 rfl rfl ?_
    refine am_iald (n := 1060) (j := 5) d_X12_paid_18 (Nat.le_of_ble_eq_true rfl) (Nat.le_of_ble_eq_true rfl) rfl (by decide) rfl hF ?_
    refine am_seg s_M_paid_2 (y := (21, [(0, .ref 140), (1, .int a1), (2, .int a2), (3, .int a3), (4, .int a4)], [.int ((nI 880) + ((nI 3) * (τ.1 141 5))), .int a4], am_D τ)) hF t_s_M_paid_2 rfl rfl ?_
    refine am_ite h (fun hc h => ?_) (fun hc h => ?_)
    · refine am_icmp_ge_t (t := 70) d_X12_paid_21 (by decide) hc hF ?_
      refine am_seg s_M_paid_3 (y := (71, [(0, .ref 140), (1, .int a1), (2, .int a2), (3, .int a3), (4, .int a4)], [.int a3], am_D τ)) hF t_s_M_paid_3 rfl rfl ?_
      obtain ⟨rfl, rfl⟩ := am_pair h
      exact am_iret d_X12_paid_71 hF hB
    · refine am_icmp_ge_f (t := 70) d_X12_paid_21 (by decide) hc hF ?_
      refine am_seg s_M_paid_4 (y := (31, [(0, .ref 140), (1, .int a1), (2, .int a2), (3, .int a3), (4, .int a4)], [.int a4, .ref 141, .int a3], am_D τ)) hF t_s_M_paid_4 rfl rfl ?_
      refine am_gd h (fun hi h => ?_)
      refine am_iald (n := 1060) (j := (a4.toNatClampNeg)) d_X12_paid_31 (Nat.le_of_ble_eq_true rfl) (Nat.le_of_ble_eq_true rfl) rfl hi rfl hF ?_
      refine am_seg s_M_paid_5 (y := (33, [(0, .ref 140), (1, .int a1), (2, .int a2), (3, .int a3), (4, .int a4)], [.int a1, .int (τ.1 141 (a4.toNatClampNeg)), .int a3], am_D τ)) hF t_s_M_paid_5 rfl rfl ?_
      refine am_ite h (fun hc h => ?_) (fun hc h => ?_)
      · refine am_icmp_ne_f (t := 61) d_X12_paid_33 (by decide) hc hF ?_
        refine am_seg s_M_paid_7 (y := (44, [(0, .ref 140), (1, .int a1), (2, .int a2), (3, .int a3), (4, .int a4)], [.int (a4 + (nI 2)), .ref 141, .int a3], am_D τ)) hF t_s_M_paid_7 rfl rfl ?_
        refine am_gd h (fun hi h => ?_)
        refine am_iald (n := 1060) (j := ((a4 + (nI 2)).toNatClampNeg)) d_X12_paid_44 (Nat.le_of_ble_eq_true rfl) (Nat.le_of_ble_eq_true rfl) rfl hi rfl hF ?_
        refine am_seg s_M_paid_8 (y := (46, [(0, .ref 140), (1, .int a1), (2, .int a2), (3, .int a3), (4, .int a4)], [.int a2, .int (τ.1 141 ((a4 + (nI 2)).toNatClampNeg)), .int a3], am_D τ)) hF t_s_M_paid_8 rfl rfl ?_
        refine am_ite h (fun hc h => ?_) (fun hc h => ?_)
        · refine am_icmp_gt_t (t := 61) d_X12_paid_46 (by decide) hc hF ?_
          refine am_seg s_M_paid_9 (y := (7, [(4, .int (a4 + (nI 3))), (3, .int (a3 + (nI 0))), (0, .ref 140), (1, .int a1), (2, .int a2)], [], am_D τ)) hF t_s_M_paid_9 rfl rfl ?_
          refine am_pick [2, 3, 4, 1, 0] rfl ?_
          exact ih _ _ _ _ _ h
        · refine am_icmp_gt_f (t := 61) d_X12_paid_46 (by decide) hc hF ?_
          refine am_seg s_M_paid_10 (y := (57, [(0, .ref 140), (1, .int a1), (2, .int a2), (3, .int a3), (4, .int a4)], [.int (a4 + (nI 1)), .ref 141, .int a3], am_D τ)) hF t_s_M_paid_10 rfl rfl ?_
          refine am_gd h (fun hi h => ?_)
          refine am_iald (n := 1060) (j := ((a4 + (nI 1)).toNatClampNeg)) d_X12_paid_57 (Nat.le_of_ble_eq_true rfl) (Nat.le_of_ble_eq_true rfl) rfl hi rfl hF ?_
          refine am_seg s_M_paid_11 (y := (7, [(4, .int (a4 + (nI 3))), (3, .int (a3 + (τ.1 141 ((a4 + (nI 1)).toNatClampNeg)))), (0, .ref 140), (1, .int a1), (2, .int a2)], [], am_D τ)) hF t_s_M_paid_11 rfl rfl ?_
          refine am_pick [2, 3, 4, 1, 0] rfl ?_
          exact ih _ _ _ _ _ h
      · refine am_icmp_ne_t (t := 61) d_X12_paid_33 (by decide) hc hF ?_
        refine am_seg s_M_paid_6 (y := (7, [(4, .int (a4 + (nI 3))), (3, .int (a3 + (nI 0))), (0, .ref 140), (1, .int a1), (2, .int a2)], [], am_D τ)) hF t_s_M_paid_6 rfl rfl ?_
        refine am_pick [2, 3, 4, 1, 0] rfl ?_
        exact ih _ _ _ _ _ h
def M_paid (τ : am_T) (a1 : Int32) (a2 : Int32) : Option (Int32 × am_T) :=
  M_paid_7 5000 τ a1 a2 (nI 0) (nI 880)
set_option maxRecDepth 20000 in
theorem ok_M_paid {X : am_X} {a1 : Int32} {a2 : Int32} {v : Int32} {τ τ' : am_T} (hF : am_F X "ShareHouseModel" cX12_paid 5) (hR : am_R X 0 0) (hB : am_B X (some .int) (some (.int v)) (am_D τ')) (h : M_paid τ a1 a2 = some (v, τ')) : am_W X 5 (0, [(0, .ref 140), (1, .int a1), (2, .int a2)], [], am_D τ) := by
  unfold M_paid at h
  refine am_seg s_M_paid_0 (y := (7, [(4, .int (nI 880)), (3, .int (nI 0)), (0, .ref 140), (1, .int a1), (2, .int a2)], [], am_D τ)) hF t_s_M_paid_0 rfl rfl ?_
  refine am_pick [2, 3, 4, 1, 0] rfl ?_
  exact ok_M_paid_7 hF hR hB _ _ _ _ _ _ h
theorem c_M_paid {a1 : Int32} {a2 : Int32} {v : Int32} {τ τ' : am_T} (h : M_paid τ a1 a2 = some (v, τ')) : am_C yX12_paid cX12_paid 5 (some .int) 0 0 [.ref 140, .int a1, .int a2] (am_D τ) (some (.int v)) (am_D τ') :=
  am_enter (by decide +kernel) (Nat.le_of_ble_eq_true rfl) ⟨Nat.le_refl _, Nat.le_refl _⟩ (fun X hF hR hB => ok_M_paid hF hR hB h)
def s_M_interest_0 : List am_Q := [(0, .lconst 0, 0, 0, 0, .long (lN 0)), (1, .lstore_n 3, 0, 0, 0, .null), (2, .iconst 0, 0, 0, 0, .int (nI 0)), (3, .istore 5, 0, 0, 0, .null)]
theorem t_s_M_interest_0 : s_M_interest_0.all (am_ok 12 cX12_interest) = true := by decide +kernel
def s_M_interest_1 : List am_Q := [(5, .iload 5, 0, 0, 0, .null), (7, .iload_n 2, 0, 0, 0, .null)]
theorem t_s_M_interest_1 : s_M_interest_1.all (am_ok 12 cX12_interest) = true := by decide +kernel
theorem d_X12_interest_8 : decode cX12_interest 8 = .ok (.if_icmp .ge 90, 3) := by decide +kernel
def s_M_interest_2 : List am_Q := [(98, .lload_n 3, 0, 0, 0, .null), (99, .aload_n 0, 0, 0, 0, .null), (100, .getfield 7, 12, 0, 152, .null), (103, .bipush 13, 0, 0, 0, .int (nI 13))]
theorem t_s_M_interest_2 : s_M_interest_2.all (am_ok 12 cX12_interest) = true := by decide +kernel
theorem d_X12_interest_105 : decode cX12_interest 105 = .ok (.iaload, 1) := by decide +kernel
def s_M_interest_3 : List am_Q := [(106, .i2l, 0, 0, 0, .null), (107, .lmul, 0, 0, 0, .null), (108, .ldc2_w 273, 0, 0, 33, .long (lN 100000))]
theorem t_s_M_interest_3 : s_M_interest_3.all (am_ok 12 cX12_interest) = true := by decide +kernel
theorem d_X12_interest_111 : decode cX12_interest 111 = .ok (.ldiv, 1) := by decide +kernel
def s_M_interest_4 : List am_Q := [(112, .l2i, 0, 0, 0, .null)]
theorem t_s_M_interest_4 : s_M_interest_4.all (am_ok 12 cX12_interest) = true := by decide +kernel
theorem d_X12_interest_113 : decode cX12_interest 113 = .ok (.ireturn, 1) := by decide +kernel
def s_M_interest_5 : List am_Q := [(11, .aload_n 0, 0, 0, 0, .null), (12, .iload_n 1, 0, 0, 0, .null), (13, .iload 5, 0, 0, 0, .null)]
theorem t_s_M_interest_5 : s_M_interest_5.all (am_ok 12 cX12_interest) = true := by decide +kernel
theorem d_X12_interest_15 : decode cX12_interest 15 = .ok (.invokevirtual 270, 3) := by decide +kernel
def s_M_interest_6 : List am_Q := [(18, .ineg, 0, 0, 0, .null), (19, .istore 6, 0, 0, 0, .null), (21, .iconst 0, 0, 0, 0, .int (nI 0)), (22, .istore 7, 0, 0, 0, .null)]
theorem t_s_M_interest_6 : s_M_interest_6.all (am_ok 12 cX12_interest) = true := by decide +kernel
def s_M_interest_7 : List am_Q := [(24, .iload 7, 0, 0, 0, .null), (26, .aload_n 0, 0, 0, 0, .null), (27, .getfield 7, 12, 0, 152, .null), (30, .iconst 2, 0, 0, 0, .int (nI 2))]
theorem t_s_M_interest_7 : s_M_interest_7.all (am_ok 12 cX12_interest) = true := by decide +kernel
theorem d_X12_interest_31 : decode cX12_interest 31 = .ok (.iaload, 1) := by decide +kernel
theorem d_X12_interest_32 : decode cX12_interest 32 = .ok (.if_icmp .ge 45, 3) := by decide +kernel
def s_M_interest_8 : List am_Q := [(77, .lload_n 3, 0, 0, 0, .null), (78, .iload 6, 0, 0, 0, .null)]
theorem t_s_M_interest_8 : s_M_interest_8.all (am_ok 12 cX12_interest) = true := by decide +kernel
theorem d_X12_interest_80 : decode cX12_interest 80 = .ok (.ifCond .le 9, 3) := by decide +kernel
def s_M_interest_9 : List am_Q := [(89, .lconst 0, 0, 0, 0, .long (lN 0)), (90, .ladd, 0, 0, 0, .null), (91, .lstore_n 3, 0, 0, 0, .null), (92, .iinc 5 1, 0, 0, 0, .int (nI 1)), (95, .goto (-90), 5, 0, 0, .null)]
theorem t_s_M_interest_9 : s_M_interest_9.all (am_ok 12 cX12_interest) = true := by decide +kernel
def s_M_interest_10 : List am_Q := [(83, .iload 6, 0, 0, 0, .null), (85, .i2l, 0, 0, 0, .null), (86, .goto 4, 90, 0, 0, .null), (90, .ladd, 0, 0, 0, .null), (91, .lstore_n 3, 0, 0, 0, .null), (92, .iinc 5 1, 0, 0, 0, .int (nI 1)), (95, .goto (-90), 5, 0, 0, .null)]
theorem t_s_M_interest_10 : s_M_interest_10.all (am_ok 12 cX12_interest) = true := by decide +kernel
def s_M_interest_11 : List am_Q := [(35, .iload 6, 0, 0, 0, .null), (37, .aload_n 0, 0, 0, 0, .null), (38, .iload 7, 0, 0, 0, .null), (40, .iconst 1, 0, 0, 0, .int (nI 1))]
theorem t_s_M_interest_11 : s_M_interest_11.all (am_ok 12 cX12_interest) = true := by decide +kernel
theorem d_X12_interest_41 : decode cX12_interest 41 = .ok (.invokevirtual 233, 3) := by decide +kernel
def s_M_interest_12 : List am_Q := [(44, .iload 5, 0, 0, 0, .null), (46, .aload_n 0, 0, 0, 0, .null), (47, .getfield 7, 12, 0, 152, .null), (50, .bipush 12, 0, 0, 0, .int (nI 12))]
theorem t_s_M_interest_12 : s_M_interest_12.all (am_ok 12 cX12_interest) = true := by decide +kernel
theorem d_X12_interest_52 : decode cX12_interest 52 = .ok (.iaload, 1) := by decide +kernel
def s_M_interest_13 : List am_Q := [(53, .isub, 0, 0, 0, .null)]
theorem t_s_M_interest_13 : s_M_interest_13.all (am_ok 12 cX12_interest) = true := by decide +kernel
theorem d_X12_interest_54 : decode cX12_interest 54 = .ok (.if_icmp .gt 13, 3) := by decide +kernel
def s_M_interest_14 : List am_Q := [(67, .iconst 0, 0, 0, 0, .int (nI 0)), (68, .iadd, 0, 0, 0, .null), (69, .istore 6, 0, 0, 0, .null), (71, .iinc 7 1, 0, 0, 0, .int (nI 1)), (74, .goto (-50), 24, 0, 0, .null)]
theorem t_s_M_interest_14 : s_M_interest_14.all (am_ok 12 cX12_interest) = true := by decide +kernel
def s_M_interest_15 : List am_Q := [(57, .aload_n 0, 0, 0, 0, .null), (58, .getfield 32, 12, 23, 175, .null), (61, .iload 7, 0, 0, 0, .null)]
theorem t_s_M_interest_15 : s_M_interest_15.all (am_ok 12 cX12_interest) = true := by decide +kernel
theorem d_X12_interest_63 : decode cX12_interest 63 = .ok (.iaload, 1) := by decide +kernel
def s_M_interest_16 : List am_Q := [(64, .goto 4, 68, 0, 0, .null), (68, .iadd, 0, 0, 0, .null), (69, .istore 6, 0, 0, 0, .null), (71, .iinc 7 1, 0, 0, 0, .int (nI 1)), (74, .goto (-50), 24, 0, 0, .null)]
theorem t_s_M_interest_16 : s_M_interest_16.all (am_ok 12 cX12_interest) = true := by decide +kernel
def M_interest_24 (k5 : am_T → Int32 → Int32 → Int64 → Int32 → Option (Int32 × am_T)) : Nat → am_T → Int32 → Int32 → Int64 → Int32 → Int32 → Int32 → Option (Int32 × am_T)
  | 0, _, _, _, _, _, _, _ => none
  | n + 1, τ, a1, a2, a3, a5, a6, a7 =>
    if (τ.1 141 2) ≤ a7 then
  (if a6 ≤ 0 then
  (k5 τ a1 a2 (a3 + (lN 0)) (a5 + (nI 1)))
else
  (k5 τ a1 a2 (a3 + (Int32.toInt64 a6)) (a5 + (nI 1))))
else
  ((M_costAt τ a7 (nI 1)).bind (fun x2 =>
  if (a5 - (x2.2.1 141 12)) < x2.1 then
  ((M_interest_24 k5 n) x2.2 a1 a2 a3 a5 (a6 + (nI 0)) (a7 + (nI 1)))
else
  (am_g (am_in a7 20) ((M_interest_24 k5 n) x2.2 a1 a2 a3 a5 (a6 + (x2.2.1 148 (a7.toNatClampNeg))) (a7 + (nI 1))))))
set_option maxRecDepth 20000 in
theorem ok_M_interest_24 {X : am_X} {v : Int32} {τ' : am_T} (hF : am_F X "ShareHouseModel" cX12_interest 8) (hR : am_R X 1 24) (hB : am_B X (some .int) (some (.int v)) (am_D τ')) {k5 : am_T → Int32 → Int32 → Int64 → Int32 → Option (Int32 × am_T)} (hk5 : ∀ (τ : am_T) (a1 : Int32) (a2 : Int32) (a3 : Int64) (a5 : Int32), k5 τ a1 a2 a3 a5 = some (v, τ') → am_W X 8 (5, [(0, .ref 140), (1, .int a1), (2, .int a2), (3, .long a3), (5, .int a5)], [], am_D τ)) : ∀ (n : Nat) (τ : am_T) (a1 : Int32) (a2 : Int32) (a3 : Int64) (a5 : Int32) (a6 : Int32) (a7 : Int32), M_interest_24 k5 n τ a1 a2 a3 a5 a6 a7 = some (v, τ') → am_W X 8 (24, [(0, .ref 140), (1, .int a1), (2, .int a2), (3, .long a3), (5, .int a5), (6, .int a6), (7, .int a7)], [], am_D τ) := by
  intro n
  induction n with
  | zero => intro τ a1 a2 a3 a5 a6 a7 h; unfold M_interest_24 at h; cases h
  | succ n ih =>
    intro τ a1 a2 a3 a5 a6 a7 h
    unfold M_interest_24 at h
    refine am_seg s_M_interest_7 (y := (31, [(0, .ref 140), (1, .int a1), (2, .int a2), (3, .long a3), (5, .int a5), (6, .int a6), (7, .int a7)], [.int (nI 2), .ref 141, .int a7], am_D τ)) hF t_s_M_interest_7 rfl rfl ?_
    refine am_iald (n := 1060) (j := 2) d_X12_interest_31 (Nat.le_of_ble_eq_true rfl) (Nat.le_of_ble_eq_true rfl) rfl (by decide) rfl hF ?_
    refine am_ite h (fun hc h => ?_) (fun hc h => ?_)
    · refine am_icmp_ge_t (t := 77) d_X12_interest_32 (by decide) hc hF ?_
      refine am_seg s_M_interest_8 (y := (80, [(0, .ref 140), (1, .int a1), (2, .int a2), (3, .long a3), (5, .int a5), (6, .int a6), (7, .int a7)], [.int a6, .long a3], am_D τ)) hF t_s_M_interest_8 rfl rfl ?_
      refine am_ite h (fun hc h => ?_) (fun hc h => ?_)
      · refine am_if_le_t (t := 89) d_X12_interest_80 (by decide) hc hF ?_
        refine am_seg s_M_interest_9 (y := (5, [(5, .int (a5 + (nI 1))), (3, .long (a3 + (lN 0))), (0, .ref 140), (1, .int a1), (2, .int a2), (6, .int a6), (7, .int a7)], [], am_D τ)) hF t_s_M_interest_9 rfl rfl ?_
        refine am_pick [2, 3, 4, 1, 0] rfl ?_
        exact hk5 _ _ _ _ _ h
      · refine am_if_le_f (t := 89) d_X12_interest_80 (by decide) hc hF ?_
        refine am_seg s_M_interest_10 (y := (5, [(5, .int (a5 + (nI 1))), (3, .long (a3 + (Int32.toInt64 a6))), (0, .ref 140), (1, .int a1), (2, .int a2), (6, .int a6), (7, .int a7)], [], am_D τ)) hF t_s_M_interest_10 rfl rfl ?_
        refine am_pick [2, 3, 4, 1, 0] rfl ?_
        exact hk5 _ _ _ _ _ h
    · refine am_icmp_ge_f (t := 77) d_X12_interest_32 (by decide) hc hF ?_
      refine am_seg s_M_interest_11 (y := (41, [(0, .ref 140), (1, .int a1), (2, .int a2), (3, .long a3), (5, .int a5), (6, .int a6), (7, .int a7)], [.int (nI 1), .int a7, .ref 140, .int a6], am_D τ)) hF t_s_M_interest_11 rfl rfl ?_
      refine am_bd h (fun x2 hx h => ?_)
      refine am_callV (As := [.int a7, .int (nI 1)]) (r := (some (.int x2.1))) (st := [.int a6]) (σ' := am_D x2.2) (ci := 12) hF hR d_X12_interest_41 (c_M_costAt (τ' := x2.2) hx) (Nat.le_refl _) (Nat.le_refl _) wl_M_233 wi_yX12_costAt we_yX12_costAt wn_ShareHouseModel wc_yX12_costAt (Nat.le_of_ble_eq_true rfl) (Nat.le_of_ble_eq_true rfl) rfl rfl wy_yX12_costAt rfl ⟨by decide, by decide⟩ (Nat.le_of_ble_eq_true rfl) ?_
      refine am_seg s_M_interest_12 (y := (52, [(0, .ref 140), (1, .int a1), (2, .int a2), (3, .long a3), (5, .int a5), (6, .int a6), (7, .int a7)], [.int (nI 12), .ref 141, .int a5, .int x2.1, .int a6], am_D x2.2)) hF t_s_M_interest_12 rfl rfl ?_
      refine am_iald (n := 1060) (j := 12) d_X12_interest_52 (Nat.le_of_ble_eq_true rfl) (Nat.le_of_ble_eq_true rfl) rfl (by decide) rfl hF ?_
      refine am_seg s_M_interest_13 (y := (54, [(0, .ref 140), (1, .int a1), (2, .int a2), (3, .long a3), (5, .int a5), (6, .int a6), (7, .int a7)], [.int (a5 - (x2.2.1 141 12)), .int x2.1, .int a6], am_D x2.2)) hF t_s_M_interest_13 rfl rfl ?_
      refine am_ite h (fun hc h => ?_) (fun hc h => ?_)
      · refine am_icmp_gt_t (t := 67) d_X12_interest_54 (by decide) hc hF ?_
        refine am_seg s_M_interest_14 (y := (24, [(7, .int (a7 + (nI 1))), (6, .int (a6 + (nI 0))), (0, .ref 140), (1, .int a1), (2, .int a2), (3, .long a3), (5, .int a5)], [], am_D x2.2)) hF t_s_M_interest_14 rfl rfl ?_
        refine am_pick [2, 3, 4, 5, 6, 1, 0] rfl ?_
        exact ih _ _ _ _ _ _ _ h
      · refine am_icmp_gt_f (t := 67) d_X12_interest_54 (by decide) hc hF ?_
        refine am_seg s_M_interest_15 (y := (63, [(0, .ref 140), (1, .int a1), (2, .int a2), (3, .long a3), (5, .int a5), (6, .int a6), (7, .int a7)], [.int a7, .ref 148, .int a6], am_D x2.2)) hF t_s_M_interest_15 rfl rfl ?_
        refine am_gd h (fun hi h => ?_)
        refine am_iald (n := 20) (j := (a7.toNatClampNeg)) d_X12_interest_63 (Nat.le_of_ble_eq_true rfl) (Nat.le_of_ble_eq_true rfl) rfl hi rfl hF ?_
        refine am_seg s_M_interest_16 (y := (24, [(7, .int (a7 + (nI 1))), (6, .int (a6 + (x2.2.1 148 (a7.toNatClampNeg)))), (0, .ref 140), (1, .int a1), (2, .int a2), (3, .long a3), (5, .int a5)], [], am_D x2.2)) hF t_s_M_interest_16 rfl rfl ?_
        refine am_pick [2, 3, 4, 5, 6, 1, 0] rfl ?_
        exact ih _ _ _ _ _ _ _ h
def M_interest_5 : Nat → am_T → Int32 → Int32 → Int64 → Int32 → Option (Int32 × am_T)
  | 0, _, _, _, _, _ => none
  | n + 1, τ, a1, a2, a3, a5 =>
    if a2 ≤ a5 then
  (some ((Int64.toInt32 ((a3 * (Int32.toInt64 (τ.1 141 13))) / (lN 100000))), τ))
else
  ((M_paid τ a1 a5).bind (fun x1 =>
  M_interest_24 (M_interest_5 n) 5000 x1.2 a1 a2 a3 a5 (-x1.1) (nI 0)))
set_option maxRecDepth 20000 in
theorem ok_M_interest_5 {X : am_X} {v : Int32} {τ' : am_T} (hF : am_F X "ShareHouseModel" cX12_interest 8) (hR : am_R X 1 24) (hB : am_B X (some .int) (some (.int v)) (am_D τ')) : ∀ (n : Nat) (τ : am_T) (a1 : Int32) (a2 : Int32) (a3 : Int64) (a5 : Int32), M_interest_5 n τ a1 a2 a3 a5 = some (v, τ') → am_W X 8 (5, [(0, .ref 140), (1, .int a1), (2, .int a2), (3, .long a3), (5, .int a5)], [], am_D τ) := by
  intro n
  induction n with
  | zero => intro τ a1 a2 a3 a5 h; unfold M_interest_5 at h; cases h
  | succ n ih =>
    intro τ a1 a2 a3 a5 h
    unfold M_interest_5 at h
    refine am_seg s_M_interest_1 (y := (8, [(0, .ref 140), (1, .int a1), (2, .int a2), (3, .long a3), (5, .int a5)], [.int a2, .int a5], am_D τ)) hF t_s_M_interest_1 rfl rfl ?_
    refine am_ite h (fun hc h => ?_) (fun hc h => ?_)
    · refine am_icmp_ge_t (t := 98) d_X12_interest_8 (by decide) hc hF ?_
      refine am_seg s_M_interest_2 (y := (105, [(0, .ref 140), (1, .int a1), (2, .int a2), (3, .long a3), (5, .int a5)], [.int (nI 13), .ref 141, .long a3], am_D τ)) hF t_s_M_interest_2 rfl rfl ?_
      refine am_iald (n := 1060) (j := 13) d_X12_interest_105 (Nat.le_of_ble_eq_true rfl) (Nat.le_of_ble_eq_true rfl) rfl (by decide) rfl hF ?_
      refine am_seg s_M_interest_3 (y := (111, [(0, .ref 140), (1, .int a1), (2, .int a2), (3, .long a3), (5, .int a5)], [.long (lN 100000), .long (a3 * (Int32.toInt64 (τ.1 141 13)))], am_D τ)) hF t_s_M_interest_3 rfl rfl ?_
      refine am_ldiv d_X12_interest_111 (by decide) hF ?_
      refine am_seg s_M_interest_4 (y := (113, [(0, .ref 140), (1, .int a1), (2, .int a2), (3, .long a3), (5, .int a5)], [.int (Int64.toInt32 ((a3 * (Int32.toInt64 (τ.1 141 13))) / (lN 100000)))], am_D τ)) hF t_s_M_interest_4 rfl rfl ?_
      obtain ⟨rfl, rfl⟩ := am_pair h
      exact am_iret d_X12_interest_113 hF hB
    · refine am_icmp_ge_f (t := 98) d_X12_interest_8 (by decide) hc hF ?_
      refine am_seg s_M_interest_5 (y := (15, [(0, .ref 140), (1, .int a1), (2, .int a2), (3, .long a3), (5, .int a5)], [.int a5, .int a1, .ref 140], am_D τ)) hF t_s_M_interest_5 rfl rfl ?_
      refine am_bd h (fun x1 hx h => ?_)
      refine am_callV (As := [.int a1, .int a5]) (r := (some (.int x1.1))) (st := []) (σ' := am_D x1.2) (ci := 12) hF hR d_X12_interest_15 (c_M_paid (τ' := x1.2) hx) (Nat.le_refl _) (Nat.le_refl _) wl_M_270 wi_yX12_paid we_yX12_paid wn_ShareHouseModel wc_yX12_paid (Nat.le_of_ble_eq_true rfl) (Nat.le_of_ble_eq_true rfl) rfl rfl wy_yX12_paid rfl ⟨by decide, by decide⟩ (Nat.le_of_ble_eq_true rfl) ?_
      refine am_seg s_M_interest_6 (y := (24, [(7, .int (nI 0)), (6, .int (-x1.1)), (0, .ref 140), (1, .int a1), (2, .int a2), (3, .long a3), (5, .int a5)], [], am_D x1.2)) hF t_s_M_interest_6 rfl rfl ?_
      refine am_pick [2, 3, 4, 5, 6, 1, 0] rfl ?_
      exact ok_M_interest_24 hF hR hB ih _ _ _ _ _ _ _ _ h
def M_interest (τ : am_T) (a1 : Int32) (a2 : Int32) : Option (Int32 × am_T) :=
  M_interest_5 5000 τ a1 a2 (lN 0) (nI 0)
set_option maxRecDepth 20000 in
theorem ok_M_interest {X : am_X} {a1 : Int32} {a2 : Int32} {v : Int32} {τ τ' : am_T} (hF : am_F X "ShareHouseModel" cX12_interest 8) (hR : am_R X 1 24) (hB : am_B X (some .int) (some (.int v)) (am_D τ')) (h : M_interest τ a1 a2 = some (v, τ')) : am_W X 8 (0, [(0, .ref 140), (1, .int a1), (2, .int a2)], [], am_D τ) := by
  unfold M_interest at h
  refine am_seg s_M_interest_0 (y := (5, [(5, .int (nI 0)), (3, .long (lN 0)), (0, .ref 140), (1, .int a1), (2, .int a2)], [], am_D τ)) hF t_s_M_interest_0 rfl rfl ?_
  refine am_pick [2, 3, 4, 1, 0] rfl ?_
  exact ok_M_interest_5 hF hR hB _ _ _ _ _ _ h
theorem c_M_interest {a1 : Int32} {a2 : Int32} {v : Int32} {τ τ' : am_T} (h : M_interest τ a1 a2 = some (v, τ')) : am_C yX12_interest cX12_interest 8 (some .int) 1 24 [.ref 140, .int a1, .int a2] (am_D τ) (some (.int v)) (am_D τ') :=
  am_enter (by decide +kernel) (Nat.le_of_ble_eq_true rfl) ⟨Nat.le_refl _, Nat.le_refl _⟩ (fun X hF hR hB => ok_M_interest hF hR hB h)
def s_M_account_0 : List am_Q := [(0, .iload_n 1, 0, 0, 0, .null)]
theorem t_s_M_account_0 : s_M_account_0.all (am_ok 12 cX12_account) = true := by decide +kernel
theorem d_X12_account_1 : decode cX12_account 1 = .ok (.invokestatic 264, 3) := by decide +kernel
theorem d_X12_account_4 : decode cX12_account 4 = .ok (.ifCond .eq 20, 3) := by decide +kernel
def s_M_account_1 : List am_Q := [(24, .ldc_w 263, 0, 0, 32, .int (-1000000000 : Int32))]
theorem t_s_M_account_1 : s_M_account_1.all (am_ok 12 cX12_account) = true := by decide +kernel
theorem d_X12_account_27 : decode cX12_account 27 = .ok (.ireturn, 1) := by decide +kernel
def s_M_account_2 : List am_Q := [(7, .aload_n 0, 0, 0, 0, .null), (8, .iload_n 2, 0, 0, 0, .null)]
theorem t_s_M_account_2 : s_M_account_2.all (am_ok 12 cX12_account) = true := by decide +kernel
theorem d_X12_account_9 : decode cX12_account 9 = .ok (.invokevirtual 226, 3) := by decide +kernel
theorem d_X12_account_12 : decode cX12_account 12 = .ok (.ifCond .eq 12, 3) := by decide +kernel
def s_M_account_3 : List am_Q := [(24, .ldc_w 263, 0, 0, 32, .int (-1000000000 : Int32))]
theorem t_s_M_account_3 : s_M_account_3.all (am_ok 12 cX12_account) = true := by decide +kernel
def s_M_account_4 : List am_Q := [(15, .iload_n 3, 0, 0, 0, .null), (16, .iconst 0, 0, 0, 0, .int (nI 0)), (17, .iconst 3, 0, 0, 0, .int (nI 3))]
theorem t_s_M_account_4 : s_M_account_4.all (am_ok 12 cX12_account) = true := by decide +kernel
theorem d_X12_account_18 : decode cX12_account 18 = .ok (.invokestatic 51, 3) := by decide +kernel
theorem d_X12_account_21 : decode cX12_account 21 = .ok (.ifCond .ne 7, 3) := by decide +kernel
def s_M_account_5 : List am_Q := [(28, .aload_n 0, 0, 0, 0, .null), (29, .iload_n 1, 0, 0, 0, .null), (30, .iload_n 2, 0, 0, 0, .null)]
theorem t_s_M_account_5 : s_M_account_5.all (am_ok 12 cX12_account) = true := by decide +kernel
theorem d_X12_account_31 : decode cX12_account 31 = .ok (.invokevirtual 275, 3) := by decide +kernel
def s_M_account_6 : List am_Q := [(34, .istore 4, 0, 0, 0, .null), (36, .iload_n 3, 0, 0, 0, .null)]
theorem t_s_M_account_6 : s_M_account_6.all (am_ok 12 cX12_account) = true := by decide +kernel
theorem d_X12_account_37 : decode cX12_account 37 = .ok (.tableswitch 47 0 2 #[27, 30, 37], 27) := by decide +kernel
def s_M_account_7 : List am_Q := [(84, .aload_n 0, 0, 0, 0, .null), (85, .iload_n 1, 0, 0, 0, .null), (86, .iload_n 2, 0, 0, 0, .null)]
theorem t_s_M_account_7 : s_M_account_7.all (am_ok 12 cX12_account) = true := by decide +kernel
theorem d_X12_account_87 : decode cX12_account 87 = .ok (.invokevirtual 278, 3) := by decide +kernel
theorem d_X12_account_90 : decode cX12_account 90 = .ok (.ireturn, 1) := by decide +kernel
def s_M_account_8 : List am_Q := [(64, .iload 4, 0, 0, 0, .null)]
theorem t_s_M_account_8 : s_M_account_8.all (am_ok 12 cX12_account) = true := by decide +kernel
theorem d_X12_account_66 : decode cX12_account 66 = .ok (.ireturn, 1) := by decide +kernel
def s_M_account_9 : List am_Q := [(67, .aload_n 0, 0, 0, 0, .null), (68, .iload_n 1, 0, 0, 0, .null), (69, .iload_n 2, 0, 0, 0, .null)]
theorem t_s_M_account_9 : s_M_account_9.all (am_ok 12 cX12_account) = true := by decide +kernel
theorem d_X12_account_70 : decode cX12_account 70 = .ok (.invokevirtual 270, 3) := by decide +kernel
theorem d_X12_account_73 : decode cX12_account 73 = .ok (.ireturn, 1) := by decide +kernel
def s_M_account_10 : List am_Q := [(74, .iload 4, 0, 0, 0, .null), (76, .aload_n 0, 0, 0, 0, .null), (77, .iload_n 1, 0, 0, 0, .null), (78, .iload_n 2, 0, 0, 0, .null)]
theorem t_s_M_account_10 : s_M_account_10.all (am_ok 12 cX12_account) = true := by decide +kernel
theorem d_X12_account_79 : decode cX12_account 79 = .ok (.invokevirtual 270, 3) := by decide +kernel
def s_M_account_11 : List am_Q := [(82, .isub, 0, 0, 0, .null)]
theorem t_s_M_account_11 : s_M_account_11.all (am_ok 12 cX12_account) = true := by decide +kernel
theorem d_X12_account_83 : decode cX12_account 83 = .ok (.ireturn, 1) := by decide +kernel
def s_M_account_12 : List am_Q := [(24, .ldc_w 263, 0, 0, 32, .int (-1000000000 : Int32))]
theorem t_s_M_account_12 : s_M_account_12.all (am_ok 12 cX12_account) = true := by decide +kernel
def M_account (τ : am_T) (a1 : Int32) (a2 : Int32) (a3 : Int32) : Option (Int32 × am_T) :=
  (M_isOwner τ a1).bind (fun x1 =>
  if x1.1 = 0 then
  (some ((-1000000000 : Int32), x1.2))
else
  ((M_isKnownDay x1.2 a2).bind (fun x2 =>
  if x2.1 = 0 then
  (some ((-1000000000 : Int32), x2.2))
else
  ((M_in x2.2 a3 (nI 0) (nI 3)).bind (fun x3 =>
  if x3.1 = 0 then
  (some ((-1000000000 : Int32), x3.2))
else
  ((M_findBill x3.2 a1 a2).bind (fun x4 =>
  if (a3 : Int32).toInt < 0 ∨ 2 < (a3 : Int32).toInt then
  ((M_interest x4.2 a1 a2).bind (fun x5 =>
  some (x5.1, x5.2)))
else
  (if a3 = nI 0 then
  (some (x4.1, x4.2))
else
  (if a3 = nI 1 then
  ((M_paid x4.2 a1 a2).bind (fun x6 =>
  some (x6.1, x6.2)))
else
  (if a3 = nI 2 then
  ((M_paid x4.2 a1 a2).bind (fun x7 =>
  some ((x4.1 - x7.1), x7.2)))
else
  (none)))))))))))
set_option maxRecDepth 20000 in
theorem ok_M_account {X : am_X} {a1 : Int32} {a2 : Int32} {a3 : Int32} {v : Int32} {τ τ' : am_T} (hF : am_F X "ShareHouseModel" cX12_account 5) (hR : am_R X 6 146) (hB : am_B X (some .int) (some (.int v)) (am_D τ')) (h : M_account τ a1 a2 a3 = some (v, τ')) : am_W X 5 (0, [(0, .ref 140), (1, .int a1), (2, .int a2), (3, .int a3)], [], am_D τ) := by
  unfold M_account at h
  refine am_seg s_M_account_0 (y := (1, [(0, .ref 140), (1, .int a1), (2, .int a2), (3, .int a3)], [.int a1], am_D τ)) hF t_s_M_account_0 rfl rfl ?_
  refine am_bd h (fun x1 hx h => ?_)
  refine am_callS (As := [.int a1]) (r := (some (.int x1.1))) (st := []) (σ' := am_D x1.2) hF hR d_X12_account_1 (c_M_isOwner (τ' := x1.2) hx) (Nat.le_refl _) (Nat.le_refl _) wl_M_264 ws_yX12_isOwner wn_ShareHouseModel wc_yX12_isOwner wy_yX12_isOwner rfl ⟨by decide, by decide⟩ (Nat.le_of_ble_eq_true rfl) ?_
  refine am_ite h (fun hc h => ?_) (fun hc h => ?_)
  · refine am_if_eq_t (t := 24) d_X12_account_4 (by decide) hc hF ?_
    refine am_seg s_M_account_1 (y := (27, [(0, .ref 140), (1, .int a1), (2, .int a2), (3, .int a3)], [.int (-1000000000 : Int32)], am_D x1.2)) hF t_s_M_account_1 rfl rfl ?_
    obtain ⟨rfl, rfl⟩ := am_pair h
    exact am_iret d_X12_account_27 hF hB
  · refine am_if_eq_f (t := 24) d_X12_account_4 (by decide) hc hF ?_
    refine am_seg s_M_account_2 (y := (9, [(0, .ref 140), (1, .int a1), (2, .int a2), (3, .int a3)], [.int a2, .ref 140], am_D x1.2)) hF t_s_M_account_2 rfl rfl ?_
    refine am_bd h (fun x2 hx h => ?_)
    refine am_callV (As := [.int a2]) (r := (some (.int x2.1))) (st := []) (σ' := am_D x2.2) (ci := 12) hF hR d_X12_account_9 (c_M_isKnownDay (τ' := x2.2) hx) (Nat.le_refl _) (Nat.le_refl _) wl_M_226 wi_yX12_isKnownDay we_yX12_isKnownDay wn_ShareHouseModel wc_yX12_isKnownDay (Nat.le_of_ble_eq_true rfl) (Nat.le_of_ble_eq_true rfl) rfl rfl wy_yX12_isKnownDay rfl ⟨by decide, by decide⟩ (Nat.le_of_ble_eq_true rfl) ?_
    refine am_ite h (fun hc h => ?_) (fun hc h => ?_)
    · refine am_if_eq_t (t := 24) d_X12_account_12 (by decide) hc hF ?_
      refine am_seg s_M_account_3 (y := (27, [(0, .ref 140), (1, .int a1), (2, .int a2), (3, .int a3)], [.int (-1000000000 : Int32)], am_D x2.2)) hF t_s_M_account_3 rfl rfl ?_
      obtain ⟨rfl, rfl⟩ := am_pair h
      exact am_iret d_X12_account_27 hF hB
    · refine am_if_eq_f (t := 24) d_X12_account_12 (by decide) hc hF ?_
      refine am_seg s_M_account_4 (y := (18, [(0, .ref 140), (1, .int a1), (2, .int a2), (3, .int a3)], [.int (nI 3), .int (nI 0), .int a3], am_D x2.2)) hF t_s_M_account_4 rfl rfl ?_
      refine am_bd h (fun x3 hx h => ?_)
      refine am_callS (As := [.int a3, .int (nI 0), .int (nI 3)]) (r := (some (.int x3.1))) (st := []) (σ' := am_D x3.2) hF hR d_X12_account_18 (c_M_in (τ' := x3.2) hx) (Nat.le_refl _) (Nat.le_refl _) wl_M_51 ws_yX12_in wn_ShareHouseModel wc_yX12_in wy_yX12_in rfl ⟨by decide, by decide⟩ (Nat.le_of_ble_eq_true rfl) ?_
      refine am_ite h (fun hc h => ?_) (fun hc h => ?_)
      · refine am_if_ne_f (t := 28) d_X12_account_21 (by decide) hc hF ?_
        refine am_seg s_M_account_12 (y := (27, [(0, .ref 140), (1, .int a1), (2, .int a2), (3, .int a3)], [.int (-1000000000 : Int32)], am_D x3.2)) hF t_s_M_account_12 rfl rfl ?_
        obtain ⟨rfl, rfl⟩ := am_pair h
        exact am_iret d_X12_account_27 hF hB
      · refine am_if_ne_t (t := 28) d_X12_account_21 (by decide) hc hF ?_
        refine am_seg s_M_account_5 (y := (31, [(0, .ref 140), (1, .int a1), (2, .int a2), (3, .int a3)], [.int a2, .int a1, .ref 140], am_D x3.2)) hF t_s_M_account_5 rfl rfl ?_
        refine am_bd h (fun x4 hx h => ?_)
        refine am_callV (As := [.int a1, .int a2]) (r := (some (.int x4.1))) (st := []) (σ' := am_D x4.2) (ci := 12) hF hR d_X12_account_31 (c_M_findBill (τ' := x4.2) hx) (Nat.le_refl _) (Nat.le_refl _) wl_M_275 wi_yX12_findBill we_yX12_findBill wn_ShareHouseModel wc_yX12_findBill (Nat.le_of_ble_eq_true rfl) (Nat.le_of_ble_eq_true rfl) rfl rfl wy_yX12_findBill rfl ⟨by decide, by decide⟩ (Nat.le_of_ble_eq_true rfl) ?_
        refine am_seg s_M_account_6 (y := (37, [(4, .int x4.1), (0, .ref 140), (1, .int a1), (2, .int a2), (3, .int a3)], [.int a3], am_D x4.2)) hF t_s_M_account_6 rfl rfl ?_
        refine am_ite h (fun hc h => ?_) (fun hc h => ?_)
        · refine am_tswOut (t := 84) d_X12_account_37 hc (by decide) hF ?_
          refine am_seg s_M_account_7 (y := (87, [(4, .int x4.1), (0, .ref 140), (1, .int a1), (2, .int a2), (3, .int a3)], [.int a2, .int a1, .ref 140], am_D x4.2)) hF t_s_M_account_7 rfl rfl ?_
          refine am_bd h (fun x5 hx h => ?_)
          refine am_callV (As := [.int a1, .int a2]) (r := (some (.int x5.1))) (st := []) (σ' := am_D x5.2) (ci := 12) hF hR d_X12_account_87 (c_M_interest (τ' := x5.2) hx) (Nat.le_refl _) (Nat.le_refl _) wl_M_278 wi_yX12_interest we_yX12_interest wn_ShareHouseModel wc_yX12_interest (Nat.le_of_ble_eq_true rfl) (Nat.le_of_ble_eq_true rfl) rfl rfl wy_yX12_interest rfl ⟨by decide, by decide⟩ (Nat.le_of_ble_eq_true rfl) ?_
          obtain ⟨rfl, rfl⟩ := am_pair h
          exact am_iret d_X12_account_90 hF hB
        · refine am_ite h (fun hc h => ?_) (fun hc h => ?_)
          · refine am_tswIn (y := nI 0) (o := 27) (t := 64) d_X12_account_37 hc (by decide) (by decide) rfl (by decide) hF ?_
            refine am_seg s_M_account_8 (y := (66, [(4, .int x4.1), (0, .ref 140), (1, .int a1), (2, .int a2), (3, .int a3)], [.int x4.1], am_D x4.2)) hF t_s_M_account_8 rfl rfl ?_
            obtain ⟨rfl, rfl⟩ := am_pair h
            exact am_iret d_X12_account_66 hF hB
          · refine am_ite h (fun hc h => ?_) (fun hc h => ?_)
            · refine am_tswIn (y := nI 1) (o := 30) (t := 67) d_X12_account_37 hc (by decide) (by decide) rfl (by decide) hF ?_
              refine am_seg s_M_account_9 (y := (70, [(4, .int x4.1), (0, .ref 140), (1, .int a1), (2, .int a2), (3, .int a3)], [.int a2, .int a1, .ref 140], am_D x4.2)) hF t_s_M_account_9 rfl rfl ?_
              refine am_bd h (fun x6 hx h => ?_)
              refine am_callV (As := [.int a1, .int a2]) (r := (some (.int x6.1))) (st := []) (σ' := am_D x6.2) (ci := 12) hF hR d_X12_account_70 (c_M_paid (τ' := x6.2) hx) (Nat.le_refl _) (Nat.le_refl _) wl_M_270 wi_yX12_paid we_yX12_paid wn_ShareHouseModel wc_yX12_paid (Nat.le_of_ble_eq_true rfl) (Nat.le_of_ble_eq_true rfl) rfl rfl wy_yX12_paid rfl ⟨by decide, by decide⟩ (Nat.le_of_ble_eq_true rfl) ?_
              obtain ⟨rfl, rfl⟩ := am_pair h
              exact am_iret d_X12_account_73 hF hB
            · refine am_ite h (fun hc h => ?_) (fun hc h => ?_)
              · refine am_tswIn (y := nI 2) (o := 37) (t := 74) d_X12_account_37 hc (by decide) (by decide) rfl (by decide) hF ?_
                refine am_seg s_M_account_10 (y := (79, [(4, .int x4.1), (0, .ref 140), (1, .int a1), (2, .int a2), (3, .int a3)], [.int a2, .int a1, .ref 140, .int x4.1], am_D x4.2)) hF t_s_M_account_10 rfl rfl ?_
                refine am_bd h (fun x7 hx h => ?_)
                refine am_callV (As := [.int a1, .int a2]) (r := (some (.int x7.1))) (st := [.int x4.1]) (σ' := am_D x7.2) (ci := 12) hF hR d_X12_account_79 (c_M_paid (τ' := x7.2) hx) (Nat.le_refl _) (Nat.le_refl _) wl_M_270 wi_yX12_paid we_yX12_paid wn_ShareHouseModel wc_yX12_paid (Nat.le_of_ble_eq_true rfl) (Nat.le_of_ble_eq_true rfl) rfl rfl wy_yX12_paid rfl ⟨by decide, by decide⟩ (Nat.le_of_ble_eq_true rfl) ?_
                refine am_seg s_M_account_11 (y := (83, [(4, .int x4.1), (0, .ref 140), (1, .int a1), (2, .int a2), (3, .int a3)], [.int (x4.1 - x7.1)], am_D x7.2)) hF t_s_M_account_11 rfl rfl ?_
                obtain ⟨rfl, rfl⟩ := am_pair h
                exact am_iret d_X12_account_83 hF hB
              · cases h
theorem c_M_account {a1 : Int32} {a2 : Int32} {a3 : Int32} {v : Int32} {τ τ' : am_T} (h : M_account τ a1 a2 a3 = some (v, τ')) : am_C yX12_account cX12_account 5 (some .int) 6 146 [.ref 140, .int a1, .int a2, .int a3] (am_D τ) (some (.int v)) (am_D τ') :=
  am_enter (by decide +kernel) (Nat.le_of_ble_eq_true rfl) ⟨Nat.le_refl _, Nat.le_refl _⟩ (fun X hF hR hB => ok_M_account hF hR hB h)

def s_M_cost_0 : List am_Q := [(0, .iload_n 1, 0, 0, 0, .null)]
theorem t_s_M_cost_0 : s_M_cost_0.all (am_ok 12 cX12_cost) = true := by decide +kernel
theorem d_X12_cost_1 : decode cX12_cost 1 = .ok (.invokestatic 203, 3) := by decide +kernel
theorem d_X12_cost_4 : decode cX12_cost 4 = .ok (.ifCond .eq 21, 3) := by decide +kernel
def s_M_cost_1 : List am_Q := [(25, .iconst (-1), 0, 0, 0, .int (-1 : Int32))]
theorem t_s_M_cost_1 : s_M_cost_1.all (am_ok 12 cX12_cost) = true := by decide +kernel
theorem d_X12_cost_26 : decode cX12_cost 26 = .ok (.ireturn, 1) := by decide +kernel
def s_M_cost_2 : List am_Q := [(7, .aload_n 0, 0, 0, 0, .null), (8, .iload_n 2, 0, 0, 0, .null)]
theorem t_s_M_cost_2 : s_M_cost_2.all (am_ok 12 cX12_cost) = true := by decide +kernel
theorem d_X12_cost_9 : decode cX12_cost 9 = .ok (.invokevirtual 226, 3) := by decide +kernel
theorem d_X12_cost_12 : decode cX12_cost 12 = .ok (.ifCond .eq 13, 3) := by decide +kernel
def s_M_cost_3 : List am_Q := [(25, .iconst (-1), 0, 0, 0, .int (-1 : Int32))]
theorem t_s_M_cost_3 : s_M_cost_3.all (am_ok 12 cX12_cost) = true := by decide +kernel
def s_M_cost_4 : List am_Q := [(15, .iload_n 3, 0, 0, 0, .null), (16, .iconst 0, 0, 0, 0, .int (0 : Int32)), (17, .ldc 222, 0, 0, 30, .int (99999 : Int32))]
theorem t_s_M_cost_4 : s_M_cost_4.all (am_ok 12 cX12_cost) = true := by decide +kernel
theorem d_X12_cost_19 : decode cX12_cost 19 = .ok (.invokestatic 51, 3) := by decide +kernel
theorem d_X12_cost_22 : decode cX12_cost 22 = .ok (.ifCond .ne 5, 3) := by decide +kernel
def s_M_cost_5 : List am_Q := [(27, .aload_n 0, 0, 0, 0, .null), (28, .getfield 7, 12, 0, 152, .null), (31, .iconst 2, 0, 0, 0, .int (2 : Int32))]
theorem t_s_M_cost_5 : s_M_cost_5.all (am_ok 12 cX12_cost) = true := by decide +kernel
theorem d_X12_cost_32 : decode cX12_cost 32 = .ok (.iaload, 1) := by decide +kernel
def s_M_cost_6 : List am_Q := [(33, .bipush 20, 0, 0, 0, .int (20 : Int32))]
theorem t_s_M_cost_6 : s_M_cost_6.all (am_ok 12 cX12_cost) = true := by decide +kernel
theorem d_X12_cost_35 : decode cX12_cost 35 = .ok (.if_icmp .ne 8, 3) := by decide +kernel
def s_M_cost_7 : List am_Q := [(43, .aload_n 0, 0, 0, 0, .null), (44, .iload_n 1, 0, 0, 0, .null), (45, .iload_n 2, 0, 0, 0, .null), (46, .iload_n 3, 0, 0, 0, .null), (47, .iconst 0, 0, 0, 0, .int (0 : Int32))]
theorem t_s_M_cost_7 : s_M_cost_7.all (am_ok 12 cX12_cost) = true := by decide +kernel
theorem d_X12_cost_48 : decode cX12_cost 48 = .ok (.invokevirtual 229, 3) := by decide +kernel
theorem d_X12_cost_51 : decode cX12_cost 51 = .ok (.ireturn, 1) := by decide +kernel
def s_M_cost_8 : List am_Q := [(38, .bipush (-2), 0, 0, 0, .int (-2 : Int32)), (40, .goto 11, 51, 0, 0, .null)]
theorem t_s_M_cost_8 : s_M_cost_8.all (am_ok 12 cX12_cost) = true := by decide +kernel
def s_M_cost_9 : List am_Q := [(25, .iconst (-1), 0, 0, 0, .int (-1 : Int32))]
theorem t_s_M_cost_9 : s_M_cost_9.all (am_ok 12 cX12_cost) = true := by decide +kernel
def M_cost (τ : am_T) (a1 : Int32) (a2 : Int32) (a3 : Int32) : Option (Int32 × am_T) :=
  (M_isHead τ a1).bind (fun x1 =>
  if x1.1 = 0 then
  (some ((-1 : Int32), x1.2))
else
  ((M_isKnownDay x1.2 a2).bind (fun x2 =>
  if x2.1 = 0 then
  (some ((-1 : Int32), x2.2))
else
  ((M_in x2.2 a3 (0 : Int32) (99999 : Int32)).bind (fun x3 =>
  if x3.1 = 0 then
  (some ((-1 : Int32), x3.2))
else
  (if (x3.2.1 141 2) = (20 : Int32) then
  (some ((-2 : Int32), x3.2))
else
  ((M_addCost x3.2 a1 a2 a3 (0 : Int32)).bind (fun x4 =>
  some (x4.1, x4.2)))))))))
set_option maxRecDepth 20000 in
theorem ok_M_cost {X : am_X} {a1 : Int32} {a2 : Int32} {a3 : Int32} {v : Int32} {τ τ' : am_T} (hF : am_F X "ShareHouseModel" cX12_cost 4) (hR : am_R X 2 43) (hB : am_B X (some .int) (some (.int v)) (am_D τ')) (h : M_cost τ a1 a2 a3 = some (v, τ')) : am_W X 4 (0, [(0, .ref 140), (1, .int a1), (2, .int a2), (3, .int a3)], [], am_D τ) := by
  unfold M_cost at h
  refine am_seg s_M_cost_0 (y := (1, [(0, .ref 140), (1, .int a1), (2, .int a2), (3, .int a3)], [.int a1], am_D τ)) hF t_s_M_cost_0 rfl rfl ?_
  refine am_bd h (fun x1 hx h => ?_)
  refine am_callS (As := [.int a1]) (r := (some (.int x1.1))) (st := []) (σ' := am_D x1.2) hF hR d_X12_cost_1 (c_M_isHead (τ' := x1.2) hx) (Nat.le_refl _) (Nat.le_refl _) wl_M_203 ws_yX12_isHead wn_ShareHouseModel wc_yX12_isHead wy_yX12_isHead rfl ⟨by decide, by decide⟩ (Nat.le_of_ble_eq_true rfl) ?_
  refine am_ite h (fun hc h => ?_) (fun hc h => ?_)
  · refine am_if_eq_t (t := 25) d_X12_cost_4 (by decide) hc hF ?_
    refine am_seg s_M_cost_1 (y := (26, [(0, .ref 140), (1, .int a1), (2, .int a2), (3, .int a3)], [.int (-1 : Int32)], am_D x1.2)) hF t_s_M_cost_1 rfl rfl ?_
    obtain ⟨rfl, rfl⟩ := am_pair h
    exact am_iret d_X12_cost_26 hF hB
  · refine am_if_eq_f (t := 25) d_X12_cost_4 (by decide) hc hF ?_
    refine am_seg s_M_cost_2 (y := (9, [(0, .ref 140), (1, .int a1), (2, .int a2), (3, .int a3)], [.int a2, .ref 140], am_D x1.2)) hF t_s_M_cost_2 rfl rfl ?_
    refine am_bd h (fun x2 hx h => ?_)
    refine am_callV (As := [.int a2]) (r := (some (.int x2.1))) (st := []) (σ' := am_D x2.2) (ci := 12) hF hR d_X12_cost_9 (c_M_isKnownDay (τ' := x2.2) hx) (Nat.le_refl _) (Nat.le_refl _) wl_M_226 wi_yX12_isKnownDay we_yX12_isKnownDay wn_ShareHouseModel wc_yX12_isKnownDay (Nat.le_of_ble_eq_true rfl) (Nat.le_of_ble_eq_true rfl) rfl rfl wy_yX12_isKnownDay rfl ⟨by decide, by decide⟩ (Nat.le_of_ble_eq_true rfl) ?_
    refine am_ite h (fun hc h => ?_) (fun hc h => ?_)
    · refine am_if_eq_t (t := 25) d_X12_cost_12 (by decide) hc hF ?_
      refine am_seg s_M_cost_3 (y := (26, [(0, .ref 140), (1, .int a1), (2, .int a2), (3, .int a3)], [.int (-1 : Int32)], am_D x2.2)) hF t_s_M_cost_3 rfl rfl ?_
      obtain ⟨rfl, rfl⟩ := am_pair h
      exact am_iret d_X12_cost_26 hF hB
    · refine am_if_eq_f (t := 25) d_X12_cost_12 (by decide) hc hF ?_
      refine am_seg s_M_cost_4 (y := (19, [(0, .ref 140), (1, .int a1), (2, .int a2), (3, .int a3)], [.int (99999 : Int32), .int (0 : Int32), .int a3], am_D x2.2)) hF t_s_M_cost_4 rfl rfl ?_
      refine am_bd h (fun x3 hx h => ?_)
      refine am_callS (As := [.int a3, .int (0 : Int32), .int (99999 : Int32)]) (r := (some (.int x3.1))) (st := []) (σ' := am_D x3.2) hF hR d_X12_cost_19 (c_M_in (τ' := x3.2) hx) (Nat.le_refl _) (Nat.le_refl _) wl_M_51 ws_yX12_in wn_ShareHouseModel wc_yX12_in wy_yX12_in rfl ⟨by decide, by decide⟩ (Nat.le_of_ble_eq_true rfl) ?_
      refine am_ite h (fun hc h => ?_) (fun hc h => ?_)
      · refine am_if_ne_f (t := 27) d_X12_cost_22 (by decide) hc hF ?_
        refine am_seg s_M_cost_9 (y := (26, [(0, .ref 140), (1, .int a1), (2, .int a2), (3, .int a3)], [.int (-1 : Int32)], am_D x3.2)) hF t_s_M_cost_9 rfl rfl ?_
        obtain ⟨rfl, rfl⟩ := am_pair h
        exact am_iret d_X12_cost_26 hF hB
      · refine am_if_ne_t (t := 27) d_X12_cost_22 (by decide) hc hF ?_
        refine am_seg s_M_cost_5 (y := (32, [(0, .ref 140), (1, .int a1), (2, .int a2), (3, .int a3)], [.int (2 : Int32), .ref 141], am_D x3.2)) hF t_s_M_cost_5 rfl rfl ?_
        refine am_iald (n := 1060) (j := 2) d_X12_cost_32 (Nat.le_of_ble_eq_true rfl) (Nat.le_of_ble_eq_true rfl) rfl (by decide) rfl hF ?_
        refine am_seg s_M_cost_6 (y := (35, [(0, .ref 140), (1, .int a1), (2, .int a2), (3, .int a3)], [.int (20 : Int32), .int (x3.2.1 141 2)], am_D x3.2)) hF t_s_M_cost_6 rfl rfl ?_
        refine am_ite h (fun hc h => ?_) (fun hc h => ?_)
        · refine am_icmp_ne_f (t := 43) d_X12_cost_35 (by decide) hc hF ?_
          refine am_seg s_M_cost_8 (y := (51, [(0, .ref 140), (1, .int a1), (2, .int a2), (3, .int a3)], [.int (-2 : Int32)], am_D x3.2)) hF t_s_M_cost_8 rfl rfl ?_
          obtain ⟨rfl, rfl⟩ := am_pair h
          exact am_iret d_X12_cost_51 hF hB
        · refine am_icmp_ne_t (t := 43) d_X12_cost_35 (by decide) hc hF ?_
          refine am_seg s_M_cost_7 (y := (48, [(0, .ref 140), (1, .int a1), (2, .int a2), (3, .int a3)], [.int (0 : Int32), .int a3, .int a2, .int a1, .ref 140], am_D x3.2)) hF t_s_M_cost_7 rfl rfl ?_
          refine am_bd h (fun x4 hx h => ?_)
          refine am_callV (As := [.int a1, .int a2, .int a3, .int (0 : Int32)]) (r := (some (.int x4.1))) (st := []) (σ' := am_D x4.2) (ci := 12) hF hR d_X12_cost_48 (c_M_addCost (τ' := x4.2) hx) (Nat.le_refl _) (Nat.le_refl _) wl_M_229 wi_yX12_addCost we_yX12_addCost wn_ShareHouseModel wc_yX12_addCost (Nat.le_of_ble_eq_true rfl) (Nat.le_of_ble_eq_true rfl) rfl rfl wy_yX12_addCost rfl ⟨by decide, by decide⟩ (Nat.le_of_ble_eq_true rfl) ?_
          obtain ⟨rfl, rfl⟩ := am_pair h
          exact am_iret d_X12_cost_51 hF hB
theorem c_M_cost {a1 : Int32} {a2 : Int32} {a3 : Int32} {v : Int32} {τ τ' : am_T} (h : M_cost τ a1 a2 a3 = some (v, τ')) : am_C yX12_cost cX12_cost 4 (some .int) 2 43 [.ref 140, .int a1, .int a2, .int a3] (am_D τ) (some (.int v)) (am_D τ') :=
  am_enter (by decide +kernel) (Nat.le_of_ble_eq_true rfl) ⟨Nat.le_refl _, Nat.le_refl _⟩ (fun X hF hR hB => ok_M_cost hF hR hB h)
def s_M_isCost_0 : List am_Q := [(0, .iload_n 1, 0, 0, 0, .null), (1, .iconst 0, 0, 0, 0, .int (0 : Int32)), (2, .aload_n 0, 0, 0, 0, .null), (3, .getfield 7, 12, 0, 152, .null), (6, .iconst 2, 0, 0, 0, .int (2 : Int32))]
theorem t_s_M_isCost_0 : s_M_isCost_0.all (am_ok 12 cX12_isCost) = true := by decide +kernel
theorem d_X12_isCost_7 : decode cX12_isCost 7 = .ok (.iaload, 1) := by decide +kernel
def s_M_isCost_1 : List am_Q := [(8, .iconst 1, 0, 0, 0, .int (1 : Int32)), (9, .isub, 0, 0, 0, .null)]
theorem t_s_M_isCost_1 : s_M_isCost_1.all (am_ok 12 cX12_isCost) = true := by decide +kernel
theorem d_X12_isCost_10 : decode cX12_isCost 10 = .ok (.invokestatic 51, 3) := by decide +kernel
theorem d_X12_isCost_13 : decode cX12_isCost 13 = .ok (.ireturn, 1) := by decide +kernel
def M_isCost (τ : am_T) (a1 : Int32) : Option (Int32 × am_T) :=
  (M_in τ a1 (0 : Int32) ((τ.1 141 2) - (1 : Int32))).bind (fun x1 =>
  am_g (am_z01 x1.1) (some (x1.1, x1.2)))
set_option maxRecDepth 20000 in
theorem ok_M_isCost {X : am_X} {a1 : Int32} {v : Int32} {τ τ' : am_T} (hF : am_F X "ShareHouseModel" cX12_isCost 2) (hR : am_R X 1 22) (hB : am_B X (some .boolean) (some (.int v)) (am_D τ')) (h : M_isCost τ a1 = some (v, τ')) : am_W X 2 (0, [(0, .ref 140), (1, .int a1)], [], am_D τ) := by
  unfold M_isCost at h
  refine am_seg s_M_isCost_0 (y := (7, [(0, .ref 140), (1, .int a1)], [.int (2 : Int32), .ref 141, .int (0 : Int32), .int a1], am_D τ)) hF t_s_M_isCost_0 rfl rfl ?_
  refine am_iald (n := 1060) (j := 2) d_X12_isCost_7 (Nat.le_of_ble_eq_true rfl) (Nat.le_of_ble_eq_true rfl) rfl (by decide) rfl hF ?_
  refine am_seg s_M_isCost_1 (y := (10, [(0, .ref 140), (1, .int a1)], [.int ((τ.1 141 2) - (1 : Int32)), .int (0 : Int32), .int a1], am_D τ)) hF t_s_M_isCost_1 rfl rfl ?_
  refine am_bd h (fun x1 hx h => ?_)
  refine am_callS (As := [.int a1, .int (0 : Int32), .int ((τ.1 141 2) - (1 : Int32))]) (r := (some (.int x1.1))) (st := []) (σ' := am_D x1.2) hF hR d_X12_isCost_10 (c_M_in (τ' := x1.2) hx) (Nat.le_refl _) (Nat.le_refl _) wl_M_51 ws_yX12_in wn_ShareHouseModel wc_yX12_in wy_yX12_in rfl ⟨by decide, by decide⟩ (Nat.le_of_ble_eq_true rfl) ?_
  refine am_gd h (fun hz h => ?_)
  obtain ⟨rfl, rfl⟩ := am_pair h
  exact am_zret d_X12_isCost_13 (am_z01_n hz) hF hB
theorem c_M_isCost {a1 : Int32} {v : Int32} {τ τ' : am_T} (h : M_isCost τ a1 = some (v, τ')) : am_C yX12_isCost cX12_isCost 2 (some .boolean) 1 22 [.ref 140, .int a1] (am_D τ) (some (.int v)) (am_D τ') :=
  am_enter (by decide +kernel) (Nat.le_of_ble_eq_true rfl) ⟨Nat.le_refl _, Nat.le_refl _⟩ (fun X hF hR hB => ok_M_isCost hF hR hB h)
def s_M_costAt_0 : List am_Q := [(0, .aload_n 0, 0, 0, 0, .null), (1, .getfield 7, 12, 0, 152, .null), (4, .sipush 630, 0, 0, 0, .int (630 : Int32)), (7, .iconst 5, 0, 0, 0, .int (5 : Int32)), (8, .iload_n 1, 0, 0, 0, .null), (9, .imul, 0, 0, 0, .null), (10, .iadd, 0, 0, 0, .null), (11, .iload_n 2, 0, 0, 0, .null), (12, .iadd, 0, 0, 0, .null)]
theorem t_s_M_costAt_0 : s_M_costAt_0.all (am_ok 12 cX12_costAt) = true := by decide +kernel
theorem d_X12_costAt_13 : decode cX12_costAt 13 = .ok (.iaload, 1) := by decide +kernel
theorem d_X12_costAt_14 : decode cX12_costAt 14 = .ok (.ireturn, 1) := by decide +kernel
def M_costAt (τ : am_T) (a1 : Int32) (a2 : Int32) : Option (Int32 × am_T) :=
  am_g (am_in (((630 : Int32) + ((5 : Int32) * a1)) + a2) 1060) (some ((τ.1 141 ((((630 : Int32) + ((5 : Int32) * a1)) + a2).toNatClampNeg)), τ))
set_option maxRecDepth 20000 in
theorem ok_M_costAt {X : am_X} {a1 : Int32} {a2 : Int32} {v : Int32} {τ τ' : am_T} (hF : am_F X "ShareHouseModel" cX12_costAt 3) (hR : am_R X 0 0) (hB : am_B X (some .int) (some (.int v)) (am_D τ')) (h : M_costAt τ a1 a2 = some (v, τ')) : am_W X 3 (0, [(0, .ref 140), (1, .int a1), (2, .int a2)], [], am_D τ) := by
  unfold M_costAt at h
  refine am_seg s_M_costAt_0 (y := (13, [(0, .ref 140), (1, .int a1), (2, .int a2)], [.int (((630 : Int32) + ((5 : Int32) * a1)) + a2), .ref 141], am_D τ)) hF t_s_M_costAt_0 rfl rfl ?_
  refine am_gd h (fun hi h => ?_)
  refine am_iald (n := 1060) (j := ((((630 : Int32) + ((5 : Int32) * a1)) + a2).toNatClampNeg)) d_X12_costAt_13 (Nat.le_of_ble_eq_true rfl) (Nat.le_of_ble_eq_true rfl) rfl hi rfl hF ?_
  obtain ⟨rfl, rfl⟩ := am_pair h
  exact am_iret d_X12_costAt_14 hF hB
theorem c_M_costAt {a1 : Int32} {a2 : Int32} {v : Int32} {τ τ' : am_T} (h : M_costAt τ a1 a2 = some (v, τ')) : am_C yX12_costAt cX12_costAt 3 (some .int) 0 0 [.ref 140, .int a1, .int a2] (am_D τ) (some (.int v)) (am_D τ') :=
  am_enter (by decide +kernel) (Nat.le_of_ble_eq_true rfl) ⟨Nat.le_refl _, Nat.le_refl _⟩ (fun X hF hR hB => ok_M_costAt hF hR hB h)
def s_M_mayRight_0 : List am_Q := [(0, .aload_n 0, 0, 0, 0, .null), (1, .getfield 7, 12, 0, 152, .null), (4, .iconst 0, 0, 0, 0, .int (0 : Int32))]
theorem t_s_M_mayRight_0 : s_M_mayRight_0.all (am_ok 12 cX12_mayRight) = true := by decide +kernel
theorem d_X12_mayRight_5 : decode cX12_mayRight 5 = .ok (.iaload, 1) := by decide +kernel
def s_M_mayRight_1 : List am_Q := [(6, .aload_n 0, 0, 0, 0, .null), (7, .iload_n 1, 0, 0, 0, .null), (8, .iconst 1, 0, 0, 0, .int (1 : Int32))]
theorem t_s_M_mayRight_1 : s_M_mayRight_1.all (am_ok 12 cX12_mayRight) = true := by decide +kernel
theorem d_X12_mayRight_9 : decode cX12_mayRight 9 = .ok (.invokevirtual 233, 3) := by decide +kernel
def s_M_mayRight_2 : List am_Q := [(12, .isub, 0, 0, 0, .null), (13, .aload_n 0, 0, 0, 0, .null), (14, .getfield 7, 12, 0, 152, .null), (17, .bipush 10, 0, 0, 0, .int (10 : Int32))]
theorem t_s_M_mayRight_2 : s_M_mayRight_2.all (am_ok 12 cX12_mayRight) = true := by decide +kernel
theorem d_X12_mayRight_19 : decode cX12_mayRight 19 = .ok (.iaload, 1) := by decide +kernel
theorem d_X12_mayRight_20 : decode cX12_mayRight 20 = .ok (.if_icmp .le 8, 3) := by decide +kernel
def s_M_mayRight_3 : List am_Q := [(28, .aload_n 0, 0, 0, 0, .null), (29, .getfield 7, 12, 0, 152, .null), (32, .iconst 3, 0, 0, 0, .int (3 : Int32))]
theorem t_s_M_mayRight_3 : s_M_mayRight_3.all (am_ok 12 cX12_mayRight) = true := by decide +kernel
theorem d_X12_mayRight_33 : decode cX12_mayRight 33 = .ok (.iaload, 1) := by decide +kernel
def s_M_mayRight_4 : List am_Q := [(34, .bipush 30, 0, 0, 0, .int (30 : Int32))]
theorem t_s_M_mayRight_4 : s_M_mayRight_4.all (am_ok 12 cX12_mayRight) = true := by decide +kernel
theorem d_X12_mayRight_36 : decode cX12_mayRight 36 = .ok (.if_icmp .ne 8, 3) := by decide +kernel
def s_M_mayRight_5 : List am_Q := [(44, .iconst 0, 0, 0, 0, .int (0 : Int32))]
theorem t_s_M_mayRight_5 : s_M_mayRight_5.all (am_ok 12 cX12_mayRight) = true := by decide +kernel
theorem d_X12_mayRight_45 : decode cX12_mayRight 45 = .ok (.ireturn, 1) := by decide +kernel
def s_M_mayRight_6 : List am_Q := [(39, .bipush (-2), 0, 0, 0, .int (-2 : Int32)), (41, .goto 4, 45, 0, 0, .null)]
theorem t_s_M_mayRight_6 : s_M_mayRight_6.all (am_ok 12 cX12_mayRight) = true := by decide +kernel
def s_M_mayRight_7 : List am_Q := [(23, .bipush (-5), 0, 0, 0, .int (-5 : Int32)), (25, .goto 20, 45, 0, 0, .null)]
theorem t_s_M_mayRight_7 : s_M_mayRight_7.all (am_ok 12 cX12_mayRight) = true := by decide +kernel
def M_mayRight (τ : am_T) (a1 : Int32) : Option (Int32 × am_T) :=
  (M_costAt τ a1 (1 : Int32)).bind (fun x1 =>
  if ((τ.1 141 0) - x1.1) ≤ (x1.2.1 141 10) then
  (if (x1.2.1 141 3) = (30 : Int32) then
  (some ((-2 : Int32), x1.2))
else
  (some ((0 : Int32), x1.2)))
else
  (some ((-5 : Int32), x1.2)))
set_option maxRecDepth 20000 in
theorem ok_M_mayRight {X : am_X} {a1 : Int32} {v : Int32} {τ τ' : am_T} (hF : am_F X "ShareHouseModel" cX12_mayRight 2) (hR : am_R X 1 22) (hB : am_B X (some .int) (some (.int v)) (am_D τ')) (h : M_mayRight τ a1 = some (v, τ')) : am_W X 2 (0, [(0, .ref 140), (1, .int a1)], [], am_D τ) := by
  unfold M_mayRight at h
  refine am_seg s_M_mayRight_0 (y := (5, [(0, .ref 140), (1, .int a1)], [.int (0 : Int32), .ref 141], am_D τ)) hF t_s_M_mayRight_0 rfl rfl ?_
  refine am_iald (n := 1060) (j := 0) d_X12_mayRight_5 (Nat.le_of_ble_eq_true rfl) (Nat.le_of_ble_eq_true rfl) rfl (by decide) rfl hF ?_
  refine am_seg s_M_mayRight_1 (y := (9, [(0, .ref 140), (1, .int a1)], [.int (1 : Int32), .int a1, .ref 140, .int (τ.1 141 0)], am_D τ)) hF t_s_M_mayRight_1 rfl rfl ?_
  refine am_bd h (fun x1 hx h => ?_)
  refine am_callV (As := [.int a1, .int (1 : Int32)]) (r := (some (.int x1.1))) (st := [.int (τ.1 141 0)]) (σ' := am_D x1.2) (ci := 12) hF hR d_X12_mayRight_9 (c_M_costAt (τ' := x1.2) hx) (Nat.le_refl _) (Nat.le_refl _) wl_M_233 wi_yX12_costAt we_yX12_costAt wn_ShareHouseModel wc_yX12_costAt (Nat.le_of_ble_eq_true rfl) (Nat.le_of_ble_eq_true rfl) rfl rfl wy_yX12_costAt rfl ⟨by decide, by decide⟩ (Nat.le_of_ble_eq_true rfl) ?_
  refine am_seg s_M_mayRight_2 (y := (19, [(0, .ref 140), (1, .int a1)], [.int (10 : Int32), .ref 141, .int ((τ.1 141 0) - x1.1)], am_D x1.2)) hF t_s_M_mayRight_2 rfl rfl ?_
  refine am_iald (n := 1060) (j := 10) d_X12_mayRight_19 (Nat.le_of_ble_eq_true rfl) (Nat.le_of_ble_eq_true rfl) rfl (by decide) rfl hF ?_
  refine am_ite h (fun hc h => ?_) (fun hc h => ?_)
  · refine am_icmp_le_t (t := 28) d_X12_mayRight_20 (by decide) hc hF ?_
    refine am_seg s_M_mayRight_3 (y := (33, [(0, .ref 140), (1, .int a1)], [.int (3 : Int32), .ref 141], am_D x1.2)) hF t_s_M_mayRight_3 rfl rfl ?_
    refine am_iald (n := 1060) (j := 3) d_X12_mayRight_33 (Nat.le_of_ble_eq_true rfl) (Nat.le_of_ble_eq_true rfl) rfl (by decide) rfl hF ?_
    refine am_seg s_M_mayRight_4 (y := (36, [(0, .ref 140), (1, .int a1)], [.int (30 : Int32), .int (x1.2.1 141 3)], am_D x1.2)) hF t_s_M_mayRight_4 rfl rfl ?_
    refine am_ite h (fun hc h => ?_) (fun hc h => ?_)
    · refine am_icmp_ne_f (t := 44) d_X12_mayRight_36 (by decide) hc hF ?_
      refine am_seg s_M_mayRight_6 (y := (45, [(0, .ref 140), (1, .int a1)], [.int (-2 : Int32)], am_D x1.2)) hF t_s_M_mayRight_6 rfl rfl ?_
      obtain ⟨rfl, rfl⟩ := am_pair h
      exact am_iret d_X12_mayRight_45 hF hB
    · refine am_icmp_ne_t (t := 44) d_X12_mayRight_36 (by decide) hc hF ?_
      refine am_seg s_M_mayRight_5 (y := (45, [(0, .ref 140), (1, .int a1)], [.int (0 : Int32)], am_D x1.2)) hF t_s_M_mayRight_5 rfl rfl ?_
      obtain ⟨rfl, rfl⟩ := am_pair h
      exact am_iret d_X12_mayRight_45 hF hB
  · refine am_icmp_le_f (t := 28) d_X12_mayRight_20 (by decide) hc hF ?_
    refine am_seg s_M_mayRight_7 (y := (45, [(0, .ref 140), (1, .int a1)], [.int (-5 : Int32)], am_D x1.2)) hF t_s_M_mayRight_7 rfl rfl ?_
    obtain ⟨rfl, rfl⟩ := am_pair h
    exact am_iret d_X12_mayRight_45 hF hB
theorem c_M_mayRight {a1 : Int32} {v : Int32} {τ τ' : am_T} (h : M_mayRight τ a1 = some (v, τ')) : am_C yX12_mayRight cX12_mayRight 2 (some .int) 1 22 [.ref 140, .int a1] (am_D τ) (some (.int v)) (am_D τ') :=
  am_enter (by decide +kernel) (Nat.le_of_ble_eq_true rfl) ⟨Nat.le_refl _, Nat.le_refl _⟩ (fun X hF hR hB => ok_M_mayRight hF hR hB h)
def s_M_pence_0 : List am_Q := [(0, .aload_n 0, 0, 0, 0, .null), (1, .iload_n 1, 0, 0, 0, .null), (2, .iconst 2, 0, 0, 0, .int (2 : Int32))]
theorem t_s_M_pence_0 : s_M_pence_0.all (am_ok 12 cX12_pence) = true := by decide +kernel
theorem d_X12_pence_3 : decode cX12_pence 3 = .ok (.invokevirtual 233, 3) := by decide +kernel
def s_M_pence_1 : List am_Q := [(6, .istore_n 3, 0, 0, 0, .null), (7, .sipush 730, 0, 0, 0, .int (730 : Int32)), (10, .istore 4, 0, 0, 0, .null)]
theorem t_s_M_pence_1 : s_M_pence_1.all (am_ok 12 cX12_pence) = true := by decide +kernel
def s_M_pence_2 : List am_Q := [(12, .iload 4, 0, 0, 0, .null), (14, .sipush 730, 0, 0, 0, .int (730 : Int32)), (17, .iconst 3, 0, 0, 0, .int (3 : Int32)), (18, .aload_n 0, 0, 0, 0, .null), (19, .getfield 7, 12, 0, 152, .null), (22, .iconst 3, 0, 0, 0, .int (3 : Int32))]
theorem t_s_M_pence_2 : s_M_pence_2.all (am_ok 12 cX12_pence) = true := by decide +kernel
theorem d_X12_pence_23 : decode cX12_pence 23 = .ok (.iaload, 1) := by decide +kernel
def s_M_pence_3 : List am_Q := [(24, .imul, 0, 0, 0, .null), (25, .iadd, 0, 0, 0, .null)]
theorem t_s_M_pence_3 : s_M_pence_3.all (am_ok 12 cX12_pence) = true := by decide +kernel
theorem d_X12_pence_26 : decode cX12_pence 26 = .ok (.if_icmp .ge 47, 3) := by decide +kernel
def s_M_pence_4 : List am_Q := [(73, .iload_n 3, 0, 0, 0, .null)]
theorem t_s_M_pence_4 : s_M_pence_4.all (am_ok 12 cX12_pence) = true := by decide +kernel
theorem d_X12_pence_74 : decode cX12_pence 74 = .ok (.ireturn, 1) := by decide +kernel
def s_M_pence_5 : List am_Q := [(29, .aload_n 0, 0, 0, 0, .null), (30, .getfield 7, 12, 0, 152, .null), (33, .iload 4, 0, 0, 0, .null)]
theorem t_s_M_pence_5 : s_M_pence_5.all (am_ok 12 cX12_pence) = true := by decide +kernel
theorem d_X12_pence_35 : decode cX12_pence 35 = .ok (.iaload, 1) := by decide +kernel
def s_M_pence_6 : List am_Q := [(36, .iload_n 1, 0, 0, 0, .null)]
theorem t_s_M_pence_6 : s_M_pence_6.all (am_ok 12 cX12_pence) = true := by decide +kernel
theorem d_X12_pence_37 : decode cX12_pence 37 = .ok (.if_icmp .ne 28, 3) := by decide +kernel
def s_M_pence_7 : List am_Q := [(65, .iload_n 3, 0, 0, 0, .null), (66, .istore_n 3, 0, 0, 0, .null), (67, .iinc 4 3, 0, 0, 0, .int (3 : Int32)), (70, .goto (-58), 12, 0, 0, .null)]
theorem t_s_M_pence_7 : s_M_pence_7.all (am_ok 12 cX12_pence) = true := by decide +kernel
def s_M_pence_8 : List am_Q := [(40, .aload_n 0, 0, 0, 0, .null), (41, .getfield 7, 12, 0, 152, .null), (44, .iload 4, 0, 0, 0, .null), (46, .iconst 2, 0, 0, 0, .int (2 : Int32)), (47, .iadd, 0, 0, 0, .null)]
theorem t_s_M_pence_8 : s_M_pence_8.all (am_ok 12 cX12_pence) = true := by decide +kernel
theorem d_X12_pence_48 : decode cX12_pence 48 = .ok (.iaload, 1) := by decide +kernel
def s_M_pence_9 : List am_Q := [(49, .iload_n 2, 0, 0, 0, .null)]
theorem t_s_M_pence_9 : s_M_pence_9.all (am_ok 12 cX12_pence) = true := by decide +kernel
theorem d_X12_pence_50 : decode cX12_pence 50 = .ok (.if_icmp .gt 15, 3) := by decide +kernel
def s_M_pence_10 : List am_Q := [(65, .iload_n 3, 0, 0, 0, .null), (66, .istore_n 3, 0, 0, 0, .null), (67, .iinc 4 3, 0, 0, 0, .int (3 : Int32)), (70, .goto (-58), 12, 0, 0, .null)]
theorem t_s_M_pence_10 : s_M_pence_10.all (am_ok 12 cX12_pence) = true := by decide +kernel
def s_M_pence_11 : List am_Q := [(53, .aload_n 0, 0, 0, 0, .null), (54, .getfield 7, 12, 0, 152, .null), (57, .iload 4, 0, 0, 0, .null), (59, .iconst 1, 0, 0, 0, .int (1 : Int32)), (60, .iadd, 0, 0, 0, .null)]
theorem t_s_M_pence_11 : s_M_pence_11.all (am_ok 12 cX12_pence) = true := by decide +kernel
theorem d_X12_pence_61 : decode cX12_pence 61 = .ok (.iaload, 1) := by decide +kernel
def s_M_pence_12 : List am_Q := [(62, .goto 4, 66, 0, 0, .null), (66, .istore_n 3, 0, 0, 0, .null), (67, .iinc 4 3, 0, 0, 0, .int (3 : Int32)), (70, .goto (-58), 12, 0, 0, .null)]
theorem t_s_M_pence_12 : s_M_pence_12.all (am_ok 12 cX12_pence) = true := by decide +kernel
def M_pence_12 : Nat → am_T → Int32 → Int32 → Int32 → Int32 → Option (Int32 × am_T)
  | 0, _, _, _, _, _ => none
  | n + 1, τ, a1, a2, a3, a4 =>
    if ((730 : Int32) + ((3 : Int32) * (τ.1 141 3))) ≤ a4 then
  (some (a3, τ))
else
  (am_g (am_in a4 1060) (if (τ.1 141 (a4.toNatClampNeg)) = a1 then
  (am_g (am_in (a4 + (2 : Int32)) 1060) (if a2 < (τ.1 141 ((a4 + (2 : Int32)).toNatClampNeg)) then
  ((M_pence_12 n) τ a1 a2 a3 (a4 + (3 : Int32)))
else
  (am_g (am_in (a4 + (1 : Int32)) 1060) ((M_pence_12 n) τ a1 a2 (τ.1 141 ((a4 + (1 : Int32)).toNatClampNeg)) (a4 + (3 : Int32))))))
else
  ((M_pence_12 n) τ a1 a2 a3 (a4 + (3 : Int32)))))
set_option maxRecDepth 20000 in
theorem ok_M_pence_12 {X : am_X} {v : Int32} {τ' : am_T} (hF : am_F X "ShareHouseModel" cX12_pence 5) (hR : am_R X 1 22) (hB : am_B X (some .int) (some (.int v)) (am_D τ')) : ∀ (n : Nat) (τ : am_T) (a1 : Int32) (a2 : Int32) (a3 : Int32) (a4 : Int32), M_pence_12 n τ a1 a2 a3 a4 = some (v, τ') → am_W X 5 (12, [(0, .ref 140), (1, .int a1), (2, .int a2), (3, .int a3), (4, .int a4)], [], am_D τ) := by
  intro n
  induction n with
  | zero => intro τ a1 a2 a3 a4 h; unfold M_pence_12 at h; cases h
  | succ n ih =>
    intro τ a1 a2 a3 a4 h
    unfold M_pence_12 at h
    refine am_seg s_M_pence_2 (y := (23, [(0, .ref 140), (1, .int a1), (2, .int a2), (3, .int a3), (4, .int a4)], [.int (3 : Int32), .ref 141, .int (3 : Int32), .int (730 : Int32), .int a4], am_D τ)) hF t_s_M_pence_2 rfl rfl ?_
    refine am_iald (n := 1060) (j := 3) d_X12_pence_23 (Nat.le_of_ble_eq_true rfl) (Nat.le_of_ble_eq_true rfl) rfl (by decide) rfl hF ?_
    refine am_seg s_M_pence_3 (y := (26, [(0, .ref 140), (1, .int a1), (2, .int a2), (3, .int a3), (4, .int a4)], [.int ((730 : Int32) + ((3 : Int32) * (τ.1 141 3))), .int a4], am_D τ)) hF t_s_M_pence_3 rfl rfl ?_
    refine am_ite h (fun hc h => ?_) (fun hc h => ?_)
    · refine am_icmp_ge_t (t := 73) d_X12_pence_26 (by decide) hc hF ?_
      refine am_seg s_M_pence_4 (y := (74, [(0, .ref 140), (1, .int a1), (2, .int a2), (3, .int a3), (4, .int a4)], [.int a3], am_D τ)) hF t_s_M_pence_4 rfl rfl ?_
      obtain ⟨rfl, rfl⟩ := am_pair h
      exact am_iret d_X12_pence_74 hF hB
    · refine am_icmp_ge_f (t := 73) d_X12_pence_26 (by decide) hc hF ?_
      refine am_seg s_M_pence_5 (y := (35, [(0, .ref 140), (1, .int a1), (2, .int a2), (3, .int a3), (4, .int a4)], [.int a4, .ref 141], am_D τ)) hF t_s_M_pence_5 rfl rfl ?_
      refine am_gd h (fun hi h => ?_)
      refine am_iald (n := 1060) (j := (a4.toNatClampNeg)) d_X12_pence_35 (Nat.le_of_ble_eq_true rfl) (Nat.le_of_ble_eq_true rfl) rfl hi rfl hF ?_
      refine am_seg s_M_pence_6 (y := (37, [(0, .ref 140), (1, .int a1), (2, .int a2), (3, .int a3), (4, .int a4)], [.int a1, .int (τ.1 141 (a4.toNatClampNeg))], am_D τ)) hF t_s_M_pence_6 rfl rfl ?_
      refine am_ite h (fun hc h => ?_) (fun hc h => ?_)
      · refine am_icmp_ne_f (t := 65) d_X12_pence_37 (by decide) hc hF ?_
        refine am_seg s_M_pence_8 (y := (48, [(0, .ref 140), (1, .int a1), (2, .int a2), (3, .int a3), (4, .int a4)], [.int (a4 + (2 : Int32)), .ref 141], am_D τ)) hF t_s_M_pence_8 rfl rfl ?_
        refine am_gd h (fun hi h => ?_)
        refine am_iald (n := 1060) (j := ((a4 + (2 : Int32)).toNatClampNeg)) d_X12_pence_48 (Nat.le_of_ble_eq_true rfl) (Nat.le_of_ble_eq_true rfl) rfl hi rfl hF ?_
        refine am_seg s_M_pence_9 (y := (50, [(0, .ref 140), (1, .int a1), (2, .int a2), (3, .int a3), (4, .int a4)], [.int a2, .int (τ.1 141 ((a4 + (2 : Int32)).toNatClampNeg))], am_D τ)) hF t_s_M_pence_9 rfl rfl ?_
        refine am_ite h (fun hc h => ?_) (fun hc h => ?_)
        · refine am_icmp_gt_t (t := 65) d_X12_pence_50 (by decide) hc hF ?_
          refine am_seg s_M_pence_10 (y := (12, [(4, .int (a4 + (3 : Int32))), (3, .int a3), (0, .ref 140), (1, .int a1), (2, .int a2)], [], am_D τ)) hF t_s_M_pence_10 rfl rfl ?_
          refine am_pick [2, 3, 4, 1, 0] rfl ?_
          exact ih _ _ _ _ _ h
        · refine am_icmp_gt_f (t := 65) d_X12_pence_50 (by decide) hc hF ?_
          refine am_seg s_M_pence_11 (y := (61, [(0, .ref 140), (1, .int a1), (2, .int a2), (3, .int a3), (4, .int a4)], [.int (a4 + (1 : Int32)), .ref 141], am_D τ)) hF t_s_M_pence_11 rfl rfl ?_
          refine am_gd h (fun hi h => ?_)
          refine am_iald (n := 1060) (j := ((a4 + (1 : Int32)).toNatClampNeg)) d_X12_pence_61 (Nat.le_of_ble_eq_true rfl) (Nat.le_of_ble_eq_true rfl) rfl hi rfl hF ?_
          refine am_seg s_M_pence_12 (y := (12, [(4, .int (a4 + (3 : Int32))), (3, .int (τ.1 141 ((a4 + (1 : Int32)).toNatClampNeg))), (0, .ref 140), (1, .int a1), (2, .int a2)], [], am_D τ)) hF t_s_M_pence_12 rfl rfl ?_
          refine am_pick [2, 3, 4, 1, 0] rfl ?_
          exact ih _ _ _ _ _ h
      · refine am_icmp_ne_t (t := 65) d_X12_pence_37 (by decide) hc hF ?_
        refine am_seg s_M_pence_7 (y := (12, [(4, .int (a4 + (3 : Int32))), (3, .int a3), (0, .ref 140), (1, .int a1), (2, .int a2)], [], am_D τ)) hF t_s_M_pence_7 rfl rfl ?_
        refine am_pick [2, 3, 4, 1, 0] rfl ?_
        exact ih _ _ _ _ _ h
def M_pence (τ : am_T) (a1 : Int32) (a2 : Int32) : Option (Int32 × am_T) :=
  (M_costAt τ a1 (2 : Int32)).bind (fun x1 =>
  M_pence_12 5000 x1.2 a1 a2 x1.1 (730 : Int32))
set_option maxRecDepth 20000 in
theorem ok_M_pence {X : am_X} {a1 : Int32} {a2 : Int32} {v : Int32} {τ τ' : am_T} (hF : am_F X "ShareHouseModel" cX12_pence 5) (hR : am_R X 1 22) (hB : am_B X (some .int) (some (.int v)) (am_D τ')) (h : M_pence τ a1 a2 = some (v, τ')) : am_W X 5 (0, [(0, .ref 140), (1, .int a1), (2, .int a2)], [], am_D τ) := by
  unfold M_pence at h
  refine am_seg s_M_pence_0 (y := (3, [(0, .ref 140), (1, .int a1), (2, .int a2)], [.int (2 : Int32), .int a1, .ref 140], am_D τ)) hF t_s_M_pence_0 rfl rfl ?_
  refine am_bd h (fun x1 hx h => ?_)
  refine am_callV (As := [.int a1, .int (2 : Int32)]) (r := (some (.int x1.1))) (st := []) (σ' := am_D x1.2) (ci := 12) hF hR d_X12_pence_3 (c_M_costAt (τ' := x1.2) hx) (Nat.le_refl _) (Nat.le_refl _) wl_M_233 wi_yX12_costAt we_yX12_costAt wn_ShareHouseModel wc_yX12_costAt (Nat.le_of_ble_eq_true rfl) (Nat.le_of_ble_eq_true rfl) rfl rfl wy_yX12_costAt rfl ⟨by decide, by decide⟩ (Nat.le_of_ble_eq_true rfl) ?_
  refine am_seg s_M_pence_1 (y := (12, [(4, .int (730 : Int32)), (3, .int x1.1), (0, .ref 140), (1, .int a1), (2, .int a2)], [], am_D x1.2)) hF t_s_M_pence_1 rfl rfl ?_
  refine am_pick [2, 3, 4, 1, 0] rfl ?_
  exact ok_M_pence_12 hF hR hB _ _ _ _ _ _ h
theorem c_M_pence {a1 : Int32} {a2 : Int32} {v : Int32} {τ τ' : am_T} (h : M_pence τ a1 a2 = some (v, τ')) : am_C yX12_pence cX12_pence 5 (some .int) 1 22 [.ref 140, .int a1, .int a2] (am_D τ) (some (.int v)) (am_D τ') :=
  am_enter (by decide +kernel) (Nat.le_of_ble_eq_true rfl) ⟨Nat.le_refl _, Nat.le_refl _⟩ (fun X hF hR hB => ok_M_pence hF hR hB h)
def s_M_putRight_0 : List am_Q := [(0, .sipush 730, 0, 0, 0, .int (730 : Int32)), (3, .iconst 3, 0, 0, 0, .int (3 : Int32)), (4, .aload_n 0, 0, 0, 0, .null), (5, .getfield 7, 12, 0, 152, .null), (8, .iconst 3, 0, 0, 0, .int (3 : Int32))]
theorem t_s_M_putRight_0 : s_M_putRight_0.all (am_ok 12 cX12_putRight) = true := by decide +kernel
theorem d_X12_putRight_9 : decode cX12_putRight 9 = .ok (.iaload, 1) := by decide +kernel
def s_M_putRight_1 : List am_Q := [(10, .imul, 0, 0, 0, .null), (11, .iadd, 0, 0, 0, .null), (12, .istore_n 3, 0, 0, 0, .null), (13, .aload_n 0, 0, 0, 0, .null), (14, .getfield 7, 12, 0, 152, .null), (17, .iload_n 3, 0, 0, 0, .null), (18, .iload_n 1, 0, 0, 0, .null)]
theorem t_s_M_putRight_1 : s_M_putRight_1.all (am_ok 12 cX12_putRight) = true := by decide +kernel
theorem d_X12_putRight_19 : decode cX12_putRight 19 = .ok (.iastore, 1) := by decide +kernel
def s_M_putRight_2 : List am_Q := [(20, .aload_n 0, 0, 0, 0, .null), (21, .getfield 7, 12, 0, 152, .null), (24, .iload_n 3, 0, 0, 0, .null), (25, .iconst 1, 0, 0, 0, .int (1 : Int32)), (26, .iadd, 0, 0, 0, .null), (27, .iload_n 2, 0, 0, 0, .null)]
theorem t_s_M_putRight_2 : s_M_putRight_2.all (am_ok 12 cX12_putRight) = true := by decide +kernel
theorem d_X12_putRight_28 : decode cX12_putRight 28 = .ok (.iastore, 1) := by decide +kernel
def s_M_putRight_3 : List am_Q := [(29, .aload_n 0, 0, 0, 0, .null), (30, .getfield 7, 12, 0, 152, .null), (33, .iload_n 3, 0, 0, 0, .null), (34, .iconst 2, 0, 0, 0, .int (2 : Int32)), (35, .iadd, 0, 0, 0, .null), (36, .aload_n 0, 0, 0, 0, .null), (37, .getfield 7, 12, 0, 152, .null), (40, .iconst 0, 0, 0, 0, .int (0 : Int32))]
theorem t_s_M_putRight_3 : s_M_putRight_3.all (am_ok 12 cX12_putRight) = true := by decide +kernel
theorem d_X12_putRight_41 : decode cX12_putRight 41 = .ok (.iaload, 1) := by decide +kernel
theorem d_X12_putRight_42 : decode cX12_putRight 42 = .ok (.iastore, 1) := by decide +kernel
def s_M_putRight_4 : List am_Q := [(43, .aload_n 0, 0, 0, 0, .null), (44, .getfield 7, 12, 0, 152, .null), (47, .iconst 3, 0, 0, 0, .int (3 : Int32)), (48, .dup2, 0, 0, 0, .null)]
theorem t_s_M_putRight_4 : s_M_putRight_4.all (am_ok 12 cX12_putRight) = true := by decide +kernel
theorem d_X12_putRight_49 : decode cX12_putRight 49 = .ok (.iaload, 1) := by decide +kernel
def s_M_putRight_5 : List am_Q := [(50, .iconst 1, 0, 0, 0, .int (1 : Int32)), (51, .iadd, 0, 0, 0, .null)]
theorem t_s_M_putRight_5 : s_M_putRight_5.all (am_ok 12 cX12_putRight) = true := by decide +kernel
theorem d_X12_putRight_52 : decode cX12_putRight 52 = .ok (.iastore, 1) := by decide +kernel
theorem d_X12_putRight_53 : decode cX12_putRight 53 = .ok (.return_, 1) := by decide +kernel
def M_putRight (τ : am_T) (a1 : Int32) (a2 : Int32) : Option (am_T) :=
  am_g (am_in ((730 : Int32) + ((3 : Int32) * (τ.1 141 3))) 1060) (am_g (am_in (((730 : Int32) + ((3 : Int32) * (τ.1 141 3))) + (1 : Int32)) 1060) (am_g (am_in (((730 : Int32) + ((3 : Int32) * (τ.1 141 3))) + (2 : Int32)) 1060) (some (am_si (am_si (am_si (am_si τ 141 (((730 : Int32) + ((3 : Int32) * (τ.1 141 3))).toNatClampNeg) a1) 141 ((((730 : Int32) + ((3 : Int32) * (τ.1 141 3))) + (1 : Int32)).toNatClampNeg) a2) 141 ((((730 : Int32) + ((3 : Int32) * (τ.1 141 3))) + (2 : Int32)).toNatClampNeg) ((am_si (am_si τ 141 (((730 : Int32) + ((3 : Int32) * (τ.1 141 3))).toNatClampNeg) a1) 141 ((((730 : Int32) + ((3 : Int32) * (τ.1 141 3))) + (1 : Int32)).toNatClampNeg) a2).1 141 0)) 141 3 (((am_si (am_si (am_si τ 141 (((730 : Int32) + ((3 : Int32) * (τ.1 141 3))).toNatClampNeg) a1) 141 ((((730 : Int32) + ((3 : Int32) * (τ.1 141 3))) + (1 : Int32)).toNatClampNeg) a2) 141 ((((730 : Int32) + ((3 : Int32) * (τ.1 141 3))) + (2 : Int32)).toNatClampNeg) ((am_si (am_si τ 141 (((730 : Int32) + ((3 : Int32) * (τ.1 141 3))).toNatClampNeg) a1) 141 ((((730 : Int32) + ((3 : Int32) * (τ.1 141 3))) + (1 : Int32)).toNatClampNeg) a2).1 141 0)).1 141 3) + (1 : Int32))))))
set_option maxRecDepth 20000 in
theorem ok_M_putRight {X : am_X} {a1 : Int32} {a2 : Int32} {τ τ' : am_T} (hF : am_F X "ShareHouseModel" cX12_putRight 4) (hR : am_R X 0 0) (hB : am_B X none none (am_D τ')) (h : M_putRight τ a1 a2 = some τ') : am_W X 4 (0, [(0, .ref 140), (1, .int a1), (2, .int a2)], [], am_D τ) := by
  unfold M_putRight at h
  refine am_seg s_M_putRight_0 (y := (9, [(0, .ref 140), (1, .int a1), (2, .int a2)], [.int (3 : Int32), .ref 141, .int (3 : Int32), .int (730 : Int32)], am_D τ)) hF t_s_M_putRight_0 rfl rfl ?_
  refine am_iald (n := 1060) (j := 3) d_X12_putRight_9 (Nat.le_of_ble_eq_true rfl) (Nat.le_of_ble_eq_true rfl) rfl (by decide) rfl hF ?_
  refine am_seg s_M_putRight_1 (y := (19, [(3, .int ((730 : Int32) + ((3 : Int32) * (τ.1 141 3)))), (0, .ref 140), (1, .int a1), (2, .int a2)], [.int a1, .int ((730 : Int32) + ((3 : Int32) * (τ.1 141 3))), .ref 141], am_D τ)) hF t_s_M_putRight_1 rfl rfl ?_
  refine am_gd h (fun hi h => ?_)
  refine am_iast (n := 1060) (j := (((730 : Int32) + ((3 : Int32) * (τ.1 141 3))).toNatClampNeg)) d_X12_putRight_19 (Nat.le_of_ble_eq_true rfl) (Nat.le_of_ble_eq_true rfl) rfl hi rfl hF ?_
  refine am_seg s_M_putRight_2 (y := (28, [(3, .int ((730 : Int32) + ((3 : Int32) * (τ.1 141 3)))), (0, .ref 140), (1, .int a1), (2, .int a2)], [.int a2, .int (((730 : Int32) + ((3 : Int32) * (τ.1 141 3))) + (1 : Int32)), .ref 141], am_D (am_si τ 141 (((730 : Int32) + ((3 : Int32) * (τ.1 141 3))).toNatClampNeg) a1))) hF t_s_M_putRight_2 rfl rfl ?_
  refine am_gd h (fun hi h => ?_)
  refine am_iast (n := 1060) (j := ((((730 : Int32) + ((3 : Int32) * (τ.1 141 3))) + (1 : Int32)).toNatClampNeg)) d_X12_putRight_28 (Nat.le_of_ble_eq_true rfl) (Nat.le_of_ble_eq_true rfl) rfl hi rfl hF ?_
  refine am_seg s_M_putRight_3 (y := (41, [(3, .int ((730 : Int32) + ((3 : Int32) * (τ.1 141 3)))), (0, .ref 140), (1, .int a1), (2, .int a2)], [.int (0 : Int32), .ref 141, .int (((730 : Int32) + ((3 : Int32) * (τ.1 141 3))) + (2 : Int32)), .ref 141], am_D (am_si (am_si τ 141 (((730 : Int32) + ((3 : Int32) * (τ.1 141 3))).toNatClampNeg) a1) 141 ((((730 : Int32) + ((3 : Int32) * (τ.1 141 3))) + (1 : Int32)).toNatClampNeg) a2))) hF t_s_M_putRight_3 rfl rfl ?_
  refine am_iald (n := 1060) (j := 0) d_X12_putRight_41 (Nat.le_of_ble_eq_true rfl) (Nat.le_of_ble_eq_true rfl) rfl (by decide) rfl hF ?_
  refine am_gd h (fun hi h => ?_)
  refine am_iast (n := 1060) (j := ((((730 : Int32) + ((3 : Int32) * (τ.1 141 3))) + (2 : Int32)).toNatClampNeg)) d_X12_putRight_42 (Nat.le_of_ble_eq_true rfl) (Nat.le_of_ble_eq_true rfl) rfl hi rfl hF ?_
  refine am_seg s_M_putRight_4 (y := (49, [(3, .int ((730 : Int32) + ((3 : Int32) * (τ.1 141 3)))), (0, .ref 140), (1, .int a1), (2, .int a2)], [.int (3 : Int32), .ref 141, .int (3 : Int32), .ref 141], am_D (am_si (am_si (am_si τ 141 (((730 : Int32) + ((3 : Int32) * (τ.1 141 3))).toNatClampNeg) a1) 141 ((((730 : Int32) + ((3 : Int32) * (τ.1 141 3))) + (1 : Int32)).toNatClampNeg) a2) 141 ((((730 : Int32) + ((3 : Int32) * (τ.1 141 3))) + (2 : Int32)).toNatClampNeg) ((am_si (am_si τ 141 (((730 : Int32) + ((3 : Int32) * (τ.1 141 3))).toNatClampNeg) a1) 141 ((((730 : Int32) + ((3 : Int32) * (τ.1 141 3))) + (1 : Int32)).toNatClampNeg) a2).1 141 0)))) hF t_s_M_putRight_4 rfl rfl ?_
  refine am_iald (n := 1060) (j := 3) d_X12_putRight_49 (Nat.le_of_ble_eq_true rfl) (Nat.le_of_ble_eq_true rfl) rfl (by decide) rfl hF ?_
  refine am_seg s_M_putRight_5 (y := (52, [(3, .int ((730 : Int32) + ((3 : Int32) * (τ.1 141 3)))), (0, .ref 140), (1, .int a1), (2, .int a2)], [.int (((am_si (am_si (am_si τ 141 (((730 : Int32) + ((3 : Int32) * (τ.1 141 3))).toNatClampNeg) a1) 141 ((((730 : Int32) + ((3 : Int32) * (τ.1 141 3))) + (1 : Int32)).toNatClampNeg) a2) 141 ((((730 : Int32) + ((3 : Int32) * (τ.1 141 3))) + (2 : Int32)).toNatClampNeg) ((am_si (am_si τ 141 (((730 : Int32) + ((3 : Int32) * (τ.1 141 3))).toNatClampNeg) a1) 141 ((((730 : Int32) + ((3 : Int32) * (τ.1 141 3))) + (1 : Int32)).toNatClampNeg) a2).1 141 0)).1 141 3) + (1 : Int32)), .int (3 : Int32), .ref 141], am_D (am_si (am_si (am_si τ 141 (((730 : Int32) + ((3 : Int32) * (τ.1 141 3))).toNatClampNeg) a1) 141 ((((730 : Int32) + ((3 : Int32) * (τ.1 141 3))) + (1 : Int32)).toNatClampNeg) a2) 141 ((((730 : Int32) + ((3 : Int32) * (τ.1 141 3))) + (2 : Int32)).toNatClampNeg) ((am_si (am_si τ 141 (((730 : Int32) + ((3 : Int32) * (τ.1 141 3))).toNatClampNeg) a1) 141 ((((730 : Int32) + ((3 : Int32) * (τ.1 141 3))) + (1 : Int32)).toNatClampNeg) a2).1 141 0)))) hF t_s_M_putRight_5 rfl rfl ?_
  refine am_iast (n := 1060) (j := 3) d_X12_putRight_52 (Nat.le_of_ble_eq_true rfl) (Nat.le_of_ble_eq_true rfl) rfl (by decide) rfl hF ?_
  obtain rfl := am_one h
  exact am_vret d_X12_putRight_53 hF hB
theorem c_M_putRight {a1 : Int32} {a2 : Int32} {τ τ' : am_T} (h : M_putRight τ a1 a2 = some τ') : am_C yX12_putRight cX12_putRight 4 none 0 0 [.ref 140, .int a1, .int a2] (am_D τ) none (am_D τ') :=
  am_enter (by decide +kernel) (Nat.le_of_ble_eq_true rfl) ⟨Nat.le_refl _, Nat.le_refl _⟩ (fun X hF hR hB => ok_M_putRight hF hR hB h)
def s_M_right_0 : List am_Q := [(0, .aload_n 0, 0, 0, 0, .null), (1, .iload_n 1, 0, 0, 0, .null)]
theorem t_s_M_right_0 : s_M_right_0.all (am_ok 12 cX12_right) = true := by decide +kernel
theorem d_X12_right_2 : decode cX12_right 2 = .ok (.invokevirtual 236, 3) := by decide +kernel
theorem d_X12_right_5 : decode cX12_right 5 = .ok (.ifCond .eq 13, 3) := by decide +kernel
def s_M_right_1 : List am_Q := [(18, .iconst (-1), 0, 0, 0, .int (-1 : Int32))]
theorem t_s_M_right_1 : s_M_right_1.all (am_ok 12 cX12_right) = true := by decide +kernel
theorem d_X12_right_19 : decode cX12_right 19 = .ok (.ireturn, 1) := by decide +kernel
def s_M_right_2 : List am_Q := [(8, .iload_n 2, 0, 0, 0, .null), (9, .iconst 0, 0, 0, 0, .int (0 : Int32)), (10, .ldc 222, 0, 0, 30, .int (99999 : Int32))]
theorem t_s_M_right_2 : s_M_right_2.all (am_ok 12 cX12_right) = true := by decide +kernel
theorem d_X12_right_12 : decode cX12_right 12 = .ok (.invokestatic 51, 3) := by decide +kernel
theorem d_X12_right_15 : decode cX12_right 15 = .ok (.ifCond .ne 5, 3) := by decide +kernel
def s_M_right_3 : List am_Q := [(20, .aload_n 0, 0, 0, 0, .null), (21, .iload_n 1, 0, 0, 0, .null)]
theorem t_s_M_right_3 : s_M_right_3.all (am_ok 12 cX12_right) = true := by decide +kernel
theorem d_X12_right_22 : decode cX12_right 22 = .ok (.invokevirtual 239, 3) := by decide +kernel
theorem d_X12_right_25 : decode cX12_right 25 = .ok (.ifCond .ge 9, 3) := by decide +kernel
def s_M_right_4 : List am_Q := [(34, .aload_n 0, 0, 0, 0, .null), (35, .iload_n 1, 0, 0, 0, .null), (36, .aload_n 0, 0, 0, 0, .null), (37, .getfield 7, 12, 0, 152, .null), (40, .iconst 0, 0, 0, 0, .int (0 : Int32))]
theorem t_s_M_right_4 : s_M_right_4.all (am_ok 12 cX12_right) = true := by decide +kernel
theorem d_X12_right_41 : decode cX12_right 41 = .ok (.iaload, 1) := by decide +kernel
theorem d_X12_right_42 : decode cX12_right 42 = .ok (.invokevirtual 242, 3) := by decide +kernel
def s_M_right_5 : List am_Q := [(45, .istore_n 3, 0, 0, 0, .null), (46, .aload_n 0, 0, 0, 0, .null), (47, .iload_n 1, 0, 0, 0, .null), (48, .iload_n 2, 0, 0, 0, .null)]
theorem t_s_M_right_5 : s_M_right_5.all (am_ok 12 cX12_right) = true := by decide +kernel
theorem d_X12_right_49 : decode cX12_right 49 = .ok (.invokevirtual 245, 3) := by decide +kernel
def s_M_right_6 : List am_Q := [(52, .iload_n 3, 0, 0, 0, .null)]
theorem t_s_M_right_6 : s_M_right_6.all (am_ok 12 cX12_right) = true := by decide +kernel
theorem d_X12_right_53 : decode cX12_right 53 = .ok (.ireturn, 1) := by decide +kernel
def s_M_right_7 : List am_Q := [(28, .aload_n 0, 0, 0, 0, .null), (29, .iload_n 1, 0, 0, 0, .null)]
theorem t_s_M_right_7 : s_M_right_7.all (am_ok 12 cX12_right) = true := by decide +kernel
theorem d_X12_right_30 : decode cX12_right 30 = .ok (.invokevirtual 239, 3) := by decide +kernel
theorem d_X12_right_33 : decode cX12_right 33 = .ok (.ireturn, 1) := by decide +kernel
def s_M_right_8 : List am_Q := [(18, .iconst (-1), 0, 0, 0, .int (-1 : Int32))]
theorem t_s_M_right_8 : s_M_right_8.all (am_ok 12 cX12_right) = true := by decide +kernel
def M_right (τ : am_T) (a1 : Int32) (a2 : Int32) : Option (Int32 × am_T) :=
  (M_isCost τ a1).bind (fun x1 =>
  if x1.1 = 0 then
  (some ((-1 : Int32), x1.2))
else
  ((M_in x1.2 a2 (0 : Int32) (99999 : Int32)).bind (fun x2 =>
  if x2.1 = 0 then
  (some ((-1 : Int32), x2.2))
else
  ((M_mayRight x2.2 a1).bind (fun x3 =>
  if 0 ≤ x3.1 then
  ((M_pence x3.2 a1 (x3.2.1 141 0)).bind (fun x4 =>
  (M_putRight x4.2 a1 a2).bind (fun x5 =>
  some (x4.1, x5))))
else
  ((M_mayRight x3.2 a1).bind (fun x6 =>
  some (x6.1, x6.2))))))))
set_option maxRecDepth 20000 in
theorem ok_M_right {X : am_X} {a1 : Int32} {a2 : Int32} {v : Int32} {τ τ' : am_T} (hF : am_F X "ShareHouseModel" cX12_right 4) (hR : am_R X 2 46) (hB : am_B X (some .int) (some (.int v)) (am_D τ')) (h : M_right τ a1 a2 = some (v, τ')) : am_W X 4 (0, [(0, .ref 140), (1, .int a1), (2, .int a2)], [], am_D τ) := by
  unfold M_right at h
  refine am_seg s_M_right_0 (y := (2, [(0, .ref 140), (1, .int a1), (2, .int a2)], [.int a1, .ref 140], am_D τ)) hF t_s_M_right_0 rfl rfl ?_
  refine am_bd h (fun x1 hx h => ?_)
  refine am_callV (As := [.int a1]) (r := (some (.int x1.1))) (st := []) (σ' := am_D x1.2) (ci := 12) hF hR d_X12_right_2 (c_M_isCost (τ' := x1.2) hx) (Nat.le_refl _) (Nat.le_refl _) wl_M_236 wi_yX12_isCost we_yX12_isCost wn_ShareHouseModel wc_yX12_isCost (Nat.le_of_ble_eq_true rfl) (Nat.le_of_ble_eq_true rfl) rfl rfl wy_yX12_isCost rfl ⟨by decide, by decide⟩ (Nat.le_of_ble_eq_true rfl) ?_
  refine am_ite h (fun hc h => ?_) (fun hc h => ?_)
  · refine am_if_eq_t (t := 18) d_X12_right_5 (by decide) hc hF ?_
    refine am_seg s_M_right_1 (y := (19, [(0, .ref 140), (1, .int a1), (2, .int a2)], [.int (-1 : Int32)], am_D x1.2)) hF t_s_M_right_1 rfl rfl ?_
    obtain ⟨rfl, rfl⟩ := am_pair h
    exact am_iret d_X12_right_19 hF hB
  · refine am_if_eq_f (t := 18) d_X12_right_5 (by decide) hc hF ?_
    refine am_seg s_M_right_2 (y := (12, [(0, .ref 140), (1, .int a1), (2, .int a2)], [.int (99999 : Int32), .int (0 : Int32), .int a2], am_D x1.2)) hF t_s_M_right_2 rfl rfl ?_
    refine am_bd h (fun x2 hx h => ?_)
    refine am_callS (As := [.int a2, .int (0 : Int32), .int (99999 : Int32)]) (r := (some (.int x2.1))) (st := []) (σ' := am_D x2.2) hF hR d_X12_right_12 (c_M_in (τ' := x2.2) hx) (Nat.le_refl _) (Nat.le_refl _) wl_M_51 ws_yX12_in wn_ShareHouseModel wc_yX12_in wy_yX12_in rfl ⟨by decide, by decide⟩ (Nat.le_of_ble_eq_true rfl) ?_
    refine am_ite h (fun hc h => ?_) (fun hc h => ?_)
    · refine am_if_ne_f (t := 20) d_X12_right_15 (by decide) hc hF ?_
      refine am_seg s_M_right_8 (y := (19, [(0, .ref 140), (1, .int a1), (2, .int a2)], [.int (-1 : Int32)], am_D x2.2)) hF t_s_M_right_8 rfl rfl ?_
      obtain ⟨rfl, rfl⟩ := am_pair h
      exact am_iret d_X12_right_19 hF hB
    · refine am_if_ne_t (t := 20) d_X12_right_15 (by decide) hc hF ?_
      refine am_seg s_M_right_3 (y := (22, [(0, .ref 140), (1, .int a1), (2, .int a2)], [.int a1, .ref 140], am_D x2.2)) hF t_s_M_right_3 rfl rfl ?_
      refine am_bd h (fun x3 hx h => ?_)
      refine am_callV (As := [.int a1]) (r := (some (.int x3.1))) (st := []) (σ' := am_D x3.2) (ci := 12) hF hR d_X12_right_22 (c_M_mayRight (τ' := x3.2) hx) (Nat.le_refl _) (Nat.le_refl _) wl_M_239 wi_yX12_mayRight we_yX12_mayRight wn_ShareHouseModel wc_yX12_mayRight (Nat.le_of_ble_eq_true rfl) (Nat.le_of_ble_eq_true rfl) rfl rfl wy_yX12_mayRight rfl ⟨by decide, by decide⟩ (Nat.le_of_ble_eq_true rfl) ?_
      refine am_ite h (fun hc h => ?_) (fun hc h => ?_)
      · refine am_if_ge_t (t := 34) d_X12_right_25 (by decide) hc hF ?_
        refine am_seg s_M_right_4 (y := (41, [(0, .ref 140), (1, .int a1), (2, .int a2)], [.int (0 : Int32), .ref 141, .int a1, .ref 140], am_D x3.2)) hF t_s_M_right_4 rfl rfl ?_
        refine am_iald (n := 1060) (j := 0) d_X12_right_41 (Nat.le_of_ble_eq_true rfl) (Nat.le_of_ble_eq_true rfl) rfl (by decide) rfl hF ?_
        refine am_bd h (fun x4 hx h => ?_)
        refine am_callV (As := [.int a1, .int (x3.2.1 141 0)]) (r := (some (.int x4.1))) (st := []) (σ' := am_D x4.2) (ci := 12) hF hR d_X12_right_42 (c_M_pence (τ' := x4.2) hx) (Nat.le_refl _) (Nat.le_refl _) wl_M_242 wi_yX12_pence we_yX12_pence wn_ShareHouseModel wc_yX12_pence (Nat.le_of_ble_eq_true rfl) (Nat.le_of_ble_eq_true rfl) rfl rfl wy_yX12_pence rfl ⟨by decide, by decide⟩ (Nat.le_of_ble_eq_true rfl) ?_
        refine am_seg s_M_right_5 (y := (49, [(3, .int x4.1), (0, .ref 140), (1, .int a1), (2, .int a2)], [.int a2, .int a1, .ref 140], am_D x4.2)) hF t_s_M_right_5 rfl rfl ?_
        refine am_bd h (fun x5 hx h => ?_)
        refine am_callV (As := [.int a1, .int a2]) (r := none) (st := []) (σ' := am_D x5) (ci := 12) hF hR d_X12_right_49 (c_M_putRight (τ' := x5) hx) (Nat.le_refl _) (Nat.le_refl _) wl_M_245 wi_yX12_putRight we_yX12_putRight wn_ShareHouseModel wc_yX12_putRight (Nat.le_of_ble_eq_true rfl) (Nat.le_of_ble_eq_true rfl) rfl rfl wy_yX12_putRight rfl ⟨by decide, by decide⟩ (Nat.le_of_ble_eq_true rfl) ?_
        refine am_seg s_M_right_6 (y := (53, [(3, .int x4.1), (0, .ref 140), (1, .int a1), (2, .int a2)], [.int x4.1], am_D x5)) hF t_s_M_right_6 rfl rfl ?_
        obtain ⟨rfl, rfl⟩ := am_pair h
        exact am_iret d_X12_right_53 hF hB
      · refine am_if_ge_f (t := 34) d_X12_right_25 (by decide) hc hF ?_
        refine am_seg s_M_right_7 (y := (30, [(0, .ref 140), (1, .int a1), (2, .int a2)], [.int a1, .ref 140], am_D x3.2)) hF t_s_M_right_7 rfl rfl ?_
        refine am_bd h (fun x6 hx h => ?_)
        refine am_callV (As := [.int a1]) (r := (some (.int x6.1))) (st := []) (σ' := am_D x6.2) (ci := 12) hF hR d_X12_right_30 (c_M_mayRight (τ' := x6.2) hx) (Nat.le_refl _) (Nat.le_refl _) wl_M_239 wi_yX12_mayRight we_yX12_mayRight wn_ShareHouseModel wc_yX12_mayRight (Nat.le_of_ble_eq_true rfl) (Nat.le_of_ble_eq_true rfl) rfl rfl wy_yX12_mayRight rfl ⟨by decide, by decide⟩ (Nat.le_of_ble_eq_true rfl) ?_
        obtain ⟨rfl, rfl⟩ := am_pair h
        exact am_iret d_X12_right_33 hF hB
theorem c_M_right {a1 : Int32} {a2 : Int32} {v : Int32} {τ τ' : am_T} (h : M_right τ a1 a2 = some (v, τ')) : am_C yX12_right cX12_right 4 (some .int) 2 46 [.ref 140, .int a1, .int a2] (am_D τ) (some (.int v)) (am_D τ') :=
  am_enter (by decide +kernel) (Nat.le_of_ble_eq_true rfl) ⟨Nat.le_refl _, Nat.le_refl _⟩ (fun X hF hR hB => ok_M_right hF hR hB h)
def s_M_levelOf_0 : List am_Q := [(0, .aload_n 0, 0, 0, 0, .null), (1, .iload_n 1, 0, 0, 0, .null), (2, .aload_n 0, 0, 0, 0, .null), (3, .getfield 7, 12, 0, 152, .null), (6, .iconst 0, 0, 0, 0, .int (0 : Int32))]
theorem t_s_M_levelOf_0 : s_M_levelOf_0.all (am_ok 12 cX12_levelOf) = true := by decide +kernel
theorem d_X12_levelOf_7 : decode cX12_levelOf 7 = .ok (.iaload, 1) := by decide +kernel
theorem d_X12_levelOf_8 : decode cX12_levelOf 8 = .ok (.invokevirtual 242, 3) := by decide +kernel
def s_M_levelOf_1 : List am_Q := [(11, .bipush 100, 0, 0, 0, .int (100 : Int32)), (13, .imul, 0, 0, 0, .null), (14, .aload_n 0, 0, 0, 0, .null), (15, .iconst 1, 0, 0, 0, .int (1 : Int32))]
theorem t_s_M_levelOf_1 : s_M_levelOf_1.all (am_ok 12 cX12_levelOf) = true := by decide +kernel
theorem d_X12_levelOf_16 : decode cX12_levelOf 16 = .ok (.invokevirtual 195, 3) := by decide +kernel
theorem d_X12_levelOf_19 : decode cX12_levelOf 19 = .ok (.idiv, 1) := by decide +kernel
theorem d_X12_levelOf_20 : decode cX12_levelOf 20 = .ok (.ireturn, 1) := by decide +kernel
def M_levelOf (τ : am_T) (a1 : Int32) : Option (Int32 × am_T) :=
  (M_pence τ a1 (τ.1 141 0)).bind (fun x1 =>
  (M_together x1.2 (1 : Int32)).bind (fun x2 =>
  if x2.1 = 0 then none else
  some (((x1.1 * (100 : Int32)) / x2.1), x2.2)))
set_option maxRecDepth 20000 in
theorem ok_M_levelOf {X : am_X} {a1 : Int32} {v : Int32} {τ τ' : am_T} (hF : am_F X "ShareHouseModel" cX12_levelOf 2) (hR : am_R X 2 46) (hB : am_B X (some .int) (some (.int v)) (am_D τ')) (h : M_levelOf τ a1 = some (v, τ')) : am_W X 2 (0, [(0, .ref 140), (1, .int a1)], [], am_D τ) := by
  unfold M_levelOf at h
  refine am_seg s_M_levelOf_0 (y := (7, [(0, .ref 140), (1, .int a1)], [.int (0 : Int32), .ref 141, .int a1, .ref 140], am_D τ)) hF t_s_M_levelOf_0 rfl rfl ?_
  refine am_iald (n := 1060) (j := 0) d_X12_levelOf_7 (Nat.le_of_ble_eq_true rfl) (Nat.le_of_ble_eq_true rfl) rfl (by decide) rfl hF ?_
  refine am_bd h (fun x1 hx h => ?_)
  refine am_callV (As := [.int a1, .int (τ.1 141 0)]) (r := (some (.int x1.1))) (st := []) (σ' := am_D x1.2) (ci := 12) hF hR d_X12_levelOf_8 (c_M_pence (τ' := x1.2) hx) (Nat.le_refl _) (Nat.le_refl _) wl_M_242 wi_yX12_pence we_yX12_pence wn_ShareHouseModel wc_yX12_pence (Nat.le_of_ble_eq_true rfl) (Nat.le_of_ble_eq_true rfl) rfl rfl wy_yX12_pence rfl ⟨by decide, by decide⟩ (Nat.le_of_ble_eq_true rfl) ?_
  refine am_seg s_M_levelOf_1 (y := (16, [(0, .ref 140), (1, .int a1)], [.int (1 : Int32), .ref 140, .int (x1.1 * (100 : Int32))], am_D x1.2)) hF t_s_M_levelOf_1 rfl rfl ?_
  refine am_bd h (fun x2 hx h => ?_)
  refine am_callV (As := [.int (1 : Int32)]) (r := (some (.int x2.1))) (st := [.int (x1.1 * (100 : Int32))]) (σ' := am_D x2.2) (ci := 12) hF hR d_X12_levelOf_16 (c_M_together (τ' := x2.2) hx) (Nat.le_refl _) (Nat.le_refl _) wl_M_195 wi_yX12_together we_yX12_together wn_ShareHouseModel wc_yX12_together (Nat.le_of_ble_eq_true rfl) (Nat.le_of_ble_eq_true rfl) rfl rfl wy_yX12_together rfl ⟨by decide, by decide⟩ (Nat.le_of_ble_eq_true rfl) ?_
  refine am_ite h (fun _ h => by cases h) (fun hc h => ?_)
  refine am_idiv d_X12_levelOf_19 hc hF ?_
  obtain ⟨rfl, rfl⟩ := am_pair h
  exact am_iret d_X12_levelOf_20 hF hB
theorem c_M_levelOf {a1 : Int32} {v : Int32} {τ τ' : am_T} (h : M_levelOf τ a1 = some (v, τ')) : am_C yX12_levelOf cX12_levelOf 2 (some .int) 2 46 [.ref 140, .int a1] (am_D τ) (some (.int v)) (am_D τ') :=
  am_enter (by decide +kernel) (Nat.le_of_ble_eq_true rfl) ⟨Nat.le_refl _, Nat.le_refl _⟩ (fun X hF hR hB => ok_M_levelOf hF hR hB h)
def s_M_costOf_0 : List am_Q := [(0, .aload_n 0, 0, 0, 0, .null), (1, .iload_n 1, 0, 0, 0, .null)]
theorem t_s_M_costOf_0 : s_M_costOf_0.all (am_ok 12 cX12_costOf) = true := by decide +kernel
theorem d_X12_costOf_2 : decode cX12_costOf 2 = .ok (.invokevirtual 236, 3) := by decide +kernel
theorem d_X12_costOf_5 : decode cX12_costOf 5 = .ok (.ifCond .eq 13, 3) := by decide +kernel
def s_M_costOf_1 : List am_Q := [(18, .iconst (-1), 0, 0, 0, .int (-1 : Int32))]
theorem t_s_M_costOf_1 : s_M_costOf_1.all (am_ok 12 cX12_costOf) = true := by decide +kernel
theorem d_X12_costOf_19 : decode cX12_costOf 19 = .ok (.ireturn, 1) := by decide +kernel
def s_M_costOf_2 : List am_Q := [(8, .iload_n 2, 0, 0, 0, .null), (9, .iconst 0, 0, 0, 0, .int (0 : Int32)), (10, .bipush 7, 0, 0, 0, .int (7 : Int32))]
theorem t_s_M_costOf_2 : s_M_costOf_2.all (am_ok 12 cX12_costOf) = true := by decide +kernel
theorem d_X12_costOf_12 : decode cX12_costOf 12 = .ok (.invokestatic 51, 3) := by decide +kernel
theorem d_X12_costOf_15 : decode cX12_costOf 15 = .ok (.ifCond .ne 5, 3) := by decide +kernel
def s_M_costOf_3 : List am_Q := [(20, .iconst 0, 0, 0, 0, .int (0 : Int32)), (21, .istore_n 3, 0, 0, 0, .null), (22, .sipush 730, 0, 0, 0, .int (730 : Int32)), (25, .istore 4, 0, 0, 0, .null)]
theorem t_s_M_costOf_3 : s_M_costOf_3.all (am_ok 12 cX12_costOf) = true := by decide +kernel
def s_M_costOf_4 : List am_Q := [(27, .iload 4, 0, 0, 0, .null), (29, .sipush 730, 0, 0, 0, .int (730 : Int32)), (32, .iconst 3, 0, 0, 0, .int (3 : Int32)), (33, .aload_n 0, 0, 0, 0, .null), (34, .getfield 7, 12, 0, 152, .null), (37, .iconst 3, 0, 0, 0, .int (3 : Int32))]
theorem t_s_M_costOf_4 : s_M_costOf_4.all (am_ok 12 cX12_costOf) = true := by decide +kernel
theorem d_X12_costOf_38 : decode cX12_costOf 38 = .ok (.iaload, 1) := by decide +kernel
def s_M_costOf_5 : List am_Q := [(39, .imul, 0, 0, 0, .null), (40, .iadd, 0, 0, 0, .null)]
theorem t_s_M_costOf_5 : s_M_costOf_5.all (am_ok 12 cX12_costOf) = true := by decide +kernel
theorem d_X12_costOf_41 : decode cX12_costOf 41 = .ok (.if_icmp .ge 28, 3) := by decide +kernel
def s_M_costOf_6 : List am_Q := [(69, .iload_n 2, 0, 0, 0, .null)]
theorem t_s_M_costOf_6 : s_M_costOf_6.all (am_ok 12 cX12_costOf) = true := by decide +kernel
theorem d_X12_costOf_70 : decode cX12_costOf 70 = .ok (.tableswitch 91 0 6 #[42, 49, 56, 68, 75, 82, 89], 42) := by decide +kernel
def s_M_costOf_7 : List am_Q := [(161, .aload_n 0, 0, 0, 0, .null), (162, .getfield 7, 12, 0, 152, .null), (165, .iconst 1, 0, 0, 0, .int (1 : Int32))]
theorem t_s_M_costOf_7 : s_M_costOf_7.all (am_ok 12 cX12_costOf) = true := by decide +kernel
theorem d_X12_costOf_166 : decode cX12_costOf 166 = .ok (.iaload, 1) := by decide +kernel
theorem d_X12_costOf_167 : decode cX12_costOf 167 = .ok (.ifCond .ne 8, 3) := by decide +kernel
def s_M_costOf_8 : List am_Q := [(175, .aload_n 0, 0, 0, 0, .null), (176, .iload_n 1, 0, 0, 0, .null)]
theorem t_s_M_costOf_8 : s_M_costOf_8.all (am_ok 12 cX12_costOf) = true := by decide +kernel
theorem d_X12_costOf_177 : decode cX12_costOf 177 = .ok (.invokevirtual 248, 3) := by decide +kernel
theorem d_X12_costOf_180 : decode cX12_costOf 180 = .ok (.ireturn, 1) := by decide +kernel
def s_M_costOf_9 : List am_Q := [(170, .bipush (-3), 0, 0, 0, .int (-3 : Int32)), (172, .goto 8, 180, 0, 0, .null)]
theorem t_s_M_costOf_9 : s_M_costOf_9.all (am_ok 12 cX12_costOf) = true := by decide +kernel
def s_M_costOf_10 : List am_Q := [(112, .aload_n 0, 0, 0, 0, .null), (113, .iload_n 1, 0, 0, 0, .null), (114, .iconst 0, 0, 0, 0, .int (0 : Int32))]
theorem t_s_M_costOf_10 : s_M_costOf_10.all (am_ok 12 cX12_costOf) = true := by decide +kernel
theorem d_X12_costOf_115 : decode cX12_costOf 115 = .ok (.invokevirtual 233, 3) := by decide +kernel
theorem d_X12_costOf_118 : decode cX12_costOf 118 = .ok (.ireturn, 1) := by decide +kernel
def s_M_costOf_11 : List am_Q := [(119, .aload_n 0, 0, 0, 0, .null), (120, .iload_n 1, 0, 0, 0, .null), (121, .iconst 1, 0, 0, 0, .int (1 : Int32))]
theorem t_s_M_costOf_11 : s_M_costOf_11.all (am_ok 12 cX12_costOf) = true := by decide +kernel
theorem d_X12_costOf_122 : decode cX12_costOf 122 = .ok (.invokevirtual 233, 3) := by decide +kernel
theorem d_X12_costOf_125 : decode cX12_costOf 125 = .ok (.ireturn, 1) := by decide +kernel
def s_M_costOf_12 : List am_Q := [(126, .aload_n 0, 0, 0, 0, .null), (127, .iload_n 1, 0, 0, 0, .null), (128, .aload_n 0, 0, 0, 0, .null), (129, .getfield 7, 12, 0, 152, .null), (132, .iconst 0, 0, 0, 0, .int (0 : Int32))]
theorem t_s_M_costOf_12 : s_M_costOf_12.all (am_ok 12 cX12_costOf) = true := by decide +kernel
theorem d_X12_costOf_133 : decode cX12_costOf 133 = .ok (.iaload, 1) := by decide +kernel
theorem d_X12_costOf_134 : decode cX12_costOf 134 = .ok (.invokevirtual 242, 3) := by decide +kernel
theorem d_X12_costOf_137 : decode cX12_costOf 137 = .ok (.ireturn, 1) := by decide +kernel
def s_M_costOf_13 : List am_Q := [(138, .aload_n 0, 0, 0, 0, .null), (139, .iload_n 1, 0, 0, 0, .null), (140, .iconst 2, 0, 0, 0, .int (2 : Int32))]
theorem t_s_M_costOf_13 : s_M_costOf_13.all (am_ok 12 cX12_costOf) = true := by decide +kernel
theorem d_X12_costOf_141 : decode cX12_costOf 141 = .ok (.invokevirtual 233, 3) := by decide +kernel
theorem d_X12_costOf_144 : decode cX12_costOf 144 = .ok (.ireturn, 1) := by decide +kernel
def s_M_costOf_14 : List am_Q := [(145, .aload_n 0, 0, 0, 0, .null), (146, .iload_n 1, 0, 0, 0, .null), (147, .iconst 3, 0, 0, 0, .int (3 : Int32))]
theorem t_s_M_costOf_14 : s_M_costOf_14.all (am_ok 12 cX12_costOf) = true := by decide +kernel
theorem d_X12_costOf_148 : decode cX12_costOf 148 = .ok (.invokevirtual 233, 3) := by decide +kernel
theorem d_X12_costOf_151 : decode cX12_costOf 151 = .ok (.ireturn, 1) := by decide +kernel
def s_M_costOf_15 : List am_Q := [(152, .aload_n 0, 0, 0, 0, .null), (153, .iload_n 1, 0, 0, 0, .null), (154, .iconst 4, 0, 0, 0, .int (4 : Int32))]
theorem t_s_M_costOf_15 : s_M_costOf_15.all (am_ok 12 cX12_costOf) = true := by decide +kernel
theorem d_X12_costOf_155 : decode cX12_costOf 155 = .ok (.invokevirtual 233, 3) := by decide +kernel
theorem d_X12_costOf_158 : decode cX12_costOf 158 = .ok (.ireturn, 1) := by decide +kernel
def s_M_costOf_16 : List am_Q := [(159, .iload_n 3, 0, 0, 0, .null)]
theorem t_s_M_costOf_16 : s_M_costOf_16.all (am_ok 12 cX12_costOf) = true := by decide +kernel
theorem d_X12_costOf_160 : decode cX12_costOf 160 = .ok (.ireturn, 1) := by decide +kernel
def s_M_costOf_17 : List am_Q := [(44, .iload_n 3, 0, 0, 0, .null), (45, .aload_n 0, 0, 0, 0, .null), (46, .getfield 7, 12, 0, 152, .null), (49, .iload 4, 0, 0, 0, .null)]
theorem t_s_M_costOf_17 : s_M_costOf_17.all (am_ok 12 cX12_costOf) = true := by decide +kernel
theorem d_X12_costOf_51 : decode cX12_costOf 51 = .ok (.iaload, 1) := by decide +kernel
def s_M_costOf_18 : List am_Q := [(52, .iload_n 1, 0, 0, 0, .null)]
theorem t_s_M_costOf_18 : s_M_costOf_18.all (am_ok 12 cX12_costOf) = true := by decide +kernel
theorem d_X12_costOf_53 : decode cX12_costOf 53 = .ok (.if_icmp .ne 7, 3) := by decide +kernel
def s_M_costOf_19 : List am_Q := [(60, .iconst 0, 0, 0, 0, .int (0 : Int32)), (61, .iadd, 0, 0, 0, .null), (62, .istore_n 3, 0, 0, 0, .null), (63, .iinc 4 3, 0, 0, 0, .int (3 : Int32)), (66, .goto (-39), 27, 0, 0, .null)]
theorem t_s_M_costOf_19 : s_M_costOf_19.all (am_ok 12 cX12_costOf) = true := by decide +kernel
def s_M_costOf_20 : List am_Q := [(56, .iconst 1, 0, 0, 0, .int (1 : Int32)), (57, .goto 4, 61, 0, 0, .null), (61, .iadd, 0, 0, 0, .null), (62, .istore_n 3, 0, 0, 0, .null), (63, .iinc 4 3, 0, 0, 0, .int (3 : Int32)), (66, .goto (-39), 27, 0, 0, .null)]
theorem t_s_M_costOf_20 : s_M_costOf_20.all (am_ok 12 cX12_costOf) = true := by decide +kernel
def s_M_costOf_21 : List am_Q := [(18, .iconst (-1), 0, 0, 0, .int (-1 : Int32))]
theorem t_s_M_costOf_21 : s_M_costOf_21.all (am_ok 12 cX12_costOf) = true := by decide +kernel
def M_costOf_27 : Nat → am_T → Int32 → Int32 → Int32 → Int32 → Option (Int32 × am_T)
  | 0, _, _, _, _, _ => none
  | n + 1, τ, a1, a2, a3, a4 =>
    if ((730 : Int32) + ((3 : Int32) * (τ.1 141 3))) ≤ a4 then
  (if (a2 : Int32).toInt < 0 ∨ 6 < (a2 : Int32).toInt then
  (if (τ.1 141 1) = 0 then
  (some ((-3 : Int32), τ))
else
  ((M_levelOf τ a1).bind (fun x3 =>
  some (x3.1, x3.2))))
else
  (if a2 = 0 then
  ((M_costAt τ a1 (0 : Int32)).bind (fun x4 =>
  some (x4.1, x4.2)))
else
  (if a2 = 1 then
  ((M_costAt τ a1 (1 : Int32)).bind (fun x5 =>
  some (x5.1, x5.2)))
else
  (if a2 = 2 then
  ((M_pence τ a1 (τ.1 141 0)).bind (fun x6 =>
  some (x6.1, x6.2)))
else
  (if a2 = 3 then
  ((M_costAt τ a1 (2 : Int32)).bind (fun x7 =>
  some (x7.1, x7.2)))
else
  (if a2 = 4 then
  ((M_costAt τ a1 (3 : Int32)).bind (fun x8 =>
  some (x8.1, x8.2)))
else
  (if a2 = 5 then
  ((M_costAt τ a1 (4 : Int32)).bind (fun x9 =>
  some (x9.1, x9.2)))
else
  (if a2 = 6 then
  (some (a3, τ))
else
  (none)))))))))
else
  (am_g (am_in a4 1060) (if (τ.1 141 (a4.toNatClampNeg)) = a1 then
  ((M_costOf_27 n) τ a1 a2 (a3 + (1 : Int32)) (a4 + (3 : Int32)))
else
  ((M_costOf_27 n) τ a1 a2 (a3 + (0 : Int32)) (a4 + (3 : Int32)))))
set_option maxRecDepth 20000 in
theorem ok_M_costOf_27 {X : am_X} {v : Int32} {τ' : am_T} (hF : am_F X "ShareHouseModel" cX12_costOf 5) (hR : am_R X 3 67) (hB : am_B X (some .int) (some (.int v)) (am_D τ')) : ∀ (n : Nat) (τ : am_T) (a1 : Int32) (a2 : Int32) (a3 : Int32) (a4 : Int32), M_costOf_27 n τ a1 a2 a3 a4 = some (v, τ') → am_W X 5 (27, [(0, .ref 140), (1, .int a1), (2, .int a2), (3, .int a3), (4, .int a4)], [], am_D τ) := by
  intro n
  induction n with
  | zero => intro τ a1 a2 a3 a4 h; unfold M_costOf_27 at h; cases h
  | succ n ih =>
    intro τ a1 a2 a3 a4 h
    unfold M_costOf_27 at h
    refine am_seg s_M_costOf_4 (y := (38, [(0, .ref 140), (1, .int a1), (2, .int a2), (3, .int a3), (4, .int a4)], [.int (3 : Int32), .ref 141, .int (3 : Int32), .int (730 : Int32), .int a4], am_D τ)) hF t_s_M_costOf_4 rfl rfl ?_
    refine am_iald (n := 1060) (j := 3) d_X12_costOf_38 (Nat.le_of_ble_eq_true rfl) (Nat.le_of_ble_eq_true rfl) rfl (by decide) rfl hF ?_
    refine am_seg s_M_costOf_5 (y := (41, [(0, .ref 140), (1, .int a1), (2, .int a2), (3, .int a3), (4, .int a4)], [.int ((730 : Int32) + ((3 : Int32) * (τ.1 141 3))), .int a4], am_D τ)) hF t_s_M_costOf_5 rfl rfl ?_
    refine am_ite h (fun hc h => ?_) (fun hc h => ?_)
    · refine am_icmp_ge_t (t := 69) d_X12_costOf_41 (by decide) hc hF ?_
      refine am_seg s_M_costOf_6 (y := (70, [(0, .ref 140), (1, .int a1), (2, .int a2), (3, .int a3), (4, .int a4)], [.int a2], am_D τ)) hF t_s_M_costOf_6 rfl rfl ?_
      refine am_ite h (fun hc h => ?_) (fun hc h => ?_)
      · refine am_tswOut (t := 161) d_X12_costOf_70 hc (by decide) hF ?_
        refine am_seg s_M_costOf_7 (y := (166, [(0, .ref 140), (1, .int a1), (2, .int a2), (3, .int a3), (4, .int a4)], [.int (1 : Int32), .ref 141], am_D τ)) hF t_s_M_costOf_7 rfl rfl ?_
        refine am_iald (n := 1060) (j := 1) d_X12_costOf_166 (Nat.le_of_ble_eq_true rfl) (Nat.le_of_ble_eq_true rfl) rfl (by decide) rfl hF ?_
        refine am_ite h (fun hc h => ?_) (fun hc h => ?_)
        · refine am_if_ne_f (t := 175) d_X12_costOf_167 (by decide) hc hF ?_
          refine am_seg s_M_costOf_9 (y := (180, [(0, .ref 140), (1, .int a1), (2, .int a2), (3, .int a3), (4, .int a4)], [.int (-3 : Int32)], am_D τ)) hF t_s_M_costOf_9 rfl rfl ?_
          obtain ⟨rfl, rfl⟩ := am_pair h
          exact am_iret d_X12_costOf_180 hF hB
        · refine am_if_ne_t (t := 175) d_X12_costOf_167 (by decide) hc hF ?_
          refine am_seg s_M_costOf_8 (y := (177, [(0, .ref 140), (1, .int a1), (2, .int a2), (3, .int a3), (4, .int a4)], [.int a1, .ref 140], am_D τ)) hF t_s_M_costOf_8 rfl rfl ?_
          refine am_bd h (fun x3 hx h => ?_)
          refine am_callV (As := [.int a1]) (r := (some (.int x3.1))) (st := []) (σ' := am_D x3.2) (ci := 12) hF hR d_X12_costOf_177 (c_M_levelOf (τ' := x3.2) hx) (Nat.le_refl _) (Nat.le_refl _) wl_M_248 wi_yX12_levelOf we_yX12_levelOf wn_ShareHouseModel wc_yX12_levelOf (Nat.le_of_ble_eq_true rfl) (Nat.le_of_ble_eq_true rfl) rfl rfl wy_yX12_levelOf rfl ⟨by decide, by decide⟩ (Nat.le_of_ble_eq_true rfl) ?_
          obtain ⟨rfl, rfl⟩ := am_pair h
          exact am_iret d_X12_costOf_180 hF hB
      · refine am_ite h (fun hc h => ?_) (fun hc h => ?_)
        · refine am_tswIn (y := 0) (o := 42) (t := 112) d_X12_costOf_70 hc (by decide) (by decide) rfl (by decide) hF ?_
          refine am_seg s_M_costOf_10 (y := (115, [(0, .ref 140), (1, .int a1), (2, .int a2), (3, .int a3), (4, .int a4)], [.int (0 : Int32), .int a1, .ref 140], am_D τ)) hF t_s_M_costOf_10 rfl rfl ?_
          refine am_bd h (fun x4 hx h => ?_)
          refine am_callV (As := [.int a1, .int (0 : Int32)]) (r := (some (.int x4.1))) (st := []) (σ' := am_D x4.2) (ci := 12) hF hR d_X12_costOf_115 (c_M_costAt (τ' := x4.2) hx) (Nat.le_refl _) (Nat.le_refl _) wl_M_233 wi_yX12_costAt we_yX12_costAt wn_ShareHouseModel wc_yX12_costAt (Nat.le_of_ble_eq_true rfl) (Nat.le_of_ble_eq_true rfl) rfl rfl wy_yX12_costAt rfl ⟨by decide, by decide⟩ (Nat.le_of_ble_eq_true rfl) ?_
          obtain ⟨rfl, rfl⟩ := am_pair h
          exact am_iret d_X12_costOf_118 hF hB
        · refine am_ite h (fun hc h => ?_) (fun hc h => ?_)
          · refine am_tswIn (y := 1) (o := 49) (t := 119) d_X12_costOf_70 hc (by decide) (by decide) rfl (by decide) hF ?_
            refine am_seg s_M_costOf_11 (y := (122, [(0, .ref 140), (1, .int a1), (2, .int a2), (3, .int a3), (4, .int a4)], [.int (1 : Int32), .int a1, .ref 140], am_D τ)) hF t_s_M_costOf_11 rfl rfl ?_
            refine am_bd h (fun x5 hx h => ?_)
            refine am_callV (As := [.int a1, .int (1 : Int32)]) (r := (some (.int x5.1))) (st := []) (σ' := am_D x5.2) (ci := 12) hF hR d_X12_costOf_122 (c_M_costAt (τ' := x5.2) hx) (Nat.le_refl _) (Nat.le_refl _) wl_M_233 wi_yX12_costAt we_yX12_costAt wn_ShareHouseModel wc_yX12_costAt (Nat.le_of_ble_eq_true rfl) (Nat.le_of_ble_eq_true rfl) rfl rfl wy_yX12_costAt rfl ⟨by decide, by decide⟩ (Nat.le_of_ble_eq_true rfl) ?_
            obtain ⟨rfl, rfl⟩ := am_pair h
            exact am_iret d_X12_costOf_125 hF hB
          · refine am_ite h (fun hc h => ?_) (fun hc h => ?_)
            · refine am_tswIn (y := 2) (o := 56) (t := 126) d_X12_costOf_70 hc (by decide) (by decide) rfl (by decide) hF ?_
              refine am_seg s_M_costOf_12 (y := (133, [(0, .ref 140), (1, .int a1), (2, .int a2), (3, .int a3), (4, .int a4)], [.int (0 : Int32), .ref 141, .int a1, .ref 140], am_D τ)) hF t_s_M_costOf_12 rfl rfl ?_
              refine am_iald (n := 1060) (j := 0) d_X12_costOf_133 (Nat.le_of_ble_eq_true rfl) (Nat.le_of_ble_eq_true rfl) rfl (by decide) rfl hF ?_
              refine am_bd h (fun x6 hx h => ?_)
              refine am_callV (As := [.int a1, .int (τ.1 141 0)]) (r := (some (.int x6.1))) (st := []) (σ' := am_D x6.2) (ci := 12) hF hR d_X12_costOf_134 (c_M_pence (τ' := x6.2) hx) (Nat.le_refl _) (Nat.le_refl _) wl_M_242 wi_yX12_pence we_yX12_pence wn_ShareHouseModel wc_yX12_pence (Nat.le_of_ble_eq_true rfl) (Nat.le_of_ble_eq_true rfl) rfl rfl wy_yX12_pence rfl ⟨by decide, by decide⟩ (Nat.le_of_ble_eq_true rfl) ?_
              obtain ⟨rfl, rfl⟩ := am_pair h
              exact am_iret d_X12_costOf_137 hF hB
            · refine am_ite h (fun hc h => ?_) (fun hc h => ?_)
              · refine am_tswIn (y := 3) (o := 68) (t := 138) d_X12_costOf_70 hc (by decide) (by decide) rfl (by decide) hF ?_
                refine am_seg s_M_costOf_13 (y := (141, [(0, .ref 140), (1, .int a1), (2, .int a2), (3, .int a3), (4, .int a4)], [.int (2 : Int32), .int a1, .ref 140], am_D τ)) hF t_s_M_costOf_13 rfl rfl ?_
                refine am_bd h (fun x7 hx h => ?_)
                refine am_callV (As := [.int a1, .int (2 : Int32)]) (r := (some (.int x7.1))) (st := []) (σ' := am_D x7.2) (ci := 12) hF hR d_X12_costOf_141 (c_M_costAt (τ' := x7.2) hx) (Nat.le_refl _) (Nat.le_refl _) wl_M_233 wi_yX12_costAt we_yX12_costAt wn_ShareHouseModel wc_yX12_costAt (Nat.le_of_ble_eq_true rfl) (Nat.le_of_ble_eq_true rfl) rfl rfl wy_yX12_costAt rfl ⟨by decide, by decide⟩ (Nat.le_of_ble_eq_true rfl) ?_
                obtain ⟨rfl, rfl⟩ := am_pair h
                exact am_iret d_X12_costOf_144 hF hB
              · refine am_ite h (fun hc h => ?_) (fun hc h => ?_)
                · refine am_tswIn (y := 4) (o := 75) (t := 145) d_X12_costOf_70 hc (by decide) (by decide) rfl (by decide) hF ?_
                  refine am_seg s_M_costOf_14 (y := (148, [(0, .ref 140), (1, .int a1), (2, .int a2), (3, .int a3), (4, .int a4)], [.int (3 : Int32), .int a1, .ref 140], am_D τ)) hF t_s_M_costOf_14 rfl rfl ?_
                  refine am_bd h (fun x8 hx h => ?_)
                  refine am_callV (As := [.int a1, .int (3 : Int32)]) (r := (some (.int x8.1))) (st := []) (σ' := am_D x8.2) (ci := 12) hF hR d_X12_costOf_148 (c_M_costAt (τ' := x8.2) hx) (Nat.le_refl _) (Nat.le_refl _) wl_M_233 wi_yX12_costAt we_yX12_costAt wn_ShareHouseModel wc_yX12_costAt (Nat.le_of_ble_eq_true rfl) (Nat.le_of_ble_eq_true rfl) rfl rfl wy_yX12_costAt rfl ⟨by decide, by decide⟩ (Nat.le_of_ble_eq_true rfl) ?_
                  obtain ⟨rfl, rfl⟩ := am_pair h
                  exact am_iret d_X12_costOf_151 hF hB
                · refine am_ite h (fun hc h => ?_) (fun hc h => ?_)
                  · refine am_tswIn (y := 5) (o := 82) (t := 152) d_X12_costOf_70 hc (by decide) (by decide) rfl (by decide) hF ?_
                    refine am_seg s_M_costOf_15 (y := (155, [(0, .ref 140), (1, .int a1), (2, .int a2), (3, .int a3), (4, .int a4)], [.int (4 : Int32), .int a1, .ref 140], am_D τ)) hF t_s_M_costOf_15 rfl rfl ?_
                    refine am_bd h (fun x9 hx h => ?_)
                    refine am_callV (As := [.int a1, .int (4 : Int32)]) (r := (some (.int x9.1))) (st := []) (σ' := am_D x9.2) (ci := 12) hF hR d_X12_costOf_155 (c_M_costAt (τ' := x9.2) hx) (Nat.le_refl _) (Nat.le_refl _) wl_M_233 wi_yX12_costAt we_yX12_costAt wn_ShareHouseModel wc_yX12_costAt (Nat.le_of_ble_eq_true rfl) (Nat.le_of_ble_eq_true rfl) rfl rfl wy_yX12_costAt rfl ⟨by decide, by decide⟩ (Nat.le_of_ble_eq_true rfl) ?_
                    obtain ⟨rfl, rfl⟩ := am_pair h
                    exact am_iret d_X12_costOf_158 hF hB
                  · refine am_ite h (fun hc h => ?_) (fun hc h => ?_)
                    · refine am_tswIn (y := 6) (o := 89) (t := 159) d_X12_costOf_70 hc (by decide) (by decide) rfl (by decide) hF ?_
                      refine am_seg s_M_costOf_16 (y := (160, [(0, .ref 140), (1, .int a1), (2, .int a2), (3, .int a3), (4, .int a4)], [.int a3], am_D τ)) hF t_s_M_costOf_16 rfl rfl ?_
                      obtain ⟨rfl, rfl⟩ := am_pair h
                      exact am_iret d_X12_costOf_160 hF hB
                    · cases h
    · refine am_icmp_ge_f (t := 69) d_X12_costOf_41 (by decide) hc hF ?_
      refine am_seg s_M_costOf_17 (y := (51, [(0, .ref 140), (1, .int a1), (2, .int a2), (3, .int a3), (4, .int a4)], [.int a4, .ref 141, .int a3], am_D τ)) hF t_s_M_costOf_17 rfl rfl ?_
      refine am_gd h (fun hi h => ?_)
      refine am_iald (n := 1060) (j := (a4.toNatClampNeg)) d_X12_costOf_51 (Nat.le_of_ble_eq_true rfl) (Nat.le_of_ble_eq_true rfl) rfl hi rfl hF ?_
      refine am_seg s_M_costOf_18 (y := (53, [(0, .ref 140), (1, .int a1), (2, .int a2), (3, .int a3), (4, .int a4)], [.int a1, .int (τ.1 141 (a4.toNatClampNeg)), .int a3], am_D τ)) hF t_s_M_costOf_18 rfl rfl ?_
      refine am_ite h (fun hc h => ?_) (fun hc h => ?_)
      · refine am_icmp_ne_f (t := 60) d_X12_costOf_53 (by decide) hc hF ?_
        refine am_seg s_M_costOf_20 (y := (27, [(4, .int (a4 + (3 : Int32))), (3, .int (a3 + (1 : Int32))), (0, .ref 140), (1, .int a1), (2, .int a2)], [], am_D τ)) hF t_s_M_costOf_20 rfl rfl ?_
        refine am_pick [2, 3, 4, 1, 0] rfl ?_
        exact ih _ _ _ _ _ h
      · refine am_icmp_ne_t (t := 60) d_X12_costOf_53 (by decide) hc hF ?_
        refine am_seg s_M_costOf_19 (y := (27, [(4, .int (a4 + (3 : Int32))), (3, .int (a3 + (0 : Int32))), (0, .ref 140), (1, .int a1), (2, .int a2)], [], am_D τ)) hF t_s_M_costOf_19 rfl rfl ?_
        refine am_pick [2, 3, 4, 1, 0] rfl ?_
        exact ih _ _ _ _ _ h
def M_costOf (τ : am_T) (a1 : Int32) (a2 : Int32) : Option (Int32 × am_T) :=
  (M_isCost τ a1).bind (fun x1 =>
  if x1.1 = 0 then
  (some ((-1 : Int32), x1.2))
else
  ((M_in x1.2 a2 (0 : Int32) (7 : Int32)).bind (fun x2 =>
  if x2.1 = 0 then
  (some ((-1 : Int32), x2.2))
else
  (M_costOf_27 5000 x2.2 a1 a2 (0 : Int32) (730 : Int32)))))
set_option maxRecDepth 20000 in
theorem ok_M_costOf {X : am_X} {a1 : Int32} {a2 : Int32} {v : Int32} {τ τ' : am_T} (hF : am_F X "ShareHouseModel" cX12_costOf 5) (hR : am_R X 3 67) (hB : am_B X (some .int) (some (.int v)) (am_D τ')) (h : M_costOf τ a1 a2 = some (v, τ')) : am_W X 5 (0, [(0, .ref 140), (1, .int a1), (2, .int a2)], [], am_D τ) := by
  unfold M_costOf at h
  refine am_seg s_M_costOf_0 (y := (2, [(0, .ref 140), (1, .int a1), (2, .int a2)], [.int a1, .ref 140], am_D τ)) hF t_s_M_costOf_0 rfl rfl ?_
  refine am_bd h (fun x1 hx h => ?_)
  refine am_callV (As := [.int a1]) (r := (some (.int x1.1))) (st := []) (σ' := am_D x1.2) (ci := 12) hF hR d_X12_costOf_2 (c_M_isCost (τ' := x1.2) hx) (Nat.le_refl _) (Nat.le_refl _) wl_M_236 wi_yX12_isCost we_yX12_isCost wn_ShareHouseModel wc_yX12_isCost (Nat.le_of_ble_eq_true rfl) (Nat.le_of_ble_eq_true rfl) rfl rfl wy_yX12_isCost rfl ⟨by decide, by decide⟩ (Nat.le_of_ble_eq_true rfl) ?_
  refine am_ite h (fun hc h => ?_) (fun hc h => ?_)
  · refine am_if_eq_t (t := 18) d_X12_costOf_5 (by decide) hc hF ?_
    refine am_seg s_M_costOf_1 (y := (19, [(0, .ref 140), (1, .int a1), (2, .int a2)], [.int (-1 : Int32)], am_D x1.2)) hF t_s_M_costOf_1 rfl rfl ?_
    obtain ⟨rfl, rfl⟩ := am_pair h
    exact am_iret d_X12_costOf_19 hF hB
  · refine am_if_eq_f (t := 18) d_X12_costOf_5 (by decide) hc hF ?_
    refine am_seg s_M_costOf_2 (y := (12, [(0, .ref 140), (1, .int a1), (2, .int a2)], [.int (7 : Int32), .int (0 : Int32), .int a2], am_D x1.2)) hF t_s_M_costOf_2 rfl rfl ?_
    refine am_bd h (fun x2 hx h => ?_)
    refine am_callS (As := [.int a2, .int (0 : Int32), .int (7 : Int32)]) (r := (some (.int x2.1))) (st := []) (σ' := am_D x2.2) hF hR d_X12_costOf_12 (c_M_in (τ' := x2.2) hx) (Nat.le_refl _) (Nat.le_refl _) wl_M_51 ws_yX12_in wn_ShareHouseModel wc_yX12_in wy_yX12_in rfl ⟨by decide, by decide⟩ (Nat.le_of_ble_eq_true rfl) ?_
    refine am_ite h (fun hc h => ?_) (fun hc h => ?_)
    · refine am_if_ne_f (t := 20) d_X12_costOf_15 (by decide) hc hF ?_
      refine am_seg s_M_costOf_21 (y := (19, [(0, .ref 140), (1, .int a1), (2, .int a2)], [.int (-1 : Int32)], am_D x2.2)) hF t_s_M_costOf_21 rfl rfl ?_
      obtain ⟨rfl, rfl⟩ := am_pair h
      exact am_iret d_X12_costOf_19 hF hB
    · refine am_if_ne_t (t := 20) d_X12_costOf_15 (by decide) hc hF ?_
      refine am_seg s_M_costOf_3 (y := (27, [(4, .int (730 : Int32)), (3, .int (0 : Int32)), (0, .ref 140), (1, .int a1), (2, .int a2)], [], am_D x2.2)) hF t_s_M_costOf_3 rfl rfl ?_
      refine am_pick [2, 3, 4, 1, 0] rfl ?_
      exact ok_M_costOf_27 hF hR hB _ _ _ _ _ _ h
theorem c_M_costOf {a1 : Int32} {a2 : Int32} {v : Int32} {τ τ' : am_T} (h : M_costOf τ a1 a2 = some (v, τ')) : am_C yX12_costOf cX12_costOf 5 (some .int) 3 67 [.ref 140, .int a1, .int a2] (am_D τ) (some (.int v)) (am_D τ') :=
  am_enter (by decide +kernel) (Nat.le_of_ble_eq_true rfl) ⟨Nat.le_refl _, Nat.le_refl _⟩ (fun X hF hR hB => ok_M_costOf hF hR hB h)
def s_M_dueLine_0 : List am_Q := [(0, .aload_n 0, 0, 0, 0, .null), (1, .getfield 7, 12, 0, 152, .null), (4, .bipush 16, 0, 0, 0, .int (16 : Int32)), (6, .iload_n 1, 0, 0, 0, .null), (7, .iadd, 0, 0, 0, .null)]
theorem t_s_M_dueLine_0 : s_M_dueLine_0.all (am_ok 12 cX12_dueLine) = true := by decide +kernel
theorem d_X12_dueLine_8 : decode cX12_dueLine 8 = .ok (.iaload, 1) := by decide +kernel
def s_M_dueLine_1 : List am_Q := [(9, .iconst 1, 0, 0, 0, .int (1 : Int32))]
theorem t_s_M_dueLine_1 : s_M_dueLine_1.all (am_ok 12 cX12_dueLine) = true := by decide +kernel
theorem d_X12_dueLine_10 : decode cX12_dueLine 10 = .ok (.if_icmp .eq 28, 3) := by decide +kernel
def s_M_dueLine_2 : List am_Q := [(38, .iconst 1, 0, 0, 0, .int (1 : Int32)), (39, .goto 4, 43, 0, 0, .null)]
theorem t_s_M_dueLine_2 : s_M_dueLine_2.all (am_ok 12 cX12_dueLine) = true := by decide +kernel
def s_M_dueLine_3 : List am_Q := [(43, .istore_n 2, 0, 0, 0, .null), (44, .iload_n 2, 0, 0, 0, .null)]
theorem t_s_M_dueLine_3 : s_M_dueLine_3.all (am_ok 12 cX12_dueLine) = true := by decide +kernel
theorem d_X12_dueLine_45 : decode cX12_dueLine 45 = .ok (.ifCond .eq 19, 3) := by decide +kernel
def s_M_dueLine_4 : List am_Q := [(64, .aload_n 0, 0, 0, 0, .null), (65, .getfield 210, 12, 18, 170, .null)]
theorem t_s_M_dueLine_4 : s_M_dueLine_4.all (am_ok 12 cX12_dueLine) = true := by decide +kernel
theorem d_X12_dueLine_68 : decode cX12_dueLine 68 = .ok (.lreturn, 1) := by decide +kernel
def s_M_dueLine_5 : List am_Q := [(48, .aload_n 0, 0, 0, 0, .null), (49, .getfield 214, 12, 19, 171, .null), (52, .lconst 0, 0, 0, 0, .long (0 : Int64)), (53, .lcmp, 0, 0, 0, .null)]
theorem t_s_M_dueLine_5 : s_M_dueLine_5.all (am_ok 12 cX12_dueLine) = true := by decide +kernel
theorem d_X12_dueLine_54 : decode cX12_dueLine 54 = .ok (.ifCond .le 10, 3) := by decide +kernel
def s_M_dueLine_6 : List am_Q := [(64, .aload_n 0, 0, 0, 0, .null), (65, .getfield 210, 12, 18, 170, .null)]
theorem t_s_M_dueLine_6 : s_M_dueLine_6.all (am_ok 12 cX12_dueLine) = true := by decide +kernel
def s_M_dueLine_7 : List am_Q := [(57, .aload_n 0, 0, 0, 0, .null), (58, .getfield 214, 12, 19, 171, .null), (61, .goto 7, 68, 0, 0, .null)]
theorem t_s_M_dueLine_7 : s_M_dueLine_7.all (am_ok 12 cX12_dueLine) = true := by decide +kernel
def s_M_dueLine_8 : List am_Q := [(13, .aload_n 0, 0, 0, 0, .null), (14, .getfield 7, 12, 0, 152, .null), (17, .bipush 16, 0, 0, 0, .int (16 : Int32)), (19, .iload_n 1, 0, 0, 0, .null), (20, .iadd, 0, 0, 0, .null)]
theorem t_s_M_dueLine_8 : s_M_dueLine_8.all (am_ok 12 cX12_dueLine) = true := by decide +kernel
theorem d_X12_dueLine_21 : decode cX12_dueLine 21 = .ok (.iaload, 1) := by decide +kernel
def s_M_dueLine_9 : List am_Q := [(22, .iconst 2, 0, 0, 0, .int (2 : Int32))]
theorem t_s_M_dueLine_9 : s_M_dueLine_9.all (am_ok 12 cX12_dueLine) = true := by decide +kernel
theorem d_X12_dueLine_23 : decode cX12_dueLine 23 = .ok (.if_icmp .ne 19, 3) := by decide +kernel
def s_M_dueLine_10 : List am_Q := [(42, .iconst 0, 0, 0, 0, .int (0 : Int32))]
theorem t_s_M_dueLine_10 : s_M_dueLine_10.all (am_ok 12 cX12_dueLine) = true := by decide +kernel
def s_M_dueLine_11 : List am_Q := [(26, .aload_n 0, 0, 0, 0, .null), (27, .getfield 214, 12, 19, 171, .null), (30, .aload_n 0, 0, 0, 0, .null), (31, .getfield 210, 12, 18, 170, .null), (34, .lcmp, 0, 0, 0, .null)]
theorem t_s_M_dueLine_11 : s_M_dueLine_11.all (am_ok 12 cX12_dueLine) = true := by decide +kernel
theorem d_X12_dueLine_35 : decode cX12_dueLine 35 = .ok (.ifCond .le 7, 3) := by decide +kernel
def s_M_dueLine_12 : List am_Q := [(42, .iconst 0, 0, 0, 0, .int (0 : Int32))]
theorem t_s_M_dueLine_12 : s_M_dueLine_12.all (am_ok 12 cX12_dueLine) = true := by decide +kernel
def s_M_dueLine_13 : List am_Q := [(38, .iconst 1, 0, 0, 0, .int (1 : Int32)), (39, .goto 4, 43, 0, 0, .null)]
theorem t_s_M_dueLine_13 : s_M_dueLine_13.all (am_ok 12 cX12_dueLine) = true := by decide +kernel
def M_dueLine_43 (τ : am_T) (s0 : Int32) : Option (Int64 × am_T) :=
  if s0 = 0 then
  (some ((τ.2 140 18), τ))
else
  (if (lg_cmp (τ.2 140 19) (0 : Int64)) ≤ 0 then
  (some ((τ.2 140 18), τ))
else
  (some ((τ.2 140 19), τ)))
set_option maxRecDepth 20000 in
theorem ok_M_dueLine_43 {X : am_X} {v : Int64} {τ' : am_T} (hF : am_F X "ShareHouseModel" cX12_dueLine 3) (hR : am_R X 0 0) (hB : am_B X (some .long) (some (.long v)) (am_D τ')) {τ : am_T} {s0 : Int32} (h : M_dueLine_43 τ s0 = some (v, τ')) : am_W X 3 (43, [(0, .ref 140)], [.int s0], am_D τ) := by
  unfold M_dueLine_43 at h
  refine am_seg s_M_dueLine_3 (y := (45, [(2, .int s0), (0, .ref 140)], [.int s0], am_D τ)) hF t_s_M_dueLine_3 rfl rfl ?_
  refine am_ite h (fun hc h => ?_) (fun hc h => ?_)
  · refine am_if_eq_t (t := 64) d_X12_dueLine_45 (by decide) hc hF ?_
    refine am_seg s_M_dueLine_4 (y := (68, [(2, .int s0), (0, .ref 140)], [.long (τ.2 140 18)], am_D τ)) hF t_s_M_dueLine_4 rfl rfl ?_
    obtain ⟨rfl, rfl⟩ := am_pair h
    exact am_lret d_X12_dueLine_68 hF hB
  · refine am_if_eq_f (t := 64) d_X12_dueLine_45 (by decide) hc hF ?_
    refine am_seg s_M_dueLine_5 (y := (54, [(2, .int s0), (0, .ref 140)], [.int (lg_cmp (τ.2 140 19) (0 : Int64))], am_D τ)) hF t_s_M_dueLine_5 rfl rfl ?_
    refine am_ite h (fun hc h => ?_) (fun hc h => ?_)
    · refine am_if_le_t (t := 64) d_X12_dueLine_54 (by decide) hc hF ?_
      refine am_seg s_M_dueLine_6 (y := (68, [(2, .int s0), (0, .ref 140)], [.long (τ.2 140 18)], am_D τ)) hF t_s_M_dueLine_6 rfl rfl ?_
      obtain ⟨rfl, rfl⟩ := am_pair h
      exact am_lret d_X12_dueLine_68 hF hB
    · refine am_if_le_f (t := 64) d_X12_dueLine_54 (by decide) hc hF ?_
      refine am_seg s_M_dueLine_7 (y := (68, [(2, .int s0), (0, .ref 140)], [.long (τ.2 140 19)], am_D τ)) hF t_s_M_dueLine_7 rfl rfl ?_
      obtain ⟨rfl, rfl⟩ := am_pair h
      exact am_lret d_X12_dueLine_68 hF hB
def M_dueLine (τ : am_T) (a1 : Int32) : Option (Int64 × am_T) :=
  am_g (am_in ((16 : Int32) + a1) 1060) (if (τ.1 141 (((16 : Int32) + a1).toNatClampNeg)) = (1 : Int32) then
  (M_dueLine_43 τ (1 : Int32))
else
  (am_g (am_in ((16 : Int32) + a1) 1060) (if (τ.1 141 (((16 : Int32) + a1).toNatClampNeg)) = (2 : Int32) then
  (if (lg_cmp (τ.2 140 19) (τ.2 140 18)) ≤ 0 then
  (M_dueLine_43 τ (0 : Int32))
else
  (M_dueLine_43 τ (1 : Int32)))
else
  (M_dueLine_43 τ (0 : Int32)))))
set_option maxRecDepth 20000 in
theorem ok_M_dueLine {X : am_X} {a1 : Int32} {v : Int64} {τ τ' : am_T} (hF : am_F X "ShareHouseModel" cX12_dueLine 3) (hR : am_R X 0 0) (hB : am_B X (some .long) (some (.long v)) (am_D τ')) (h : M_dueLine τ a1 = some (v, τ')) : am_W X 3 (0, [(0, .ref 140), (1, .int a1)], [], am_D τ) := by
  unfold M_dueLine at h
  refine am_seg s_M_dueLine_0 (y := (8, [(0, .ref 140), (1, .int a1)], [.int ((16 : Int32) + a1), .ref 141], am_D τ)) hF t_s_M_dueLine_0 rfl rfl ?_
  refine am_gd h (fun hi h => ?_)
  refine am_iald (n := 1060) (j := (((16 : Int32) + a1).toNatClampNeg)) d_X12_dueLine_8 (Nat.le_of_ble_eq_true rfl) (Nat.le_of_ble_eq_true rfl) rfl hi rfl hF ?_
  refine am_seg s_M_dueLine_1 (y := (10, [(0, .ref 140), (1, .int a1)], [.int (1 : Int32), .int (τ.1 141 (((16 : Int32) + a1).toNatClampNeg))], am_D τ)) hF t_s_M_dueLine_1 rfl rfl ?_
  refine am_ite h (fun hc h => ?_) (fun hc h => ?_)
  · refine am_icmp_eq_t (t := 38) d_X12_dueLine_10 (by decide) hc hF ?_
    refine am_seg s_M_dueLine_2 (y := (43, [(0, .ref 140), (1, .int a1)], [.int (1 : Int32)], am_D τ)) hF t_s_M_dueLine_2 rfl rfl ?_
    refine am_pick [0] rfl ?_
    exact ok_M_dueLine_43 hF hR hB h
  · refine am_icmp_eq_f (t := 38) d_X12_dueLine_10 (by decide) hc hF ?_
    refine am_seg s_M_dueLine_8 (y := (21, [(0, .ref 140), (1, .int a1)], [.int ((16 : Int32) + a1), .ref 141], am_D τ)) hF t_s_M_dueLine_8 rfl rfl ?_
    refine am_gd h (fun hi h => ?_)
    refine am_iald (n := 1060) (j := (((16 : Int32) + a1).toNatClampNeg)) d_X12_dueLine_21 (Nat.le_of_ble_eq_true rfl) (Nat.le_of_ble_eq_true rfl) rfl hi rfl hF ?_
    refine am_seg s_M_dueLine_9 (y := (23, [(0, .ref 140), (1, .int a1)], [.int (2 : Int32), .int (τ.1 141 (((16 : Int32) + a1).toNatClampNeg))], am_D τ)) hF t_s_M_dueLine_9 rfl rfl ?_
    refine am_ite h (fun hc h => ?_) (fun hc h => ?_)
    · refine am_icmp_ne_f (t := 42) d_X12_dueLine_23 (by decide) hc hF ?_
      refine am_seg s_M_dueLine_11 (y := (35, [(0, .ref 140), (1, .int a1)], [.int (lg_cmp (τ.2 140 19) (τ.2 140 18))], am_D τ)) hF t_s_M_dueLine_11 rfl rfl ?_
      refine am_ite h (fun hc h => ?_) (fun hc h => ?_)
      · refine am_if_le_t (t := 42) d_X12_dueLine_35 (by decide) hc hF ?_
        refine am_seg s_M_dueLine_12 (y := (43, [(0, .ref 140), (1, .int a1)], [.int (0 : Int32)], am_D τ)) hF t_s_M_dueLine_12 rfl rfl ?_
        refine am_pick [0] rfl ?_
        exact ok_M_dueLine_43 hF hR hB h
      · refine am_if_le_f (t := 42) d_X12_dueLine_35 (by decide) hc hF ?_
        refine am_seg s_M_dueLine_13 (y := (43, [(0, .ref 140), (1, .int a1)], [.int (1 : Int32)], am_D τ)) hF t_s_M_dueLine_13 rfl rfl ?_
        refine am_pick [0] rfl ?_
        exact ok_M_dueLine_43 hF hR hB h
    · refine am_icmp_ne_t (t := 42) d_X12_dueLine_23 (by decide) hc hF ?_
      refine am_seg s_M_dueLine_10 (y := (43, [(0, .ref 140), (1, .int a1)], [.int (0 : Int32)], am_D τ)) hF t_s_M_dueLine_10 rfl rfl ?_
      refine am_pick [0] rfl ?_
      exact ok_M_dueLine_43 hF hR hB h
theorem c_M_dueLine {a1 : Int32} {v : Int64} {τ τ' : am_T} (h : M_dueLine τ a1 = some (v, τ')) : am_C yX12_dueLine cX12_dueLine 3 (some .long) 0 0 [.ref 140, .int a1] (am_D τ) (some (.long v)) (am_D τ') :=
  am_enter (by decide +kernel) (Nat.le_of_ble_eq_true rfl) ⟨Nat.le_refl _, Nat.le_refl _⟩ (fun X hF hR hB => ok_M_dueLine hF hR hB h)

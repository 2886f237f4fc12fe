def s_M_right_0 : List am_Q := [(0, .aload_n 0, 0, 0, 0, .null), (1, .iload_n 1, 0, 0, 0, .null)]
theorem t_s_M_right_0 : s_M_right_0.all (am_ok 12 cX12_right) = true := by decide +kernel
theorem d_X12_right_2 : decode cX12_right 2 = .ok (.invokevirtual 236, 3) := by decide +kernel
theorem d_X12_right_5 : decode cX12_right 5 = .ok (.ifCond .eq 13, 3) := by decide +kernel
def s_M_right_1 : List am_Q := [(18, .iconst (-1), 0, 0, 0, .int (-1 : Int32))]
theorem t_s_M_right_1 : s_M_right_1.all (am_ok 12 cX12_right) = true := by decide +kernel
theorem d_X12_right_19 : decode cX12_right 19 = .ok (.ireturn, 1) := by decide +kernel
def s_M_right_2 : List am_Q := [(8, .iload_n 2, 0, 0, 0, .null), (9, .iconst 0, 0, 0, 0, .int (nI 0)), (10, .ldc 222, 0, 0, 30, .int (nI 99999))]
theorem t_s_M_right_2 : s_M_right_2.all (am_ok 12 cX12_right) = true := by decide +kernel
theorem d_X12_right_12 : decode cX12_right 12 = .ok (.invokestatic 51, 3) := by decide +kernel
theorem d_X12_right_15 : decode cX12_right 15 = .ok (.ifCond .ne 5, 3) := by decide +kernel
def s_M_right_3 : List am_Q := [(20, .aload_n 0, 0, 0, 0, .null), (21, .iload_n 1, 0, 0, 0, .null)]
theorem t_s_M_right_3 : s_M_right_3.all (am_ok 12 cX12_right) = true := by decide +kernel
theorem d_X12_right_22 : decode cX12_right 22 = .ok (.invokevirtual 239, 3) := by decide +kernel
theorem d_X12_right_25 : decode cX12_right 25 = .ok (.ifCond .ge 9, 3) := by decide +kernel
def s_M_right_4 : List am_Q := [(34, .aload_n 0, 0, 0, 0, .null), (35, .iload_n 1, 0, 0, 0, .null), (36, .aload_n 0, 0, 0, 0, .null), (37, .getfield 7, 12, 0, 152, .null), (40, .iconst 0, 0, 0, 0, .int (nI 0))]
theorem t_s_M_right_4 : s_M_right_4.all (am_ok 12 cX12_right) = true := by decide +kernel
theorem d_X12_right_41 : decode cX12_right 41 = .ok (.iaload, 1) := by decide +kernel
theorem d_X12_right_42 : decode cX12_right 42 = .ok (.invokevirtual 242, 3) := by decide +kernel
def s_M_right_5 : List am_Q := [(45, .istore_n 3, 0, 0, 0, .null), (46, .aload_n 0, 0, 0, 0, .null), (47, .iload_n 1, 0, 0, 0, .null), (48, .iload_n 2, 0, 0, 0, .null)]
theorem t_s_M_right_5 : s_M_right_5.all (am_ok 12 cX12_right) = true := by decide +kernel
theorem d_X12_right_49 : decode cX12_right 49 = .ok (.invokevirtual 245, 3) := by decide +kernel
def s_M_right_6 : List am_Q := [(52, .iload_n 3, 0, 0, 0, .null)]
theorem t_s_M_right_6 : s_M_right_6.all (am_ok 12 cX12_right) = true := by decide +kernel
theorem d_X12_right_53 : decode cX12_right 53 = .ok (.ireturn, 1) := by decide +kernel
def s_M_right_7 : List am_Q := [(28, .aload_n 0, 0, 0, 0, .null), (29, .iload_n 1, 0, 0, 0, .null)]
theorem t_s_M_right_7 : s_M_right_7.all (am_ok 12 cX12_right) = true := by decide +kernel
theorem d_X12_right_30 : decode cX12_right 30 = .ok (.invokevirtual 239, 3) := by decide +kernel
theorem d_X12_right_33 : decode cX12_right 33 = .ok (.ireturn, 1) := by decide +kernel
def s_M_right_8 : List am_Q := [(18, .iconst (-1), 0, 0, 0, .int (-1 : Int32))]
theorem t_s_M_right_8 : s_M_right_8.all (am_ok 12 cX12_right) = true := by decide +kernel
def M_right (τ : am_T) (a1 : Int32) (a2 : Int32) : Option (Int32 × am_T) :=
  (M_isCost τ a1).bind (fun x1 =>
  if x1.1 = 0 then
  (some ((-1 : Int32), x1.2))
else
  ((M_in x1.2 a2 (nI 0) (nI 99999)).bind (fun x2 =>
  if x2.1 = 0 then
  (some ((-1 : Int32), x2.2))
else
  ((M_mayRight x2.2 a1).bind (fun x3 =>
  if 0 ≤ x3.1 then
  ((M_pence x3.2 a1 (x3.2.1 141 0)).bind (fun x4 =>
  (M_putRight x4.2 a1 a2).bind (fun x5 =>
  some (x4.1, x5))))
else
  ((M_mayRight x3.2 a1).bind (fun x6 =>
  some (x6.1, x6.2))))))))
set_option maxRecDepth 20000 in
theorem ok_M_right {X : am_X} {a1 : Int32} {a2 : Int32} {v : Int32} {τ τ' : am_T} (hF : am_F X "ShareHouseModel" cX12_right 4) (hR : am_R X 2 46) (hB : am_B X (some .int) (some (.int v)) (am_D τ')) (h : M_right τ a1 a2 = some (v, τ')) : am_W X 4 (0, [(0, .ref 140), (1, .int a1), (2, .int a2)], [], am_D τ) := by
  unfold M_right at h
  refine am_seg s_M_right_0 (y := (2, [(0, .ref 140), (1, .int a1), (2, .int a2)], [.int a1, .ref 140], am_D τ)) hF t_s_M_right_0 rfl rfl ?_
  refine am_bd h (fun x1 hx h => ?_)
  refine am_callV (As := [.int a1]) (r := (some (.int x1.1))) (st := []) (σ' := am_D x1.2) (ci := 12) hF hR d_X12_right_2 (c_M_isCost (τ' := x1.2) hx) (Nat.le_refl _) (Nat.le_refl _) wl_M_236 wi_yX12_isCost we_yX12_isCost wn_ShareHouseModel wc_yX12_isCost (Nat.le_of_ble_eq_true rfl) (Nat.le_of_ble_eq_true rfl) rfl rfl wy_yX12_isCost rfl ⟨by decide, by decide⟩ (Nat.le_of_ble_eq_true rfl) ?_
  refine am_ite h (fun hc h => ?_) (fun hc h => ?_)
  · refine am_if_eq_t (t := 18) d_X12_right_5 (by decide) hc hF ?_
    refine am_seg s_M_right_1 (y := (19, [(0, .ref 140), (1, .int a1), (2, .int a2)], [.int (-1 : Int32)], am_D x1.2)) hF t_s_M_right_1 rfl rfl ?_
    obtain ⟨rfl, rfl⟩ := am_pair h
    exact am_iret d_X12_right_19 hF hB
  · refine am_if_eq_f (t := 18) d_X12_right_5 (by decide) hc hF ?_
    refine am_seg s_M_right_2 (y := (12, [(0, .ref 140), (1, .int a1), (2, .int a2)], [.int (nI 99999), .int (nI 0), .int a2], am_D x1.2)) hF t_s_M_right_2 rfl rfl ?_
    refine am_bd h (fun x2 hx h => ?_)
    refine am_callS (As := [.int a2, .int (nI 0), .int (nI 99999)]) (r := (some (.int x2.1))) (st := []) (σ' := am_D x2.2) hF hR d_X12_right_12 (c_M_in (τ' := x2.2) hx) (Nat.le_refl _) (Nat.le_refl _) wl_M_51 ws_yX12_in wn_ShareHouseModel wc_yX12_in wy_yX12_in rfl ⟨by decide, by decide⟩ (Nat.le_of_ble_eq_true rfl) ?_
    refine am_ite h (fun hc h => ?_) (fun hc h => ?_)
    · refine am_if_ne_f (t := 20) d_X12_right_15 (by decide) hc hF ?_
      refine am_seg s_M_right_8 (y := (19, [(0, .ref 140), (1, .int a1), (2, .int a2)], [.int (-1 : Int32)], am_D x2.2)) hF t_s_M_right_8 rfl rfl ?_
      obtain ⟨rfl, rfl⟩ := am_pair h
      exact am_iret d_X12_right_19 hF hB
    · refine am_if_ne_t (t := 20) d_X12_right_15 (by decide) hc hF ?_
      refine am_seg s_M_right_3 (y := (22, [(0, .ref 140), (1, .int a1), (2, .int a2)], [.int a1, .ref 140], am_D x2.2)) hF t_s_M_right_3 rfl rfl ?_
      refine am_bd h (fun x3 hx h => ?_)
      refine am_callV (As := [.int a1]) (r := (some (.int x3.1))) (st := []) (σ' := am_D x3.2) (ci := 12) hF hR d_X12_right_22 (c_M_mayRight (τ' := x3.2) hx) (Nat.le_refl _) (Nat.le_refl _) wl_M_239 wi_yX12_mayRight we_yX12_mayRight wn_ShareHouseModel wc_yX12_mayRight (Nat.le_of_ble_eq_true rfl) (Nat.le_of_ble_eq_true rfl) rfl rfl wy_yX12_mayRight rfl ⟨by decide, by decide⟩ (Nat.le_of_ble_eq_true rfl) ?_
      refine am_ite h (fun hc h => ?_) (fun hc h => ?_)
      · refine am_if_ge_t (t := 34) d_X12_right_25 (by decide) hc hF ?_
        refine am_seg s_M_right_4 (y := (41, [(0, .ref 140), (1, .int a1), (2, .int a2)], [.int (nI 0), .ref 141, .int a1, .ref 140], am_D x3.2)) hF t_s_M_right_4 rfl rfl ?_
        refine am_iald (n := 1060) (j := 0) d_X12_right_41 (Nat.le_of_ble_eq_true rfl) (Nat.le_of_ble_eq_true rfl) rfl (by decide) rfl hF ?_
        refine am_bd h (fun x4 hx h => ?_)
        refine am_callV (As := [.int a1, .int (x3.2.1 141 0)]) (r := (some (.int x4.1))) (st := []) (σ' := am_D x4.2) (ci := 12) hF hR d_X12_right_42 (c_M_pence (τ' := x4.2) hx) (Nat.le_refl _) (Nat.le_refl _) wl_M_242 wi_yX12_pence we_yX12_pence wn_ShareHouseModel wc_yX12_pence (Nat.le_of_ble_eq_true rfl) (Nat.le_of_ble_eq_true rfl) rfl rfl wy_yX12_pence rfl ⟨by decide, by decide⟩ (Nat.le_of_ble_eq_true rfl) ?_
        refine am_seg s_M_right_5 (y := (49, [(3, .int x4.1), (0, .ref 140), (1, .int a1), (2, .int a2)], [.int a2, .int a1, .ref 140], am_D x4.2)) hF t_s_M_right_5 rfl rfl ?_
        refine am_bd h (fun x5 hx h => ?_)
        refine am_callV (As := [.int a1, .int a2]) (r := none) (st := []) (σ' := am_D x5) (ci := 12) hF hR d_X12_right_49 (c_M_putRight (τ' := x5) hx) (Nat.le_refl _) (Nat.le_refl _) wl_M_245 wi_yX12_putRight we_yX12_putRight wn_ShareHouseModel wc_yX12_putRight (Nat.le_of_ble_eq_true rfl) (Nat.le_of_ble_eq_true rfl) rfl rfl wy_yX12_putRight rfl ⟨by decide, by decide⟩ (Nat.le_of_ble_eq_true rfl) ?_
        refine am_seg s_M_right_6 (y := (53, [(3, .int x4.1), (0, .ref 140), (1, .int a1), (2, .int a2)], [.int x4.1], am_D x5)) hF t_s_M_right_6 rfl rfl ?_
        obtain ⟨rfl, rfl⟩ := am_pair h
        exact am_iret d_X12_right_53 hF hB
      · refine am_if_ge_f (t := 34) d_X12_right_25 (by decide) hc hF ?_
        refine am_seg s_M_right_7 (y := (30, [(0, .ref 140), (1, .int a1), (2, .int a2)], [.int a1, .ref 140], am_D x3.2)) hF t_s_M_right_7 rfl rfl ?_
        refine am_bd h (fun x6 hx h => ?_)
        refine am_callV (As := [.int a1]) (r := (some (.int x6.1))) (st := []) (σ' := am_D x6.2) (ci := 12) hF hR d_X12_right_30 (c_M_mayRight (τ' := x6.2) hx) (Nat.le_refl _) (Nat.le_refl _) wl_M_239 wi_yX12_mayRight we_yX12_mayRight wn_ShareHouseModel wc_yX12_mayRight (Nat.le_of_ble_eq_true rfl) (Nat.le_of_ble_eq_true rfl) rfl rfl wy_yX12_mayRight rfl ⟨by decide, by decide⟩ (Nat.le_of_ble_eq_true rfl) ?_
        obtain ⟨rfl, rfl⟩ := am_pair h
        exact am_iret d_X12_right_33 hF hB
theorem c_M_right {a1 : Int32} {a2 : Int32} {v : Int32} {τ τ' : am_T} (h : M_right τ a1 a2 = some (v, τ')) : am_C yX12_right cX12_right 4 (some .int) 2 46 [.ref 140, .int a1, .int a2] (am_D τ) (some (.int v)) (am_D τ') :=
  am_enter (by decide +kernel) (Nat.le_of_ble_eq_true rfl) ⟨Nat.le_refl _, Nat.le_refl _⟩ (fun X hF hR hB => ok_M_right hF hR hB h)
def s_M_levelOf_0 : List am_Q := [(0, .aload_n 0, 0, 0, 0, .null), (1, .iload_n 1, 0, 0, 0, .null), (2, .aload_n 0, 0, 0, 0, .null), (3, .getfield 7, 12, 0, 152, .null), (6, .iconst 0, 0, 0, 0, .int (nI 0))]
theorem t_s_M_levelOf_0 : s_M_levelOf_0.all (am_ok 12 cX12_levelOf) = true := by decide +kernel
theorem d_X12_levelOf_7 : decode cX12_levelOf 7 = .ok (.iaload, 1) := by decide +kernel
theorem d_X12_levelOf_8 : decode cX12_levelOf 8 = .ok (.invokevirtual 242, 3) := by decide +kernel
def s_M_levelOf_1 : List am_Q := [(11, .bipush 100, 0, 0, 0, .int (nI 100)), (13, .imul, 0, 0, 0, .null), (14, .aload_n 0, 0, 0, 0, .null), (15, .iconst 1, 0, 0, 0, .int (nI 1))]
theorem t_s_M_levelOf_1 : s_M_levelOf_1.all (am_ok 12 cX12_levelOf) = true := by decide +kernel
theorem d_X12_levelOf_16 : decode cX12_levelOf 16 = .ok (.invokevirtual 195, 3) := by decide +kernel
theorem d_X12_levelOf_19 : decode cX12_levelOf 19 = .ok (.idiv, 1) := by decide +kernel
theorem d_X12_levelOf_20 : decode cX12_levelOf 20 = .ok (.ireturn, 1) := by decide +kernel
def M_levelOf (τ : am_T) (a1 : Int32) : Option (Int32 × am_T) :=
  (M_pence τ a1 (τ.1 141 0)).bind (fun x1 =>
  (M_together x1.2 (nI 1)).bind (fun x2 =>
  if x2.1 = 0 then none else
  some (((x1.1 * (nI 100)) / x2.1), x2.2)))
set_option maxRecDepth 20000 in
theorem ok_M_levelOf {X : am_X} {a1 : Int32} {v : Int32} {τ τ' : am_T} (hF : am_F X "ShareHouseModel" cX12_levelOf 2) (hR : am_R X 2 46) (hB : am_B X (some .int) (some (.int v)) (am_D τ')) (h : M_levelOf τ a1 = some (v, τ')) : am_W X 2 (0, [(0, .ref 140), (1, .int a1)], [], am_D τ) := by
  unfold M_levelOf at h
  refine am_seg s_M_levelOf_0 (y := (7, [(0, .ref 140), (1, .int a1)], [.int (nI 0), .ref 141, .int a1, .ref 140], am_D τ)) hF t_s_M_levelOf_0 rfl rfl ?_
  refine am_iald (n := 1060) (j := 0) d_X12_levelOf_7 (Nat.le_of_ble_eq_true rfl) (Nat.le_of_ble_eq_true rfl) rfl (by decide) rfl hF ?_
  refine am_bd h (fun x1 hx h => ?_)
  refine am_callV (As := [.int a1, .int (τ.1 141 0)]) (r := (some (.int x1.1))) (st := []) (σ' := am_D x1.2) (ci := 12) hF hR d_X12_levelOf_8 (c_M_pence (τ' := x1.2) hx) (Nat.le_refl _) (Nat.le_refl _) wl_M_242 wi_yX12_pence we_yX12_pence wn_ShareHouseModel wc_yX12_pence (Nat.le_of_ble_eq_true rfl) (Nat.le_of_ble_eq_true rfl) rfl rfl wy_yX12_pence rfl ⟨by decide, by decide⟩ (Nat.le_of_ble_eq_true rfl) ?_
  refine am_seg s_M_levelOf_1 (y := (16, [(0, .ref 140), (1, .int a1)], [.int (nI 1), .ref 140, .int (x1.1 * (nI 100))], am_D x1.2)) hF t_s_M_levelOf_1 rfl rfl ?_
  refine am_bd h (fun x2 hx h => ?_)
  refine am_callV (As := [.int (nI 1)]) (r := (some (.int x2.1))) (st := [.int (x1.1 * (nI 100))]) (σ' := am_D x2.2) (ci := 12) hF hR d_X12_levelOf_16 (c_M_together (τ' := x2.2) hx) (Nat.le_refl _) (Nat.le_refl _) wl_M_195 wi_yX12_together we_yX12_together wn_ShareHouseModel wc_yX12_together (Nat.le_of_ble_eq_true rfl) (Nat.le_of_ble_eq_true rfl) rfl rfl wy_yX12_together rfl ⟨by decide, by decide⟩ (Nat.le_of_ble_eq_true rfl) ?_
  refine am_ite h (fun _ h => by cases h) (fun hc h => ?_)
  refine am_idiv d_X12_levelOf_19 hc hF ?_
  obtain ⟨rfl, rfl⟩ := am_pair h
  exact am_iret d_X12_levelOf_20 hF hB
theorem c_M_levelOf {a1 : Int32} {v : Int32} {τ τ' : am_T} (h : M_levelOf τ a1 = some (v, τ')) : am_C yX12_levelOf cX12_levelOf 2 (some .int) 2 46 [.ref 140, .int a1] (am_D τ) (some (.int v)) (am_D τ') :=
  am_enter (by decide +kernel) (Nat.le_of_ble_eq_true rfl) ⟨Nat.le_refl _, Nat.le_refl _⟩ (fun X hF hR hB => ok_M_levelOf hF hR hB h)
def s_M_costOf_0 : List am_Q := [(0, .aload_n 0, 0, 0, 0, .null), (1, .iload_n 1, 0, 0, 0, .null)]
theorem t_s_M_costOf_0 : s_M_costOf_0.all (am_ok 12 cX12_costOf) = true := by decide +kernel
theorem d_X12_costOf_2 : decode cX12_costOf 2 = .ok (.invokevirtual 236, 3) := by decide +kernel
theorem d_X12_costOf_5 : decode cX12_costOf 5 = .ok (.ifCond .eq 13, 3) := by decide +kernel
def s_M_costOf_1 : List am_Q := [(18, .iconst (-1), 0, 0, 0, .int (-1 : Int32))]
theorem t_s_M_costOf_1 : s_M_costOf_1.all (am_ok 12 cX12_costOf) = true := by decide +kernel
theorem d_X12_costOf_19 : decode cX12_costOf 19 = .ok (.ireturn, 1) := by decide +kernel
def s_M_costOf_2 : List am_Q := [(8, .iload_n 2, 0, 0, 0, .null), (9, .iconst 0, 0, 0, 0, .int (nI 0)), (10, .bipush 7, 0, 0, 0, .int (nI 7))]
theorem t_s_M_costOf_2 : s_M_costOf_2.all (am_ok 12 cX12_costOf) = true := by decide +kernel
theorem d_X12_costOf_12 : decode cX12_costOf 12 = .ok (.invokestatic 51, 3) := by decide +kernel
theorem d_X12_costOf_15 : decode cX12_costOf 15 = .ok (.ifCond .ne 5, 3) := by decide +kernel
def s_M_costOf_3 : List am_Q := [(20, .iconst 0, 0, 0, 0, .int (nI 0)), (21, .istore_n 3, 0, 0, 0, .null), (22, .sipush 730, 0, 0, 0, .int (nI 730)), (25, .istore 4, 0, 0, 0, .null)]
theorem t_s_M_costOf_3 : s_M_costOf_3.all (am_ok 12 cX12_costOf) = true := by decide +kernel
def s_M_costOf_4 : List am_Q := [(27, .iload 4, 0, 0, 0, .null), (29, .sipush 730, 0, 0, 0, .int (nI 730)), (32, .iconst 3, 0, 0, 0, .int (nI 3)), (33, .aload_n 0, 0, 0, 0, .null), (34, .getfield 7, 12, 0, 152, .null), (37, .iconst 3, 0, 0, 0, .int (nI 3))]
theorem t_s_M_costOf_4 : s_M_costOf_4.all (am_ok 12 cX12_costOf) = true := by decide +kernel
theorem d_X12_costOf_38 : decode cX12_costOf 38 = .ok (.iaload, 1) := by decide +kernel
def s_M_costOf_5 : List am_Q := [(39, .imul, 0, 0, 0, .null), (40, .iadd, 0, 0, 0, .null)]
theorem t_s_M_costOf_5 : s_M_costOf_5.all (am_ok 12 cX12_costOf) = true := by decide +kernel
theorem d_X12_costOf_41 : decode cX12_costOf 41 = .ok (.if_icmp .ge 28, 3) := by decide +kernel
def s_M_costOf_6 : List am_Q := [(69, .iload_n 2, 0, 0, 0, .null)]
theorem t_s_M_costOf_6 : s_M_costOf_6.all (am_ok 12 cX12_costOf) = true := by decide +kernel
theorem d_X12_costOf_70 : decode cX12_costOf 70 = .ok (.tableswitch 91 0 6 #[42, 49, 56, 68, 75, 82, 89], 42) := by decide +kernel
def s_M_costOf_7 : List am_Q := [(161, .aload_n 0, 0, 0, 0, .null), (162, .getfield 7, 12, 0, 152, .null), (165, .iconst 1, 0, 0, 0, .int (nI 1))]
theorem t_s_M_costOf_7 : s_M_costOf_7.all (am_ok 12 cX12_costOf) = true := by decide +kernel
theorem d_X12_costOf_166 : decode cX12_costOf 166 = .ok (.iaload, 1) := by decide +kernel
theorem d_X12_costOf_167 : decode cX12_costOf 167 = .ok (.ifCond .ne 8, 3) := by decide +kernel
def s_M_costOf_8 : List am_Q := [(175, .aload_n 0, 0, 0, 0, .null), (176, .iload_n 1, 0, 0, 0, .null)]
theorem t_s_M_costOf_8 : s_M_costOf_8.all (am_ok 12 cX12_costOf) = true := by decide +kernel
theorem d_X12_costOf_177 : decode cX12_costOf 177 = .ok (.invokevirtual 248, 3) := by decide +kernel
theorem d_X12_costOf_180 : decode cX12_costOf 180 = .ok (.ireturn, 1) := by decide +kernel
def s_M_costOf_9 : List am_Q := [(170, .bipush (-3), 0, 0, 0, .int (-3 : Int32)), (172, .goto 8, 180, 0, 0, .null)]
theorem t_s_M_costOf_9 : s_M_costOf_9.all (am_ok 12 cX12_costOf) = true := by decide +kernel
def s_M_costOf_10 : List am_Q := [(112, .aload_n 0, 0, 0, 0, .null), (113, .iload_n 1, 0, 0, 0, .null), (114, .iconst 0, 0, 0, 0, .int (nI 0))]
theorem t_s_M_costOf_10 : s_M_costOf_10.all (am_ok 12 cX12_costOf) = true := by decide +kernel
theorem d_X12_costOf_115 : decode cX12_costOf 115 = .ok (.invokevirtual 233, 3) := by decide +kernel
theorem d_X12_costOf_118 : decode cX12_costOf 118 = .ok (.ireturn, 1) := by decide +kernel
def s_M_costOf_11 : List am_Q := [(119, .aload_n 0, 0, 0, 0, .null), (120, .iload_n 1, 0, 0, 0, .null), (121, .iconst 1, 0, 0, 0, .int (nI 1))]
theorem t_s_M_costOf_11 : s_M_costOf_11.all (am_ok 12 cX12_costOf) = true := by decide +kernel
theorem d_X12_costOf_122 : decode cX12_costOf 122 = .ok (.invokevirtual 233, 3) := by decide +kernel
theorem d_X12_costOf_125 : decode cX12_costOf 125 = .ok (.ireturn, 1) := by decide +kernel
def s_M_costOf_12 : List am_Q := [(126, .aload_n 0, 0, 0, 0, .null), (127, .iload_n 1, 0, 0, 0, .null), (128, .aload_n 0, 0, 0, 0, .null), (129, .getfield 7, 12, 0, 152, .null), (132, .iconst 0, 0, 0, 0, .int (nI 0))]
theorem t_s_M_costOf_12 : s_M_costOf_12.all (am_ok 12 cX12_costOf) = true := by decide +kernel
theorem d_X12_costOf_133 : decode cX12_costOf 133 = .ok (.iaload, 1) := by decide +kernel
theorem d_X12_costOf_134 : decode cX12_costOf 134 = .ok (.invokevirtual 242, 3) := by decide +kernel
theorem d_X12_costOf_137 : decode cX12_costOf 137 = .ok (.ireturn, 1) := by decide +kernel
def s_M_costOf_13 : List am_Q := [(138, .aload_n 0, 0, 0, 0, .null), (139, .iload_n 1, 0, 0, 0, .null), (140, .iconst 2, 0, 0, 0, .int (nI 2))]
theorem t_s_M_costOf_13 : s_M_costOf_13.all (am_ok 12 cX12_costOf) = true := by decide +kernel
theorem d_X12_costOf_141 : decode cX12_costOf 141 = .ok (.invokevirtual 233, 3) := by decide +kernel
theorem d_X12_costOf_144 : decode cX12_costOf 144 = .ok (.ireturn, 1) := by decide +kernel
def s_M_costOf_14 : List am_Q := [(145, .aload_n 0, 0, 0, 0, .null), (146, .iload_n 1, 0, 0, 0, .null), (147, .iconst 3, 0, 0, 0, .int (nI 3))]
theorem t_s_M_costOf_14 : s_M_costOf_14.all (am_ok 12 cX12_costOf) = true := by decide +kernel
theorem d_X12_costOf_148 : decode cX12_costOf 148 = .ok (.invokevirtual 233, 3) := by decide +kernel
theorem d_X12_costOf_151 : decode cX12_costOf 151 = .ok (.ireturn, 1) := by decide +kernel
def s_M_costOf_15 : List am_Q := [(152, .aload_n 0, 0, 0, 0, .null), (153, .iload_n 1, 0, 0, 0, .null), (154, .iconst 4, 0, 0, 0, .int (nI 4))]
theorem t_s_M_costOf_15 : s_M_costOf_15.all (am_ok 12 cX12_costOf) = true := by decide +kernel
theorem d_X12_costOf_155 : decode cX12_costOf 155 = .ok (.invokevirtual 233, 3) := by decide +kernel
theorem d_X12_costOf_158 : decode cX12_costOf 158 = .ok (.ireturn, 1) := by decide +kernel
def s_M_costOf_16 : List am_Q := [(159, .iload_n 3, 0, 0, 0, .null)]
theorem t_s_M_costOf_16 : s_M_costOf_16.all (am_ok 12 cX12_costOf) = true := by decide +kernel
theorem d_X12_costOf_160 : decode cX12_costOf 160 = .ok (.ireturn, 1) := by decide +kernel
def s_M_costOf_17 : List am_Q := [(44, .iload_n 3, 0, 0, 0, .null), (45, .aload_n 0, 0, 0, 0, .null), (46, .getfield 7, 12, 0, 152, .null), (49, .iload 4, 0, 0, 0, .null)]
theorem t_s_M_costOf_17 : s_M_costOf_17.all (am_ok 12 cX12_costOf) = true := by decide +kernel
theorem d_X12_costOf_51 : decode cX12_costOf 51 = .ok (.iaload, 1) := by decide +kernel
def s_M_costOf_18 : List am_Q := [(52, .iload_n 1, 0, 0, 0, .null)]
theorem t_s_M_costOf_18 : s_M_costOf_18.all (am_ok 12 cX12_costOf) = true := by decide +kernel
theorem d_X12_costOf_53 : decode cX12_costOf 53 = .ok (.if_icmp .ne 7, 3) := by decide +kernel
def s_M_costOf_19 : List am_Q := [(60, .iconst 0, 0, 0, 0, .int (nI 0)), (61, .iadd, 0, 0, 0, .null), (62, .istore_n 3, 0, 0, 0, .null), (63, .iinc 4 3, 0, 0, 0, .int (nI 3)), (66, .goto (-39), 27, 0, 0, .null)]
theorem t_s_M_costOf_19 : s_M_costOf_19.all (am_ok 12 cX12_costOf) = true := by decide +kernel
def s_M_costOf_20 : List am_Q := [(56, .iconst 1, 0, 0, 0, .int (nI 1)), (57, .goto 4, 61, 0, 0, .null), (61, .iadd, 0, 0, 0, .null), (62, .istore_n 3, 0, 0, 0, .null), (63, .iinc 4 3, 0, 0, 0, .int (nI 3)), (66, .goto (-39), 27, 0, 0, .null)]
theorem t_s_M_costOf_20 : s_M_costOf_20.all (am_ok 12 cX12_costOf) = true := by decide +kernel
def s_M_costOf_21 : List am_Q := [(18, .iconst (-1), 0, 0, 0, .int (-1 : Int32))]
theorem t_s_M_costOf_21 : s_M_costOf_21.all (am_ok 12 cX12_costOf) = true := by decide +kernel
def M_costOf_27 : Nat → am_T → Int32 → Int32 → Int32 → Int32 → Option (Int32 × am_T)
  | 0, _, _, _, _, _ => none
  | n + 1, τ, a1, a2, a3, a4 =>
    if ((nI 730) + ((nI 3) * (τ.1 141 3))) ≤ a4 then
  (if (a2 : Int32).toInt < 0 ∨ 6 < (a2 : Int32).toInt then
  (if (τ.1 141 1) = 0 then
  (some ((-3 : Int32), τ))
else
  ((M_levelOf τ a1).bind (fun x3 =>
  some (x3.1, x3.2))))
else
  (if a2 = nI 0 then
  ((M_costAt τ a1 (nI 0)).bind (fun x4 =>
  some (x4.1, x4.2)))
else
  (if a2 = nI 1 then
  ((M_costAt τ a1 (nI 1)).bind (fun x5 =>
  some (x5.1, x5.2)))
else
  (if a2 = nI 2 then
  ((M_pence τ a1 (τ.1 141 0)).bind (fun x6 =>
  some (x6.1, x6.2)))
else
  (if a2 = nI 3 then
  ((M_costAt τ a1 (nI 2)).bind (fun x7 =>
  some (x7.1, x7.2)))
else
  (if a2 = nI 4 then
  ((M_costAt τ a1 (nI 3)).bind (fun x8 =>
  some (x8.1, x8.2)))
else
  (if a2 = nI 5 then
  ((M_costAt τ a1 (nI 4)).bind (fun x9 =>
  some (x9.1, x9.2)))
else
  (if a2 = nI 6 then
  (some (a3, τ))
else
  (none)))))))))
else
  (am_g (am_in a4 1060) (if (τ.1 141 (a4.toNatClampNeg)) = a1 then
  ((M_costOf_27 n) τ a1 a2 (a3 + (nI 1)) (a4 + (nI 3)))
else
  ((M_costOf_27 n) τ a1 a2 (a3 + (nI 0)) (a4 + (nI 3)))))
set_option maxRecDepth 20000 in
theorem ok_M_costOf_27 {X : am_X} {v : Int32} {τ' : am_T} (hF : am_F X "ShareHouseModel" cX12_costOf 5) (hR : am_R X 3 67) (hB : am_B X (some .int) (some (.int v)) (am_D τ')) : ∀ (n : Nat) (τ : am_T) (a1 : Int32) (a2 : Int32) (a3 : Int32) (a4 : Int32), M_costOf_27 n τ a1 a2 a3 a4 = some (v, τ') → am_W X 5 (27, [(0, .ref 140), (1, .int a1), (2, .int a2), (3, .int a3), (4, .int a4)], [], am_D τ) := by
  intro n
  induction n with
  | zero => intro τ a1 a2 a3 a4 h; unfold M_costOf_27 at h; cases h
  | succ n ih =>
    intro τ a1 a2 a3 a4 h
    unfold M_costOf_27 at h
    refine am_seg s_M_costOf_4 (y := (38, [(0, .ref 140), (1, .int a1), (2, .int a2), (3, .int a3), (4, .int a4)], [.int (nI 3), .ref 141, .int (nI 3), .int (nI 730), .int a4], am_D τ)) hF t_s_M_costOf_4 rfl rfl ?_
    refine am_iald (n := 1060) (j := 3) d_X12_costOf_38 (Nat.le_of_ble_eq_true rfl) (Nat.le_of_ble_eq_true rfl) rfl (by decide) rfl hF ?_
    refine am_seg s_M_costOf_5 (y := (41, [(0, .ref 140), (1, .int a1), (2, .int a2), (3, .int a3), (4, .int a4)], [.int ((nI 730) + ((nI 3) * (τ.1 141 3))), .int a4], am_D τ)) hF t_s_M_costOf_5 rfl rfl ?_
    refine am_ite h (fun hc h => ?_) (fun hc h => ?_)
    · refine am_icmp_ge_t (t := 69) d_X12_costOf_41 (by decide) hc hF ?_
      refine am_seg s_M_costOf_6 (y := (70, [(0, .ref 140), (1, .int a1), (2, .int a2), (3, .int a3), (4, .int a4)], [.int a2], am_D τ)) hF t_s_M_costOf_6 rfl rfl ?_
      refine am_ite h (fun hc h => ?_) (fun hc h => ?_)
      · refine am_tswOut (t := 161) d_X12_costOf_70 hc (by decide) hF ?_
        refine am_seg s_M_costOf_7 (y := (166, [(0, .ref 140), (1, .int a1), (2, .int a2), (3, .int a3), (4, .int a4)], [.int (nI 1), .ref 141], am_D τ)) hF t_s_M_costOf_7 rfl rfl ?_
        refine am_iald (n := 1060) (j := 1) d_X12_costOf_166 (Nat.le_of_ble_eq_true rfl) (Nat.le_of_ble_eq_true rfl) rfl (by decide) rfl hF ?_
        refine am_ite h (fun hc h => ?_) (fun hc h => ?_)
        · refine am_if_ne_f (t := 175) d_X12_costOf_167 (by decide) hc hF ?_
          refine am_seg s_M_costOf_9 (y := (180, [(0, .ref 140), (1, .int a1), (2, .int a2), (3, .int a3), (4, .int a4)], [.int (-3 : Int32)], am_D τ)) hF t_s_M_costOf_9 rfl rfl ?_
          obtain ⟨rfl, rfl⟩ := am_pair h
          exact am_iret d_X12_costOf_180 hF hB
        · refine am_if_ne_t (t := 175) d_X12_costOf_167 (by decide) hc hF ?_
          refine am_seg s_M_costOf_8 (y := (177, [(0, .ref 140), (1, .int a1), (2, .int a2), (3, .int a3), (4, .int a4)], [.int a1, .ref 140], am_D τ)) hF t_s_M_costOf_8 rfl rfl ?_
          refine am_bd h (fun x3 hx h => ?_)
          refine am_callV (As := [.int a1]) (r := (some (.int x3.1))) (st := []) (σ' := am_D x3.2) (ci := 12) hF hR d_X12_costOf_177 (c_M_levelOf (τ' := x3.2) hx) (Nat.le_refl _) (Nat.le_refl _) wl_M_248 wi_yX12_levelOf we_yX12_levelOf wn_ShareHouseModel wc_yX12_levelOf (Nat.le_of_ble_eq_true rfl) (Nat.le_of_ble_eq_true rfl) rfl rfl wy_yX12_levelOf rfl ⟨by decide, by decide⟩ (Nat.le_of_ble_eq_true rfl) ?_
          obtain ⟨rfl, rfl⟩ := am_pair h
          exact am_iret d_X12_costOf_180 hF hB
      · refine am_ite h (fun hc h => ?_) (fun hc h => ?_)
        · refine am_tswIn (y := nI 0) (o := 42) (t := 112) d_X12_costOf_70 hc (by decide) (by decide) rfl (by decide) hF ?_
          refine am_seg s_M_costOf_10 (y := (115, [(0, .ref 140), (1, .int a1), (2, .int a2), (3, .int a3), (4, .int a4)], [.int (nI 0), .int a1, .ref 140], am_D τ)) hF t_s_M_costOf_10 rfl rfl ?_
          refine am_bd h (fun x4 hx h => ?_)
          refine am_callV (As := [.int a1, .int (nI 0)]) (r := (some (.int x4.1))) (st := []) (σ' := am_D x4.2) (ci := 12) hF hR d_X12_costOf_115 (c_M_costAt (τ' := x4.2) hx) (Nat.le_refl _) (Nat.le_refl _) wl_M_233 wi_yX12_costAt we_yX12_costAt wn_ShareHouseModel wc_yX12_costAt (Nat.le_of_ble_eq_true rfl) (Nat.le_of_ble_eq_true rfl) rfl rfl wy_yX12_costAt rfl ⟨by decide, by decide⟩ (Nat.le_of_ble_eq_true rfl) ?_
          obtain ⟨rfl, rfl⟩ := am_pair h
          exact am_iret d_X12_costOf_118 hF hB
        · refine am_ite h (fun hc h => ?_) (fun hc h => ?_)
          · refine am_tswIn (y := nI 1) (o := 49) (t := 119) d_X12_costOf_70 hc (by decide) (by decide) rfl (by decide) hF ?_
            refine am_seg s_M_costOf_11 (y := (122, [(0, .ref 140), (1, .int a1), (2, .int a2), (3, .int a3), (4, .int a4)], [.int (nI 1), .int a1, .ref 140], am_D τ)) hF t_s_M_costOf_11 rfl rfl ?_
            refine am_bd h (fun x5 hx h => ?_)
            refine am_callV (As := [.int a1, .int (nI 1)]) (r := (some (.int x5.1))) (st := []) (σ' := am_D x5.2) (ci := 12) hF hR d_X12_costOf_122 (c_M_costAt (τ' := x5.2) hx) (Nat.le_refl _) (Nat.le_refl _) wl_M_233 wi_yX12_costAt we_yX12_costAt wn_ShareHouseModel wc_yX12_costAt (Nat.le_of_ble_eq_true rfl) (Nat.le_of_ble_eq_true rfl) rfl rfl wy_yX12_costAt rfl ⟨by decide, by decide⟩ (Nat.le_of_ble_eq_true rfl) ?_
            obtain ⟨rfl, rfl⟩ := am_pair h
            exact am_iret d_X12_costOf_125 hF hB
          · refine am_ite h (fun hc h => ?_) (fun hc h => ?_)
            · refine am_tswIn (y := nI 2) (o := 56) (t := 126) d_X12_costOf_70 hc (by decide) (by decide) rfl (by decide) hF ?_
              refine am_seg s_M_costOf_12 (y := (133, [(0, .ref 140), (1, .int a1), (2, .int a2), (3, .int a3), (4, .int a4)], [.int (nI 0), .ref 141, .int a1, .ref 140], am_D τ)) hF t_s_M_costOf_12 rfl rfl ?_
              refine am_iald (n := 1060) (j := 0) d_X12_costOf_133 (Nat.le_of_ble_eq_true rfl) (Nat.le_of_ble_eq_true rfl) rfl (by decide) rfl hF ?_
              refine am_bd h (fun x6 hx h => ?_)
              refine am_callV (As := [.int a1, .int (τ.1 141 0)]) (r := (some (.int x6.1))) (st := []) (σ' := am_D x6.2) (ci := 12) hF hR d_X12_costOf_134 (c_M_pence (τ' := x6.2) hx) (Nat.le_refl _) (Nat.le_refl _) wl_M_242 wi_yX12_pence we_yX12_pence wn_ShareHouseModel wc_yX12_pence (Nat.le_of_ble_eq_true rfl) (Nat.le_of_ble_eq_true rfl) rfl rfl wy_yX12_pence rfl ⟨by decide, by decide⟩ (Nat.le_of_ble_eq_true rfl) ?_
              obtain ⟨rfl, rfl⟩ := am_pair h
              exact am_iret d_X12_costOf_137 hF hB
            · refine am_ite h (fun hc h => ?_) (fun hc h => ?_)
              · refine am_tswIn (y := nI 3) (o := 68) (t := 138) d_X12_costOf_70 hc (by decide) (by decide) rfl (by decide) hF ?_
                refine am_seg s_M_costOf_13 (y := (141, [(0, .ref 140), (1, .int a1), (2, .int a2), (3, .int a3), (4, .int a4)], [.int (nI 2), .int a1, .ref 140], am_D τ)) hF t_s_M_costOf_13 rfl rfl ?_
                refine am_bd h (fun x7 hx h => ?_)
                refine am_callV (As := [.int a1, .int (nI 2)]) (r := (some (.int x7.1))) (st := []) (σ' := am_D x7.2) (ci := 12) hF hR d_X12_costOf_141 (c_M_costAt (τ' := x7.2) hx) (Nat.le_refl _) (Nat.le_refl _) wl_M_233 wi_yX12_costAt we_yX12_costAt wn_ShareHouseModel wc_yX12_costAt (Nat.le_of_ble_eq_true rfl) (Nat.le_of_ble_eq_true rfl) rfl rfl wy_yX12_costAt rfl ⟨by decide, by decide⟩ (Nat.le_of_ble_eq_true rfl) ?_
                obtain ⟨rfl, rfl⟩ := am_pair h
                exact am_iret d_X12_costOf_144 hF hB
              · refine am_ite h (fun hc h => ?_) (fun hc h => ?_)
                · refine am_tswIn (y := nI 4) (o := 75) (t := 145) d_X12_costOf_70 hc (by decide) (by decide) rfl (by decide) hF ?_
                  refine am_seg s_M_costOf_14 (y := (148, [(0, .ref 140), (1, .int a1), (2, .int a2), (3, .int a3), (4, .int a4)], [.int (nI 3), .int a1, .ref 140], am_D τ)) hF t_s_M_costOf_14 rfl rfl ?_
                  refine am_bd h (fun x8 hx h => ?_)
                  refine am_callV (As := [.int a1, .int (nI 3)]) (r := (some (.int x8.1))) (st := []) (σ' := am_D x8.2) (ci := 12) hF hR d_X12_costOf_148 (c_M_costAt (τ' := x8.2) hx) (Nat.le_refl _) (Nat.le_refl _) wl_M_233 wi_yX12_costAt we_yX12_costAt wn_ShareHouseModel wc_yX12_costAt (Nat.le_of_ble_eq_true rfl) (Nat.le_of_ble_eq_true rfl) rfl rfl wy_yX12_costAt rfl ⟨by decide, by decide⟩ (Nat.le_of_ble_eq_true rfl) ?_
                  obtain ⟨rfl, rfl⟩ := am_pair h
                  exact am_iret d_X12_costOf_151 hF hB
                · refine am_ite h (fun hc h => ?_) (fun hc h => ?_)
                  · refine am_tswIn (y := nI 5) (o := 82) (t := 152) d_X12_costOf_70 hc (by decide) (by decide) rfl (by decide) hF ?_
                    refine am_seg s_M_costOf_15 (y := (155, [(0, .ref 140), (1, .int a1), (2, .int a2), (3, .int a3), (4, .int a4)], [.int (nI 4), .int a1, .ref 140], am_D τ)) hF t_s_M_costOf_15 rfl rfl ?_
                    refine am_bd h (fun x9 hx h => ?_)
                    refine am_callV (As := [.int a1, .int (nI 4)]) (r := (some (.int x9.1))) (st := []) (σ' := am_D x9.2) (ci := 12) hF hR d_X12_costOf_155 (c_M_costAt (τ' := x9.2) hx) (Nat.le_refl _) (Nat.le_refl _) wl_M_233 wi_yX12_costAt we_yX12_costAt wn_ShareHouseModel wc_yX12_costAt (Nat.le_of_ble_eq_true rfl) (Nat.le_of_ble_eq_true rfl) rfl rfl wy_yX12_costAt rfl ⟨by decide, by decide⟩ (Nat.le_of_ble_eq_true rfl) ?_
                    obtain ⟨rfl, rfl⟩ := am_pair h
                    exact am_iret d_X12_costOf_158 hF hB
                  · refine am_ite h (fun hc h => ?_) (fun hc h => ?_)
                    · refine am_tswIn (y := nI 6) (o := 89) (t := 159) d_X12_costOf_70 hc (by decide) (by decide) rfl (by decide) hF ?_
                      refine am_seg s_M_costOf_16 (y := (160, [(0, .ref 140), (1, .int a1), (2, .int a2), (3, .int a3), (4, .int a4)], [.int a3], am_D τ)) hF t_s_M_costOf_16 rfl rfl ?_
                      obtain ⟨rfl, rfl⟩ := am_pair h
                      exact am_iret d_X12_costOf_160 hF hB
                    · cases h
    · refine am_icmp_ge_f (t := 69) d_X12_costOf_41 (by decide) hc hF ?_
      refine am_seg s_M_costOf_17 (y := (51, [(0, .ref 140), (1, .int a1), (2, .int a2), (3, .int a3), (4, .int a4)], [.int a4, .ref 141, .int a3], am_D τ)) hF t_s_M_costOf_17 rfl rfl ?_
      refine am_gd h (fun hi h => ?_)
      refine am_iald (n := 1060) (j := (a4.toNatClampNeg)) d_X12_costOf_51 (Nat.le_of_ble_eq_true rfl) (Nat.le_of_ble_eq_true rfl) rfl hi rfl hF ?_
      refine am_seg s_M_costOf_18 (y := (53, [(0, .ref 140), (1, .int a1), (2, .int a2), (3, .int a3), (4, .int a4)], [.int a1, .int (τ.1 141 (a4.toNatClampNeg)), .int a3], am_D τ)) hF t_s_M_costOf_18 rfl rfl ?_
      refine am_ite h (fun hc h => ?_) (fun hc h => ?_)
      · refine am_icmp_ne_f (t := 60) d_X12_costOf_53 (by decide) hc hF ?_
        refine am_seg s_M_costOf_20 (y := (27, [(4, .int (a4 + (nI 3))), (3, .int (a3 + (nI 1))), (0, .ref 140), (1, .int a1), (2, .int a2)], [], am_D τ)) hF t_s_M_costOf_20 rfl rfl ?_
        refine am_pick [2, 3, 4, 1, 0] rfl ?_
        exact ih _ _ _ _ _ h
      · refine am_icmp_ne_t (t := 60) d_X12_costOf_53 (by decide) hc hF ?_
        refine am_seg s_M_costOf_19 (y := (27, [(4, .int (a4 + (nI 3))), (3, .int (a3 + (nI 0))), (0, .ref 140), (1, .int a1), (2, .int a2)], [], am_D τ)) hF t_s_M_costOf_19 rfl rfl ?_
        refine am_pick [2, 3, 4, 1, 0] rfl ?_
        exact ih _ _ _ _ _ h
def M_costOf (τ : am_T) (a1 : Int32) (a2 : Int32) : Option (Int32 × am_T) :=
  (M_isCost τ a1).bind (fun x1 =>
  if x1.1 = 0 then
  (some ((-1 : Int32), x1.2))
else
  ((M_in x1.2 a2 (nI 0) (nI 7)).bind (fun x2 =>
  if x2.1 = 0 then
  (some ((-1 : Int32), x2.2))
else
  (M_costOf_27 5000 x2.2 a1 a2 (nI 0) (nI 730)))))
set_option maxRecDepth 20000 in
theorem ok_M_costOf {X : am_X} {a1 : Int32} {a2 : Int32} {v : Int32} {τ τ' : am_T} (hF : am_F X "ShareHouseModel" cX12_costOf 5) (hR : am_R X 3 67) (hB : am_B X (some .int) (some (.int v)) (am_D τ')) (h : M_costOf τ a1 a2 = some (v, τ')) : am_W X 5 (0, [(0, .ref 140), (1, .int a1), (2, .int a2)], [], am_D τ) := by
  unfold M_costOf at h
  refine am_seg s_M_costOf_0 (y := (2, [(0, .ref 140), (1, .int a1), (2, .int a2)], [.int a1, .ref 140], am_D τ)) hF t_s_M_costOf_0 rfl rfl ?_
  refine am_bd h (fun x1 hx h => ?_)
  refine am_callV (As := [.int a1]) (r := (some (.int x1.1))) (st := []) (σ' := am_D x1.2) (ci := 12) hF hR d_X12_costOf_2 (c_M_isCost (τ' := x1.2) hx) (Nat.le_refl _) (Nat.le_refl _) wl_M_236 wi_yX12_isCost we_yX12_isCost wn_ShareHouseModel wc_yX12_isCost (Nat.le_of_ble_eq_true rfl) (Nat.le_of_ble_eq_true rfl) rfl rfl wy_yX12_isCost rfl ⟨by decide, by decide⟩ (Nat.le_of_ble_eq_true rfl) ?_
  refine am_ite h (fun hc h => ?_) (fun hc h => ?_)
  · refine am_if_eq_t (t := 18) d_X12_costOf_5 (by decide) hc hF ?_
    refine am_seg s_M_costOf_1 (y := (19, [(0, .ref 140), (1, .int a1), (2, .int a2)], [.int (-1 : Int32)], am_D x1.2)) hF t_s_M_costOf_1 rfl rfl ?_
    obtain ⟨rfl, rfl⟩ := am_pair h
    exact am_iret d_X12_costOf_19 hF hB
  · refine am_if_eq_f (t := 18) d_X12_costOf_5 (by decide) hc hF ?_
    refine am_seg s_M_costOf_2 (y := (12, [(0, .ref 140), (1, .int a1), (2, .int a2)], [.int (nI 7), .int (nI 0), .int a2], am_D x1.2)) hF t_s_M_costOf_2 rfl rfl ?_
    refine am_bd h (fun x2 hx h => ?_)
    refine am_callS (As := [.int a2, .int (nI 0), .int (nI 7)]) (r := (some (.int x2.1))) (st := []) (σ' := am_D x2.2) hF hR d_X12_costOf_12 (c_M_in (τ' := x2.2) hx) (Nat.le_refl _) (Nat.le_refl _) wl_M_51 ws_yX12_in wn_ShareHouseModel wc_yX12_in wy_yX12_in rfl ⟨by decide, by decide⟩ (Nat.le_of_ble_eq_true rfl) ?_
    refine am_ite h (fun hc h => ?_) (fun hc h => ?_)
    · refine am_if_ne_f (t := 20) d_X12_costOf_15 (by decide) hc hF ?_
      refine am_seg s_M_costOf_21 (y := (19, [(0, .ref 140), (1, .int a1), (2, .int a2)], [.int (-1 : Int32)], am_D x2.2)) hF t_s_M_costOf_21 rfl rfl ?_
      obtain ⟨rfl, rfl⟩ := am_pair h
      exact am_iret d_X12_costOf_19 hF hB
    · refine am_if_ne_t (t := 20) d_X12_costOf_15 (by decide) hc hF ?_
      refine am_seg s_M_costOf_3 (y := (27, [(4, .int (nI 730)), (3, .int (nI 0)), (0, .ref 140), (1, .int a1), (2, .int a2)], [], am_D x2.2)) hF t_s_M_costOf_3 rfl rfl ?_
      refine am_pick [2, 3, 4, 1, 0] rfl ?_
      exact ok_M_costOf_27 hF hR hB _ _ _ _ _ _ h
theorem c_M_costOf {a1 : Int32} {a2 : Int32} {v : Int32} {τ τ' : am_T} (h : M_costOf τ a1 a2 = some (v, τ')) : am_C yX12_costOf cX12_costOf 5 (some .int) 3 67 [.ref 140, .int a1, .int a2] (am_D τ) (some (.int v)) (am_D τ') :=
  am_enter (by decide +kernel) (Nat.le_of_ble_eq_true rfl) ⟨Nat.le_refl _, Nat.le_refl _⟩ (fun X hF hR hB => ok_M_costOf hF hR hB h)
def s_M_dueLine_0 : List am_Q := [(0, .aload_n 0, 0, 0, 0, .null), (1, .getfield 7, 12, 0, 152, .null), (4, .bipush 16, 0, 0, 0, .int (nI 16)), (6, .iload_n 1, 0, 0, 0, .null), (7, .iadd, 0, 0, 0, .null)]
theorem t_s_M_dueLine_0 : s_M_dueLine_0.all (am_ok 12 cX12_dueLine) = true := by decide +kernel
theorem d_X12_dueLine_8 : decode cX12_dueLine 8 = .ok (.iaload, 1) := by decide +kernel
def s_M_dueLine_1 : List am_Q := [(9, .iconst 1, 0, 0, 0, .int (nI 1))]
theorem t_s_M_dueLine_1 : s_M_dueLine_1.all (am_ok 12 cX12_dueLine) = true := by decide +kernel
theorem d_X12_dueLine_10 : decode cX12_dueLine 10 = .ok (.if_icmp .eq 28, 3) := by decide +kernel
def s_M_dueLine_2 : List am_Q := [(38, .iconst 1, 0, 0, 0, .int (nI 1)), (39, .goto 4, 43, 0, 0, .null)]
theorem t_s_M_dueLine_2 : s_M_dueLine_2.all (am_ok 12 cX12_dueLine) = true := by decide +kernel
def s_M_dueLine_3 : List am_Q := [(43, .istore_n 2, 0, 0, 0, .null), (44, .iload_n 2, 0, 0, 0, .null)]
theorem t_s_M_dueLine_3 : s_M_dueLine_3.all (am_ok 12 cX12_dueLine) = true := by decide +kernel
theorem d_X12_dueLine_45 : decode cX12_dueLine 45 = .ok (.ifCond .eq 19, 3) := by decide +kernel
def s_M_dueLine_4 : List am_Q := [(64, .aload_n 0, 0, 0, 0, .null), (65, .getfield 210, 12, 18, 170, .null)]
theorem t_s_M_dueLine_4 : s_M_dueLine_4.all (am_ok 12 cX12_dueLine) = true := by decide +kernel
theorem d_X12_dueLine_68 : decode cX12_dueLine 68 = .ok (.lreturn, 1) := by decide +kernel
def s_M_dueLine_5 : List am_Q := [(48, .aload_n 0, 0, 0, 0, .null), (49, .getfield 214, 12, 19, 171, .null), (52, .lconst 0, 0, 0, 0, .long (lN 0)), (53, .lcmp, 0, 0, 0, .null)]
theorem t_s_M_dueLine_5 : s_M_dueLine_5.all (am_ok 12 cX12_dueLine) = true := by decide +kernel
theorem d_X12_dueLine_54 : decode cX12_dueLine 54 = .ok (.ifCond .le 10, 3) := by decide +kernel
def s_M_dueLine_6 : List am_Q := [(64, .aload_n 0, 0, 0, 0, .null), (65, .getfield 210, 12, 18, 170, .null)]
theorem t_s_M_dueLine_6 : s_M_dueLine_6.all (am_ok 12 cX12_dueLine) = true := by decide +kernel
def s_M_dueLine_7 : List am_Q := [(57, .aload_n 0, 0, 0, 0, .null), (58, .getfield 214, 12, 19, 171, .null), (61, .goto 7, 68, 0, 0, .null)]
theorem t_s_M_dueLine_7 : s_M_dueLine_7.all (am_ok 12 cX12_dueLine) = true := by decide +kernel
def s_M_dueLine_8 : List am_Q := [(13, .aload_n 0, 0, 0, 0, .null), (14, .getfield 7, 12, 0, 152, .null), (17, .bipush 16, 0, 0, 0, .int (nI 16)), (19, .iload_n 1, 0, 0, 0, .null), (20, .iadd, 0, 0, 0, .null)]
theorem t_s_M_dueLine_8 : s_M_dueLine_8.all (am_ok 12 cX12_dueLine) = true := by decide +kernel
theorem d_X12_dueLine_21 : decode cX12_dueLine 21 = .ok (.iaload, 1) := by decide +kernel
def s_M_dueLine_9 : List am_Q := [(22, .iconst 2, 0, 0, 0, .int (nI 2))]
theorem t_s_M_dueLine_9 : s_M_dueLine_9.all (am_ok 12 cX12_dueLine) = true := by decide +kernel
theorem d_X12_dueLine_23 : decode cX12_dueLine 23 = .ok (.if_icmp .ne 19, 3) := by decide +kernel
def s_M_dueLine_10 : List am_Q := [(42, .iconst 0, 0, 0, 0, .int (nI 0))]
theorem t_s_M_dueLine_10 : s_M_dueLine_10.all (am_ok 12 cX12_dueLine) = true := by decide +kernel
def s_M_dueLine_11 : List am_Q := [(26, .aload_n 0, 0, 0, 0, .null), (27, .getfield 214, 12, 19, 171, .null), (30, .aload_n 0, 0, 0, 0, .null), (31, .getfield 210, 12, 18, 170, .null), (34, .lcmp, 0, 0, 0, .null)]
theorem t_s_M_dueLine_11 : s_M_dueLine_11.all (am_ok 12 cX12_dueLine) = true := by decide +kernel
theorem d_X12_dueLine_35 : decode cX12_dueLine 35 = .ok (.ifCond .le 7, 3) := by decide +kernel
def s_M_dueLine_12 : List am_Q := [(42, .iconst 0, 0, 0, 0, .int (nI 0))]
theorem t_s_M_dueLine_12 : s_M_dueLine_12.all (am_ok 12 cX12_dueLine) = true := by decide +kernel
def s_M_dueLine_13 : List am_Q := [(38, .iconst 1, 0, 0, 0, .int (nI 1)), (39, .goto 4, 43, 0, 0, .null)]
theorem t_s_M_dueLine_13 : s_M_dueLine_13.all (am_ok 12 cX12_dueLine) = true := by decide +kernel
def M_dueLine_43 (τ : am_T) (s0 : Int32) : Option (Int64 × am_T) :=
  if s0 = 0 then
  (some ((τ.2 140 18), τ))
else
  (if (lg_cmp (τ.2 140 19) (lN 0)) ≤ 0 then
  (some ((τ.2 140 18), τ))
else
  (some ((τ.2 140 19), τ)))
set_option maxRecDepth 20000 in
theorem ok_M_dueLine_43 {X : am_X} {v : Int64} {τ' : am_T} (hF : am_F X "ShareHouseModel" cX12_dueLine 3) (hR : am_R X 0 0) (hB : am_B X (some .long) (some (.long v)) (am_D τ')) {τ : am_T} {s0 : Int32} (h : M_dueLine_43 τ s0 = some (v, τ')) : am_W X 3 (43, [(0, .ref 140)], [.int s0], am_D τ) := by
  unfold M_dueLine_43 at h
  refine am_seg s_M_dueLine_3 (y := (45, [(2, .int s0), (0, .ref 140)], [.int s0], am_D τ)) hF t_s_M_dueLine_3 rfl rfl ?_
  refine am_ite h (fun hc h => ?_) (fun hc h => ?_)
  · refine am_if_eq_t (t := 64) d_X12_dueLine_45 (by decide) hc hF ?_
    refine am_seg s_M_dueLine_4 (y := (68, [(2, .int s0), (0, .ref 140)], [.long (τ.2 140 18)], am_D τ)) hF t_s_M_dueLine_4 rfl rfl ?_
    obtain ⟨rfl, rfl⟩ := am_pair h
    exact am_lret d_X12_dueLine_68 hF hB
  · refine am_if_eq_f (t := 64) d_X12_dueLine_45 (by decide) hc hF ?_
    refine am_seg s_M_dueLine_5 (y := (54, [(2, .int s0), (0, .ref 140)], [.int (lg_cmp (τ.2 140 19) (lN 0))], am_D τ)) hF t_s_M_dueLine_5 rfl rfl ?_
    refine am_ite h (fun hc h => ?_) (fun hc h => ?_)
    · refine am_if_le_t (t := 64) d_X12_dueLine_54 (by decide) hc hF ?_
      refine am_seg s_M_dueLine_6 (y := (68, [(2, .int s0), (0, .ref 140)], [.long (τ.2 140 18)], am_D τ)) hF t_s_M_dueLine_6 rfl rfl ?_
      obtain ⟨rfl, rfl⟩ := am_pair h
      exact am_lret d_X12_dueLine_68 hF hB
    · refine am_if_le_f (t := 64) d_X12_dueLine_54 (by decide) hc hF ?_
      refine am_seg s_M_dueLine_7 (y := (68, [(2, .int s0), (0, .ref 140)], [.long (τ.2 140 19)], am_D τ)) hF t_s_M_dueLine_7 rfl rfl ?_
      obtain ⟨rfl, rfl⟩ := am_pair h
      exact am_lret d_X12_dueLine_68 hF hB
def M_dueLine (τ : am_T) (a1 : Int32) : Option (Int64 × am_T) :=
  am_g (am_in ((nI 16) + a1) 1060) (if (τ.1 141 (((nI 16) + a1).toNatClampNeg)) = (nI 1) then
  (M_dueLine_43 τ (nI 1))
else
  (am_g (am_in ((nI 16) + a1) 1060) (if (τ.1 141 (((nI 16) + a1).toNatClampNeg)) = (nI 2) then
  (if (lg_cmp (τ.2 140 19) (τ.2 140 18)) ≤ 0 then
  (M_dueLine_43 τ (nI 0))
else
  (M_dueLine_43 τ (nI 1)))
else
  (M_dueLine_43 τ (nI 0)))))
set_option maxRecDepth 20000 in
theorem ok_M_dueLine {X : am_X} {a1 : Int32} {v : Int64} {τ τ' : am_T} (hF : am_F X "ShareHouseModel" cX12_dueLine 3) (hR : am_R X 0 0) (hB : am_B X (some .long) (some (.long v)) (am_D τ')) (h : M_dueLine τ a1 = some (v, τ')) : am_W X 3 (0, [(0, .ref 140), (1, .int a1)], [], am_D τ) := by
  unfold M_dueLine at h
  refine am_seg s_M_dueLine_0 (y := (8, [(0, .ref 140), (1, .int a1)], [.int ((nI 16) + a1), .ref 141], am_D τ)) hF t_s_M_dueLine_0 rfl rfl ?_
  refine am_gd h (fun hi h => ?_)
  refine am_iald (n := 1060) (j := (((nI 16) + a1).toNatClampNeg)) d_X12_dueLine_8 (Nat.le_of_ble_eq_true rfl) (Nat.le_of_ble_eq_true rfl) rfl hi rfl hF ?_
  refine am_seg s_M_dueLine_1 (y := (10, [(0, .ref 140), (1, .int a1)], [.int (nI 1), .int (τ.1 141 (((nI 16) + a1).toNatClampNeg))], am_D τ)) hF t_s_M_dueLine_1 rfl rfl ?_
  refine am_ite h (fun hc h => ?_) (fun hc h => ?_)
  · refine am_icmp_eq_t (t := 38) d_X12_dueLine_10 (by decide) hc hF ?_
    refine am_seg s_M_dueLine_2 (y := (43, [(0, .ref 140), (1, .int a1)], [.int (nI 1)], am_D τ)) hF t_s_M_dueLine_2 rfl rfl ?_
    refine am_pick [0] rfl ?_
    exact ok_M_dueLine_43 hF hR hB h
  · refine am_icmp_eq_f (t := 38) d_X12_dueLine_10 (by decide) hc hF ?_
    refine am_seg s_M_dueLine_8 (y := (21, [(0, .ref 140), (1, .int a1)], [.int ((nI 16) + a1), .ref 141], am_D τ)) hF t_s_M_dueLine_8 rfl rfl ?_
    refine am_gd h (fun hi h => ?_)
    refine am_iald (n := 1060) (j := (((nI 16) + a1).toNatClampNeg)) d_X12_dueLine_21 (Nat.le_of_ble_eq_true rfl) (Nat.le_of_ble_eq_true rfl) rfl hi rfl hF ?_
    refine am_seg s_M_dueLine_9 (y := (23, [(0, .ref 140), (1, .int a1)], [.int (nI 2), .int (τ.1 141 (((nI 16) + a1).toNatClampNeg))], am_D τ)) hF t_s_M_dueLine_9 rfl rfl ?_
    refine am_ite h (fun hc h => ?_) (fun hc h => ?_)
    · refine am_icmp_ne_f (t := 42) d_X12_dueLine_23 (by decide) hc hF ?_
      refine am_seg s_M_dueLine_11 (y := (35, [(0, .ref 140), (1, .int a1)], [.int (lg_cmp (τ.2 140 19) (τ.2 140 18))], am_D τ)) hF t_s_M_dueLine_11 rfl rfl ?_
      refine am_ite h (fun hc h => ?_) (fun hc h => ?_)
      · refine am_if_le_t (t := 42) d_X12_dueLine_35 (by decide) hc hF ?_
        refine am_seg s_M_dueLine_12 (y := (43, [(0, .ref 140), (1, .int a1)], [.int (nI 0)], am_D τ)) hF t_s_M_dueLine_12 rfl rfl ?_
        refine am_pick [0] rfl ?_
        exact ok_M_dueLine_43 hF hR hB h
      · refine am_if_le_f (t := 42) d_X12_dueLine_35 (by decide) hc hF ?_
        refine am_seg s_M_dueLine_13 (y := (43, [(0, .ref 140), (1, .int a1)], [.int (nI 1)], am_D τ)) hF t_s_M_dueLine_13 rfl rfl ?_
        refine am_pick [0] rfl ?_
        exact ok_M_dueLine_43 hF hR hB h
    · refine am_icmp_ne_t (t := 42) d_X12_dueLine_23 (by decide) hc hF ?_
      refine am_seg s_M_dueLine_10 (y := (43, [(0, .ref 140), (1, .int a1)], [.int (nI 0)], am_D τ)) hF t_s_M_dueLine_10 rfl rfl ?_
      refine am_pick [0] rfl ?_
      exact ok_M_dueLine_43 hF hR hB h
theorem c_M_dueLine {a1 : Int32} {v : Int64} {τ τ' : am_T} (h : M_dueLine τ a1 = some (v, τ')) : am_C yX12_dueLine cX12_dueLine 3 (some .long) 0 0 [.ref 140, .int a1] (am_D τ) (some (.long v)) (am_D τ') :=
  am_enter (by decide +kernel) (Nat.le_of_ble_eq_true rfl) ⟨Nat.le_refl _, Nat.le_refl _⟩ (fun X hF hR hB => ok_M_dueLine hF hR hB h)
def s_M_findParts_0 : List am_Q := [(0, .aload_n 0, 0, 0, 0, .null), (1, .iload_n 1, 0, 0, 0, .null), (2, .iconst 0, 0, 0, 0, .int (nI 0))]
theorem t_s_M_findParts_0 : s_M_findParts_0.all (am_ok 12 cX12_findParts) = true := by decide +kernel
theorem d_X12_findParts_3 : decode cX12_findParts 3 = .ok (.invokevirtual 233, 3) := by decide +kernel
def s_M_findParts_1 : List am_Q := [(6, .istore_n 3, 0, 0, 0, .null), (7, .aload_n 0, 0, 0, 0, .null), (8, .iload_n 1, 0, 0, 0, .null), (9, .iload_n 2, 0, 0, 0, .null)]
theorem t_s_M_findParts_1 : s_M_findParts_1.all (am_ok 12 cX12_findParts) = true := by decide +kernel
theorem d_X12_findParts_10 : decode cX12_findParts 10 = .ok (.invokevirtual 242, 3) := by decide +kernel
def s_M_findParts_2 : List am_Q := [(13, .istore 4, 0, 0, 0, .null), (15, .aload_n 0, 0, 0, 0, .null), (16, .iload_n 3, 0, 0, 0, .null)]
theorem t_s_M_findParts_2 : s_M_findParts_2.all (am_ok 12 cX12_findParts) = true := by decide +kernel
theorem d_X12_findParts_17 : decode cX12_findParts 17 = .ok (.invokevirtual 219, 3) := by decide +kernel
def s_M_findParts_3 : List am_Q := [(20, .aload_n 0, 0, 0, 0, .null), (21, .iload_n 3, 0, 0, 0, .null)]
theorem t_s_M_findParts_3 : s_M_findParts_3.all (am_ok 12 cX12_findParts) = true := by decide +kernel
theorem d_X12_findParts_22 : decode cX12_findParts 22 = .ok (.invokevirtual 251, 3) := by decide +kernel
def s_M_findParts_4 : List am_Q := [(25, .lstore 5, 0, 0, 0, .null), (27, .iload 4, 0, 0, 0, .null), (29, .istore 7, 0, 0, 0, .null), (31, .iconst 0, 0, 0, 0, .int (nI 0)), (32, .istore 8, 0, 0, 0, .null)]
theorem t_s_M_findParts_4 : s_M_findParts_4.all (am_ok 12 cX12_findParts) = true := by decide +kernel
def s_M_findParts_5 : List am_Q := [(34, .iload 8, 0, 0, 0, .null), (36, .aload_n 0, 0, 0, 0, .null), (37, .getfield 7, 12, 0, 152, .null), (40, .iconst 1, 0, 0, 0, .int (nI 1))]
theorem t_s_M_findParts_5 : s_M_findParts_5.all (am_ok 12 cX12_findParts) = true := by decide +kernel
theorem d_X12_findParts_41 : decode cX12_findParts 41 = .ok (.iaload, 1) := by decide +kernel
theorem d_X12_findParts_42 : decode cX12_findParts 42 = .ok (.if_icmp .ge 64, 3) := by decide +kernel
def s_M_findParts_6 : List am_Q := [(106, .aload_n 0, 0, 0, 0, .null), (107, .getfield 214, 12, 19, 171, .null), (110, .lload 5, 0, 0, 0, .null), (112, .lcmp, 0, 0, 0, .null)]
theorem t_s_M_findParts_6 : s_M_findParts_6.all (am_ok 12 cX12_findParts) = true := by decide +kernel
theorem d_X12_findParts_113 : decode cX12_findParts 113 = .ok (.ifCond .ne 7, 3) := by decide +kernel
def s_M_findParts_7 : List am_Q := [(120, .iconst 0, 0, 0, 0, .int (nI 0)), (121, .istore 8, 0, 0, 0, .null)]
theorem t_s_M_findParts_7 : s_M_findParts_7.all (am_ok 12 cX12_findParts) = true := by decide +kernel
def s_M_findParts_8 : List am_Q := [(123, .iload 8, 0, 0, 0, .null)]
theorem t_s_M_findParts_8 : s_M_findParts_8.all (am_ok 12 cX12_findParts) = true := by decide +kernel
theorem d_X12_findParts_125 : decode cX12_findParts 125 = .ok (.ifCond .eq 85, 3) := by decide +kernel
def s_M_findParts_9 : List am_Q := [(210, .aload_n 0, 0, 0, 0, .null), (211, .iload 4, 0, 0, 0, .null), (213, .putfield 257, 12, 22, 174, .null), (216, .iconst 0, 0, 0, 0, .int (nI 0)), (217, .istore 9, 0, 0, 0, .null)]
theorem t_s_M_findParts_9 : s_M_findParts_9.all (am_ok 12 cX12_findParts) = true := by decide +kernel
def s_M_findParts_10 : List am_Q := [(219, .iload 9, 0, 0, 0, .null), (221, .aload_n 0, 0, 0, 0, .null), (222, .getfield 7, 12, 0, 152, .null), (225, .iconst 1, 0, 0, 0, .int (nI 1))]
theorem t_s_M_findParts_10 : s_M_findParts_10.all (am_ok 12 cX12_findParts) = true := by decide +kernel
theorem d_X12_findParts_226 : decode cX12_findParts 226 = .ok (.iaload, 1) := by decide +kernel
theorem d_X12_findParts_227 : decode cX12_findParts 227 = .ok (.if_icmp .ge 88, 3) := by decide +kernel
theorem d_X12_findParts_315 : decode cX12_findParts 315 = .ok (.return_, 1) := by decide +kernel
def s_M_findParts_11 : List am_Q := [(230, .aload_n 0, 0, 0, 0, .null), (231, .iload_n 1, 0, 0, 0, .null), (232, .iconst 4, 0, 0, 0, .int (nI 4))]
theorem t_s_M_findParts_11 : s_M_findParts_11.all (am_ok 12 cX12_findParts) = true := by decide +kernel
theorem d_X12_findParts_233 : decode cX12_findParts 233 = .ok (.invokevirtual 233, 3) := by decide +kernel
def s_M_findParts_12 : List am_Q := [(236, .iconst 1, 0, 0, 0, .int (nI 1))]
theorem t_s_M_findParts_12 : s_M_findParts_12.all (am_ok 12 cX12_findParts) = true := by decide +kernel
theorem d_X12_findParts_237 : decode cX12_findParts 237 = .ok (.if_icmp .ne 24, 3) := by decide +kernel
def s_M_findParts_13 : List am_Q := [(261, .iconst 0, 0, 0, 0, .int (nI 0))]
theorem t_s_M_findParts_13 : s_M_findParts_13.all (am_ok 12 cX12_findParts) = true := by decide +kernel
def s_M_findParts_14 : List am_Q := [(262, .istore 10, 0, 0, 0, .null), (264, .aload_n 0, 0, 0, 0, .null), (265, .getfield 26, 12, 20, 172, .null), (268, .iload 9, 0, 0, 0, .null), (270, .iload 10, 0, 0, 0, .null)]
theorem t_s_M_findParts_14 : s_M_findParts_14.all (am_ok 12 cX12_findParts) = true := by decide +kernel
theorem d_X12_findParts_272 : decode cX12_findParts 272 = .ok (.ifCond .eq 13, 3) := by decide +kernel
def s_M_findParts_15 : List am_Q := [(285, .aload_n 0, 0, 0, 0, .null), (286, .getfield 26, 12, 20, 172, .null), (289, .iload 9, 0, 0, 0, .null)]
theorem t_s_M_findParts_15 : s_M_findParts_15.all (am_ok 12 cX12_findParts) = true := by decide +kernel
theorem d_X12_findParts_291 : decode cX12_findParts 291 = .ok (.iaload, 1) := by decide +kernel
theorem d_X12_findParts_292 : decode cX12_findParts 292 = .ok (.iastore, 1) := by decide +kernel
def s_M_findParts_16 : List am_Q := [(293, .aload_n 0, 0, 0, 0, .null), (294, .dup, 0, 0, 0, .null), (295, .getfield 257, 12, 22, 174, .null), (298, .aload_n 0, 0, 0, 0, .null), (299, .getfield 26, 12, 20, 172, .null), (302, .iload 9, 0, 0, 0, .null)]
theorem t_s_M_findParts_16 : s_M_findParts_16.all (am_ok 12 cX12_findParts) = true := by decide +kernel
theorem d_X12_findParts_304 : decode cX12_findParts 304 = .ok (.iaload, 1) := by decide +kernel
def s_M_findParts_17 : List am_Q := [(305, .isub, 0, 0, 0, .null), (306, .putfield 257, 12, 22, 174, .null), (309, .iinc 9 1, 0, 0, 0, .int (nI 1)), (312, .goto (-93), 219, 0, 0, .null)]
theorem t_s_M_findParts_17 : s_M_findParts_17.all (am_ok 12 cX12_findParts) = true := by decide +kernel
def s_M_findParts_18 : List am_Q := [(275, .aload_n 0, 0, 0, 0, .null), (276, .getfield 7, 12, 0, 152, .null), (279, .bipush 11, 0, 0, 0, .int (nI 11))]
theorem t_s_M_findParts_18 : s_M_findParts_18.all (am_ok 12 cX12_findParts) = true := by decide +kernel
theorem d_X12_findParts_281 : decode cX12_findParts 281 = .ok (.iaload, 1) := by decide +kernel
def s_M_findParts_19 : List am_Q := [(282, .goto 10, 292, 0, 0, .null)]
theorem t_s_M_findParts_19 : s_M_findParts_19.all (am_ok 12 cX12_findParts) = true := by decide +kernel
def s_M_findParts_20 : List am_Q := [(240, .aload_n 0, 0, 0, 0, .null), (241, .getfield 26, 12, 20, 172, .null), (244, .iload 9, 0, 0, 0, .null)]
theorem t_s_M_findParts_20 : s_M_findParts_20.all (am_ok 12 cX12_findParts) = true := by decide +kernel
theorem d_X12_findParts_246 : decode cX12_findParts 246 = .ok (.iaload, 1) := by decide +kernel
def s_M_findParts_21 : List am_Q := [(247, .aload_n 0, 0, 0, 0, .null), (248, .getfield 7, 12, 0, 152, .null), (251, .bipush 11, 0, 0, 0, .int (nI 11))]
theorem t_s_M_findParts_21 : s_M_findParts_21.all (am_ok 12 cX12_findParts) = true := by decide +kernel
theorem d_X12_findParts_253 : decode cX12_findParts 253 = .ok (.iaload, 1) := by decide +kernel
theorem d_X12_findParts_254 : decode cX12_findParts 254 = .ok (.if_icmp .le 7, 3) := by decide +kernel
def s_M_findParts_22 : List am_Q := [(261, .iconst 0, 0, 0, 0, .int (nI 0))]
theorem t_s_M_findParts_22 : s_M_findParts_22.all (am_ok 12 cX12_findParts) = true := by decide +kernel
def s_M_findParts_23 : List am_Q := [(257, .iconst 1, 0, 0, 0, .int (nI 1)), (258, .goto 4, 262, 0, 0, .null)]
theorem t_s_M_findParts_23 : s_M_findParts_23.all (am_ok 12 cX12_findParts) = true := by decide +kernel
def s_M_findParts_24 : List am_Q := [(128, .iload 7, 0, 0, 0, .null)]
theorem t_s_M_findParts_24 : s_M_findParts_24.all (am_ok 12 cX12_findParts) = true := by decide +kernel
theorem d_X12_findParts_130 : decode cX12_findParts 130 = .ok (.ifCond .le 80, 3) := by decide +kernel
def s_M_findParts_25 : List am_Q := [(210, .aload_n 0, 0, 0, 0, .null), (211, .iload 4, 0, 0, 0, .null), (213, .putfield 257, 12, 22, 174, .null), (216, .iconst 0, 0, 0, 0, .int (nI 0)), (217, .istore 9, 0, 0, 0, .null)]
theorem t_s_M_findParts_25 : s_M_findParts_25.all (am_ok 12 cX12_findParts) = true := by decide +kernel
def s_M_findParts_26 : List am_Q := [(133, .iconst 0, 0, 0, 0, .int (nI 0)), (134, .istore 9, 0, 0, 0, .null), (136, .iconst 1, 0, 0, 0, .int (nI 1)), (137, .istore 10, 0, 0, 0, .null)]
theorem t_s_M_findParts_26 : s_M_findParts_26.all (am_ok 12 cX12_findParts) = true := by decide +kernel
def s_M_findParts_27 : List am_Q := [(139, .iload 10, 0, 0, 0, .null), (141, .aload_n 0, 0, 0, 0, .null), (142, .getfield 7, 12, 0, 152, .null), (145, .iconst 1, 0, 0, 0, .int (nI 1))]
theorem t_s_M_findParts_27 : s_M_findParts_27.all (am_ok 12 cX12_findParts) = true := by decide +kernel
theorem d_X12_findParts_146 : decode cX12_findParts 146 = .ok (.iaload, 1) := by decide +kernel
theorem d_X12_findParts_147 : decode cX12_findParts 147 = .ok (.if_icmp .ge 36, 3) := by decide +kernel
def s_M_findParts_28 : List am_Q := [(183, .aload_n 0, 0, 0, 0, .null), (184, .getfield 26, 12, 20, 172, .null), (187, .iload 9, 0, 0, 0, .null), (189, .dup2, 0, 0, 0, .null)]
theorem t_s_M_findParts_28 : s_M_findParts_28.all (am_ok 12 cX12_findParts) = true := by decide +kernel
theorem d_X12_findParts_190 : decode cX12_findParts 190 = .ok (.iaload, 1) := by decide +kernel
def s_M_findParts_29 : List am_Q := [(191, .iconst 1, 0, 0, 0, .int (nI 1)), (192, .iadd, 0, 0, 0, .null)]
theorem t_s_M_findParts_29 : s_M_findParts_29.all (am_ok 12 cX12_findParts) = true := by decide +kernel
theorem d_X12_findParts_193 : decode cX12_findParts 193 = .ok (.iastore, 1) := by decide +kernel
def s_M_findParts_30 : List am_Q := [(194, .aload_n 0, 0, 0, 0, .null), (195, .getfield 29, 12, 21, 173, .null), (198, .iload 9, 0, 0, 0, .null), (200, .ldc2_w 255, 0, 0, 31, .long (-1 : Int64))]
theorem t_s_M_findParts_30 : s_M_findParts_30.all (am_ok 12 cX12_findParts) = true := by decide +kernel
theorem d_X12_findParts_203 : decode cX12_findParts 203 = .ok (.lastore, 1) := by decide +kernel
def s_M_findParts_31 : List am_Q := [(204, .iinc 7 (-1), 0, 0, 0, .int (-1 : Int32)), (207, .goto (-84), 123, 0, 0, .null)]
theorem t_s_M_findParts_31 : s_M_findParts_31.all (am_ok 12 cX12_findParts) = true := by decide +kernel
def s_M_findParts_32 : List am_Q := [(150, .aload_n 0, 0, 0, 0, .null), (151, .getfield 29, 12, 21, 173, .null), (154, .iload 10, 0, 0, 0, .null)]
theorem t_s_M_findParts_32 : s_M_findParts_32.all (am_ok 12 cX12_findParts) = true := by decide +kernel
theorem d_X12_findParts_156 : decode cX12_findParts 156 = .ok (.laload, 1) := by decide +kernel
def s_M_findParts_33 : List am_Q := [(157, .aload_n 0, 0, 0, 0, .null), (158, .getfield 29, 12, 21, 173, .null), (161, .iload 9, 0, 0, 0, .null)]
theorem t_s_M_findParts_33 : s_M_findParts_33.all (am_ok 12 cX12_findParts) = true := by decide +kernel
theorem d_X12_findParts_163 : decode cX12_findParts 163 = .ok (.laload, 1) := by decide +kernel
def s_M_findParts_34 : List am_Q := [(164, .lcmp, 0, 0, 0, .null)]
theorem t_s_M_findParts_34 : s_M_findParts_34.all (am_ok 12 cX12_findParts) = true := by decide +kernel
theorem d_X12_findParts_165 : decode cX12_findParts 165 = .ok (.ifCond .le 8, 3) := by decide +kernel
def s_M_findParts_35 : List am_Q := [(173, .iload 9, 0, 0, 0, .null), (175, .istore 9, 0, 0, 0, .null), (177, .iinc 10 1, 0, 0, 0, .int (nI 1)), (180, .goto (-41), 139, 0, 0, .null)]
theorem t_s_M_findParts_35 : s_M_findParts_35.all (am_ok 12 cX12_findParts) = true := by decide +kernel
def s_M_findParts_36 : List am_Q := [(168, .iload 10, 0, 0, 0, .null), (170, .goto 5, 175, 0, 0, .null), (175, .istore 9, 0, 0, 0, .null), (177, .iinc 10 1, 0, 0, 0, .int (nI 1)), (180, .goto (-41), 139, 0, 0, .null)]
theorem t_s_M_findParts_36 : s_M_findParts_36.all (am_ok 12 cX12_findParts) = true := by decide +kernel
def s_M_findParts_37 : List am_Q := [(116, .iconst 1, 0, 0, 0, .int (nI 1)), (117, .goto 4, 121, 0, 0, .null), (121, .istore 8, 0, 0, 0, .null)]
theorem t_s_M_findParts_37 : s_M_findParts_37.all (am_ok 12 cX12_findParts) = true := by decide +kernel
def s_M_findParts_38 : List am_Q := [(45, .aload_n 0, 0, 0, 0, .null), (46, .getfield 26, 12, 20, 172, .null), (49, .iload 8, 0, 0, 0, .null), (51, .iload 4, 0, 0, 0, .null), (53, .i2l, 0, 0, 0, .null), (54, .aload_n 0, 0, 0, 0, .null), (55, .getfield 22, 12, 17, 169, .null), (58, .iload 8, 0, 0, 0, .null)]
theorem t_s_M_findParts_38 : s_M_findParts_38.all (am_ok 12 cX12_findParts) = true := by decide +kernel
theorem d_X12_findParts_60 : decode cX12_findParts 60 = .ok (.laload, 1) := by decide +kernel
def s_M_findParts_39 : List am_Q := [(61, .lmul, 0, 0, 0, .null), (62, .lload 5, 0, 0, 0, .null)]
theorem t_s_M_findParts_39 : s_M_findParts_39.all (am_ok 12 cX12_findParts) = true := by decide +kernel
theorem d_X12_findParts_64 : decode cX12_findParts 64 = .ok (.ldiv, 1) := by decide +kernel
def s_M_findParts_40 : List am_Q := [(65, .l2i, 0, 0, 0, .null)]
theorem t_s_M_findParts_40 : s_M_findParts_40.all (am_ok 12 cX12_findParts) = true := by decide +kernel
theorem d_X12_findParts_66 : decode cX12_findParts 66 = .ok (.iastore, 1) := by decide +kernel
def s_M_findParts_41 : List am_Q := [(67, .aload_n 0, 0, 0, 0, .null), (68, .getfield 29, 12, 21, 173, .null), (71, .iload 8, 0, 0, 0, .null), (73, .iload 4, 0, 0, 0, .null), (75, .i2l, 0, 0, 0, .null), (76, .aload_n 0, 0, 0, 0, .null), (77, .getfield 22, 12, 17, 169, .null), (80, .iload 8, 0, 0, 0, .null)]
theorem t_s_M_findParts_41 : s_M_findParts_41.all (am_ok 12 cX12_findParts) = true := by decide +kernel
theorem d_X12_findParts_82 : decode cX12_findParts 82 = .ok (.laload, 1) := by decide +kernel
def s_M_findParts_42 : List am_Q := [(83, .lmul, 0, 0, 0, .null), (84, .lload 5, 0, 0, 0, .null)]
theorem t_s_M_findParts_42 : s_M_findParts_42.all (am_ok 12 cX12_findParts) = true := by decide +kernel
theorem d_X12_findParts_86 : decode cX12_findParts 86 = .ok (.lrem, 1) := by decide +kernel
theorem d_X12_findParts_87 : decode cX12_findParts 87 = .ok (.lastore, 1) := by decide +kernel
def s_M_findParts_43 : List am_Q := [(88, .iload 7, 0, 0, 0, .null), (90, .aload_n 0, 0, 0, 0, .null), (91, .getfield 26, 12, 20, 172, .null), (94, .iload 8, 0, 0, 0, .null)]
theorem t_s_M_findParts_43 : s_M_findParts_43.all (am_ok 12 cX12_findParts) = true := by decide +kernel
theorem d_X12_findParts_96 : decode cX12_findParts 96 = .ok (.iaload, 1) := by decide +kernel
def s_M_findParts_44 : List am_Q := [(97, .isub, 0, 0, 0, .null), (98, .istore 7, 0, 0, 0, .null), (100, .iinc 8 1, 0, 0, 0, .int (nI 1)), (103, .goto (-69), 34, 0, 0, .null)]
theorem t_s_M_findParts_44 : s_M_findParts_44.all (am_ok 12 cX12_findParts) = true := by decide +kernel
def M_findParts_292 (k219 : am_T → Int32 → Int32 → Option (am_T)) (τ : am_T) (a1 : Int32) (a9 : Int32) (s0 : Int32) (s1 : Int32) : Option (am_T) :=
  am_g (am_in s1 8) (am_g (am_in a9 8) (k219 (am_si (am_si τ 146 (s1.toNatClampNeg) s0) 140 22 (((am_si τ 146 (s1.toNatClampNeg) s0).1 140 22) - ((am_si τ 146 (s1.toNatClampNeg) s0).1 146 (a9.toNatClampNeg)))) a1 (a9 + (nI 1))))
set_option maxRecDepth 20000 in
theorem ok_M_findParts_292 {X : am_X} {τ' : am_T} (hF : am_F X "ShareHouseModel" cX12_findParts 11) (hR : am_R X 4 91) (hB : am_B X none none (am_D τ')) {k219 : am_T → Int32 → Int32 → Option (am_T)} (hk219 : ∀ (τ : am_T) (a1 : Int32) (a9 : Int32), k219 τ a1 a9 = some τ' → am_W X 11 (219, [(0, .ref 140), (1, .int a1), (9, .int a9)], [], am_D τ)) {τ : am_T} {a1 : Int32} {a9 : Int32} {s0 : Int32} {s1 : Int32} (h : M_findParts_292 k219 τ a1 a9 s0 s1 = some τ') : am_W X 11 (292, [(0, .ref 140), (1, .int a1), (9, .int a9)], [.int s0, .int s1, .ref 146], am_D τ) := by
  unfold M_findParts_292 at h
  refine am_gd h (fun hi h => ?_)
  refine am_iast (n := 8) (j := (s1.toNatClampNeg)) d_X12_findParts_292 (Nat.le_of_ble_eq_true rfl) (Nat.le_of_ble_eq_true rfl) rfl hi rfl hF ?_
  refine am_seg s_M_findParts_16 (y := (304, [(0, .ref 140), (1, .int a1), (9, .int a9)], [.int a9, .ref 146, .int ((am_si τ 146 (s1.toNatClampNeg) s0).1 140 22), .ref 140], am_D (am_si τ 146 (s1.toNatClampNeg) s0))) hF t_s_M_findParts_16 rfl rfl ?_
  refine am_gd h (fun hi h => ?_)
  refine am_iald (n := 8) (j := (a9.toNatClampNeg)) d_X12_findParts_304 (Nat.le_of_ble_eq_true rfl) (Nat.le_of_ble_eq_true rfl) rfl hi rfl hF ?_
  refine am_seg s_M_findParts_17 (y := (219, [(9, .int (a9 + (nI 1))), (0, .ref 140), (1, .int a1)], [], am_D (am_si (am_si τ 146 (s1.toNatClampNeg) s0) 140 22 (((am_si τ 146 (s1.toNatClampNeg) s0).1 140 22) - ((am_si τ 146 (s1.toNatClampNeg) s0).1 146 (a9.toNatClampNeg)))))) hF t_s_M_findParts_17 rfl rfl ?_
  refine am_pick [1, 2, 0] rfl ?_
  exact hk219 _ _ _ h
def M_findParts_262 (k219 : am_T → Int32 → Int32 → Option (am_T)) (τ : am_T) (a1 : Int32) (a9 : Int32) (s0 : Int32) : Option (am_T) :=
  if s0 = 0 then
  (am_g (am_in a9 8) (M_findParts_292 k219 τ a1 a9 (τ.1 146 (a9.toNatClampNeg)) a9))
else
  (M_findParts_292 k219 τ a1 a9 (τ.1 141 11) a9)
set_option maxRecDepth 20000 in
theorem ok_M_findParts_262 {X : am_X} {τ' : am_T} (hF : am_F X "ShareHouseModel" cX12_findParts 11) (hR : am_R X 4 91) (hB : am_B X none none (am_D τ')) {k219 : am_T → Int32 → Int32 → Option (am_T)} (hk219 : ∀ (τ : am_T) (a1 : Int32) (a9 : Int32), k219 τ a1 a9 = some τ' → am_W X 11 (219, [(0, .ref 140), (1, .int a1), (9, .int a9)], [], am_D τ)) {τ : am_T} {a1 : Int32} {a9 : Int32} {s0 : Int32} (h : M_findParts_262 k219 τ a1 a9 s0 = some τ') : am_W X 11 (262, [(0, .ref 140), (1, .int a1), (9, .int a9)], [.int s0], am_D τ) := by
  unfold M_findParts_262 at h
  refine am_seg s_M_findParts_14 (y := (272, [(10, .int s0), (0, .ref 140), (1, .int a1), (9, .int a9)], [.int s0, .int a9, .ref 146], am_D τ)) hF t_s_M_findParts_14 rfl rfl ?_
  refine am_ite h (fun hc h => ?_) (fun hc h => ?_)
  · refine am_if_eq_t (t := 285) d_X12_findParts_272 (by decide) hc hF ?_
    refine am_seg s_M_findParts_15 (y := (291, [(10, .int s0), (0, .ref 140), (1, .int a1), (9, .int a9)], [.int a9, .ref 146, .int a9, .ref 146], am_D τ)) hF t_s_M_findParts_15 rfl rfl ?_
    refine am_gd h (fun hi h => ?_)
    refine am_iald (n := 8) (j := (a9.toNatClampNeg)) d_X12_findParts_291 (Nat.le_of_ble_eq_true rfl) (Nat.le_of_ble_eq_true rfl) rfl hi rfl hF ?_
    refine am_pick [1, 2, 3] rfl ?_
    exact ok_M_findParts_292 hF hR hB hk219 h
  · refine am_if_eq_f (t := 285) d_X12_findParts_272 (by decide) hc hF ?_
    refine am_seg s_M_findParts_18 (y := (281, [(10, .int s0), (0, .ref 140), (1, .int a1), (9, .int a9)], [.int (nI 11), .ref 141, .int a9, .ref 146], am_D τ)) hF t_s_M_findParts_18 rfl rfl ?_
    refine am_iald (n := 1060) (j := 11) d_X12_findParts_281 (Nat.le_of_ble_eq_true rfl) (Nat.le_of_ble_eq_true rfl) rfl (by decide) rfl hF ?_
    refine am_seg s_M_findParts_19 (y := (292, [(10, .int s0), (0, .ref 140), (1, .int a1), (9, .int a9)], [.int (τ.1 141 11), .int a9, .ref 146], am_D τ)) hF t_s_M_findParts_19 rfl rfl ?_
    refine am_pick [1, 2, 3] rfl ?_
    exact ok_M_findParts_292 hF hR hB hk219 h
def M_findParts_219 : Nat → am_T → Int32 → Int32 → Option (am_T)
  | 0, _, _, _ => none
  | n + 1, τ, a1, a9 =>
    if (τ.1 141 1) ≤ a9 then
  (some τ)
else
  ((M_costAt τ a1 (nI 4)).bind (fun x5 =>
  if x5.1 = (nI 1) then
  (am_g (am_in a9 8) (if (x5.2.1 146 (a9.toNatClampNeg)) ≤ (x5.2.1 141 11) then
  (M_findParts_262 (M_findParts_219 n) x5.2 a1 a9 (nI 0))
else
  (M_findParts_262 (M_findParts_219 n) x5.2 a1 a9 (nI 1))))
else
  (M_findParts_262 (M_findParts_219 n) x5.2 a1 a9 (nI 0))))
set_option maxRecDepth 20000 in
theorem ok_M_findParts_219 {X : am_X} {τ' : am_T} (hF : am_F X "ShareHouseModel" cX12_findParts 11) (hR : am_R X 4 91) (hB : am_B X none none (am_D τ')) : ∀ (n : Nat) (τ : am_T) (a1 : Int32) (a9 : Int32), M_findParts_219 n τ a1 a9 = some τ' → am_W X 11 (219, [(0, .ref 140), (1, .int a1), (9, .int a9)], [], am_D τ) := by
  intro n
  induction n with
  | zero => intro τ a1 a9 h; unfold M_findParts_219 at h; cases h
  | succ n ih =>
    intro τ a1 a9 h
    unfold M_findParts_219 at h
    refine am_seg s_M_findParts_10 (y := (226, [(0, .ref 140), (1, .int a1), (9, .int a9)], [.int (nI 1), .ref 141, .int a9], am_D τ)) hF t_s_M_findParts_10 rfl rfl ?_
    refine am_iald (n := 1060) (j := 1) d_X12_findParts_226 (Nat.le_of_ble_eq_true rfl) (Nat.le_of_ble_eq_true rfl) rfl (by decide) rfl hF ?_
    refine am_ite h (fun hc h => ?_) (fun hc h => ?_)
    · refine am_icmp_ge_t (t := 315) d_X12_findParts_227 (by decide) hc hF ?_
      obtain rfl := am_one h
      exact am_vret d_X12_findParts_315 hF hB
    · refine am_icmp_ge_f (t := 315) d_X12_findParts_227 (by decide) hc hF ?_
      refine am_seg s_M_findParts_11 (y := (233, [(0, .ref 140), (1, .int a1), (9, .int a9)], [.int (nI 4), .int a1, .ref 140], am_D τ)) hF t_s_M_findParts_11 rfl rfl ?_
      refine am_bd h (fun x5 hx h => ?_)
      refine am_callV (As := [.int a1, .int (nI 4)]) (r := (some (.int x5.1))) (st := []) (σ' := am_D x5.2) (ci := 12) hF hR d_X12_findParts_233 (c_M_costAt (τ' := x5.2) hx) (Nat.le_refl _) (Nat.le_refl _) wl_M_233 wi_yX12_costAt we_yX12_costAt wn_ShareHouseModel wc_yX12_costAt (Nat.le_of_ble_eq_true rfl) (Nat.le_of_ble_eq_true rfl) rfl rfl wy_yX12_costAt rfl ⟨by decide, by decide⟩ (Nat.le_of_ble_eq_true rfl) ?_
      refine am_seg s_M_findParts_12 (y := (237, [(0, .ref 140), (1, .int a1), (9, .int a9)], [.int (nI 1), .int x5.1], am_D x5.2)) hF t_s_M_findParts_12 rfl rfl ?_
      refine am_ite h (fun hc h => ?_) (fun hc h => ?_)
      · refine am_icmp_ne_f (t := 261) d_X12_findParts_237 (by decide) hc hF ?_
        refine am_seg s_M_findParts_20 (y := (246, [(0, .ref 140), (1, .int a1), (9, .int a9)], [.int a9, .ref 146], am_D x5.2)) hF t_s_M_findParts_20 rfl rfl ?_
        refine am_gd h (fun hi h => ?_)
        refine am_iald (n := 8) (j := (a9.toNatClampNeg)) d_X12_findParts_246 (Nat.le_of_ble_eq_true rfl) (Nat.le_of_ble_eq_true rfl) rfl hi rfl hF ?_
        refine am_seg s_M_findParts_21 (y := (253, [(0, .ref 140), (1, .int a1), (9, .int a9)], [.int (nI 11), .ref 141, .int (x5.2.1 146 (a9.toNatClampNeg))], am_D x5.2)) hF t_s_M_findParts_21 rfl rfl ?_
        refine am_iald (n := 1060) (j := 11) d_X12_findParts_253 (Nat.le_of_ble_eq_true rfl) (Nat.le_of_ble_eq_true rfl) rfl (by decide) rfl hF ?_
        refine am_ite h (fun hc h => ?_) (fun hc h => ?_)
        · refine am_icmp_le_t (t := 261) d_X12_findParts_254 (by decide) hc hF ?_
          refine am_seg s_M_findParts_22 (y := (262, [(0, .ref 140), (1, .int a1), (9, .int a9)], [.int (nI 0)], am_D x5.2)) hF t_s_M_findParts_22 rfl rfl ?_
          exact ok_M_findParts_262 hF hR hB ih h
        · refine am_icmp_le_f (t := 261) d_X12_findParts_254 (by decide) hc hF ?_
          refine am_seg s_M_findParts_23 (y := (262, [(0, .ref 140), (1, .int a1), (9, .int a9)], [.int (nI 1)], am_D x5.2)) hF t_s_M_findParts_23 rfl rfl ?_
          exact ok_M_findParts_262 hF hR hB ih h
      · refine am_icmp_ne_t (t := 261) d_X12_findParts_237 (by decide) hc hF ?_
        refine am_seg s_M_findParts_13 (y := (262, [(0, .ref 140), (1, .int a1), (9, .int a9)], [.int (nI 0)], am_D x5.2)) hF t_s_M_findParts_13 rfl rfl ?_
        exact ok_M_findParts_262 hF hR hB ih h
def M_findParts_139 (k123 : am_T → Int32 → Int32 → Int32 → Int32 → Option (am_T)) : Nat → am_T → Int32 → Int32 → Int32 → Int32 → Int32 → Int32 → Option (am_T)
  | 0, _, _, _, _, _, _, _ => none
  | n + 1, τ, a1, a4, a7, a8, a9, a10 =>
    if (τ.1 141 1) ≤ a10 then
  (am_g (am_in a9 8) (am_g (am_in a9 8) (am_g (am_in a9 8) (k123 (am_sl (am_si τ 146 (a9.toNatClampNeg) ((τ.1 146 (a9.toNatClampNeg)) + (nI 1))) 147 (a9.toNatClampNeg) (-1 : Int64)) a1 a4 (a7 + (-1 : Int32)) a8))))
else
  (am_g (am_in a10 8) (am_g (am_in a9 8) (if (lg_cmp (τ.2 147 (a10.toNatClampNeg)) (τ.2 147 (a9.toNatClampNeg))) ≤ 0 then
  ((M_findParts_139 k123 n) τ a1 a4 a7 a8 a9 (a10 + (nI 1)))
else
  ((M_findParts_139 k123 n) τ a1 a4 a7 a8 a10 (a10 + (nI 1))))))
set_option maxRecDepth 20000 in
theorem ok_M_findParts_139 {X : am_X} {τ' : am_T} (hF : am_F X "ShareHouseModel" cX12_findParts 11) (hR : am_R X 4 91) (hB : am_B X none none (am_D τ')) {k123 : am_T → Int32 → Int32 → Int32 → Int32 → Option (am_T)} (hk123 : ∀ (τ : am_T) (a1 : Int32) (a4 : Int32) (a7 : Int32) (a8 : Int32), k123 τ a1 a4 a7 a8 = some τ' → am_W X 11 (123, [(0, .ref 140), (1, .int a1), (4, .int a4), (7, .int a7), (8, .int a8)], [], am_D τ)) : ∀ (n : Nat) (τ : am_T) (a1 : Int32) (a4 : Int32) (a7 : Int32) (a8 : Int32) (a9 : Int32) (a10 : Int32), M_findParts_139 k123 n τ a1 a4 a7 a8 a9 a10 = some τ' → am_W X 11 (139, [(0, .ref 140), (1, .int a1), (4, .int a4), (7, .int a7), (8, .int a8), (9, .int a9), (10, .int a10)], [], am_D τ) := by
  intro n
  induction n with
  | zero => intro τ a1 a4 a7 a8 a9 a10 h; unfold M_findParts_139 at h; cases h
  | succ n ih =>
    intro τ a1 a4 a7 a8 a9 a10 h
    unfold M_findParts_139 at h
    refine am_seg s_M_findParts_27 (y := (146, [(0, .ref 140), (1, .int a1), (4, .int a4), (7, .int a7), (8, .int a8), (9, .int a9), (10, .int a10)], [.int (nI 1), .ref 141, .int a10], am_D τ)) hF t_s_M_findParts_27 rfl rfl ?_
    refine am_iald (n := 1060) (j := 1) d_X12_findParts_146 (Nat.le_of_ble_eq_true rfl) (Nat.le_of_ble_eq_true rfl) rfl (by decide) rfl hF ?_
    refine am_ite h (fun hc h => ?_) (fun hc h => ?_)
    · refine am_icmp_ge_t (t := 183) d_X12_findParts_147 (by decide) hc hF ?_
      refine am_seg s_M_findParts_28 (y := (190, [(0, .ref 140), (1, .int a1), (4, .int a4), (7, .int a7), (8, .int a8), (9, .int a9), (10, .int a10)], [.int a9, .ref 146, .int a9, .ref 146], am_D τ)) hF t_s_M_findParts_28 rfl rfl ?_
      refine am_gd h (fun hi h => ?_)
      refine am_iald (n := 8) (j := (a9.toNatClampNeg)) d_X12_findParts_190 (Nat.le_of_ble_eq_true rfl) (Nat.le_of_ble_eq_true rfl) rfl hi rfl hF ?_
      refine am_seg s_M_findParts_29 (y := (193, [(0, .ref 140), (1, .int a1), (4, .int a4), (7, .int a7), (8, .int a8), (9, .int a9), (10, .int a10)], [.int ((τ.1 146 (a9.toNatClampNeg)) + (nI 1)), .int a9, .ref 146], am_D τ)) hF t_s_M_findParts_29 rfl rfl ?_
      refine am_gd h (fun hi h => ?_)
      refine am_iast (n := 8) (j := (a9.toNatClampNeg)) d_X12_findParts_193 (Nat.le_of_ble_eq_true rfl) (Nat.le_of_ble_eq_true rfl) rfl hi rfl hF ?_
      refine am_seg s_M_findParts_30 (y := (203, [(0, .ref 140), (1, .int a1), (4, .int a4), (7, .int a7), (8, .int a8), (9, .int a9), (10, .int a10)], [.long (-1 : Int64), .int a9, .ref 147], am_D (am_si τ 146 (a9.toNatClampNeg) ((τ.1 146 (a9.toNatClampNeg)) + (nI 1))))) hF t_s_M_findParts_30 rfl rfl ?_
      refine am_gd h (fun hi h => ?_)
      refine am_last (n := 8) (j := (a9.toNatClampNeg)) d_X12_findParts_203 (Nat.le_of_ble_eq_true rfl) (Nat.le_of_ble_eq_true rfl) rfl hi rfl hF ?_
      refine am_seg s_M_findParts_31 (y := (123, [(7, .int (a7 + (-1 : Int32))), (0, .ref 140), (1, .int a1), (4, .int a4), (8, .int a8), (9, .int a9), (10, .int a10)], [], am_D (am_sl (am_si τ 146 (a9.toNatClampNeg) ((τ.1 146 (a9.toNatClampNeg)) + (nI 1))) 147 (a9.toNatClampNeg) (-1 : Int64)))) hF t_s_M_findParts_31 rfl rfl ?_
      refine am_pick [1, 2, 3, 0, 4] rfl ?_
      exact hk123 _ _ _ _ _ h
    · refine am_icmp_ge_f (t := 183) d_X12_findParts_147 (by decide) hc hF ?_
      refine am_seg s_M_findParts_32 (y := (156, [(0, .ref 140), (1, .int a1), (4, .int a4), (7, .int a7), (8, .int a8), (9, .int a9), (10, .int a10)], [.int a10, .ref 147], am_D τ)) hF t_s_M_findParts_32 rfl rfl ?_
      refine am_gd h (fun hi h => ?_)
      refine am_lald (n := 8) (j := (a10.toNatClampNeg)) d_X12_findParts_156 (Nat.le_of_ble_eq_true rfl) (Nat.le_of_ble_eq_true rfl) rfl hi rfl hF ?_
      refine am_seg s_M_findParts_33 (y := (163, [(0, .ref 140), (1, .int a1), (4, .int a4), (7, .int a7), (8, .int a8), (9, .int a9), (10, .int a10)], [.int a9, .ref 147, .long (τ.2 147 (a10.toNatClampNeg))], am_D τ)) hF t_s_M_findParts_33 rfl rfl ?_
      refine am_gd h (fun hi h => ?_)
      refine am_lald (n := 8) (j := (a9.toNatClampNeg)) d_X12_findParts_163 (Nat.le_of_ble_eq_true rfl) (Nat.le_of_ble_eq_true rfl) rfl hi rfl hF ?_
      refine am_seg s_M_findParts_34 (y := (165, [(0, .ref 140), (1, .int a1), (4, .int a4), (7, .int a7), (8, .int a8), (9, .int a9), (10, .int a10)], [.int (lg_cmp (τ.2 147 (a10.toNatClampNeg)) (τ.2 147 (a9.toNatClampNeg)))], am_D τ)) hF t_s_M_findParts_34 rfl rfl ?_
      refine am_ite h (fun hc h => ?_) (fun hc h => ?_)
      · refine am_if_le_t (t := 173) d_X12_findParts_165 (by decide) hc hF ?_
        refine am_seg s_M_findParts_35 (y := (139, [(10, .int (a10 + (nI 1))), (9, .int a9), (0, .ref 140), (1, .int a1), (4, .int a4), (7, .int a7), (8, .int a8)], [], am_D τ)) hF t_s_M_findParts_35 rfl rfl ?_
        refine am_pick [2, 3, 4, 5, 6, 1, 0] rfl ?_
        exact ih _ _ _ _ _ _ _ h
      · refine am_if_le_f (t := 173) d_X12_findParts_165 (by decide) hc hF ?_
        refine am_seg s_M_findParts_36 (y := (139, [(10, .int (a10 + (nI 1))), (9, .int a10), (0, .ref 140), (1, .int a1), (4, .int a4), (7, .int a7), (8, .int a8)], [], am_D τ)) hF t_s_M_findParts_36 rfl rfl ?_
        refine am_pick [2, 3, 4, 5, 6, 1, 0] rfl ?_
        exact ih _ _ _ _ _ _ _ h
def M_findParts_123 : Nat → am_T → Int32 → Int32 → Int32 → Int32 → Option (am_T)
  | 0, _, _, _, _, _ => none
  | n + 1, τ, a1, a4, a7, a8 =>
    if a8 = 0 then
  (M_findParts_219 5000 (am_si τ 140 22 a4) a1 (nI 0))
else
  (if a7 ≤ 0 then
  (M_findParts_219 5000 (am_si τ 140 22 a4) a1 (nI 0))
else
  (M_findParts_139 (M_findParts_123 n) 5000 τ a1 a4 a7 a8 (nI 0) (nI 1)))
set_option maxRecDepth 20000 in
theorem ok_M_findParts_123 {X : am_X} {τ' : am_T} (hF : am_F X "ShareHouseModel" cX12_findParts 11) (hR : am_R X 4 91) (hB : am_B X none none (am_D τ')) : ∀ (n : Nat) (τ : am_T) (a1 : Int32) (a4 : Int32) (a7 : Int32) (a8 : Int32), M_findParts_123 n τ a1 a4 a7 a8 = some τ' → am_W X 11 (123, [(0, .ref 140), (1, .int a1), (4, .int a4), (7, .int a7), (8, .int a8)], [], am_D τ) := by
  intro n
  induction n with
  | zero => intro τ a1 a4 a7 a8 h; unfold M_findParts_123 at h; cases h
  | succ n ih =>
    intro τ a1 a4 a7 a8 h
    unfold M_findParts_123 at h
    refine am_seg s_M_findParts_8 (y := (125, [(0, .ref 140), (1, .int a1), (4, .int a4), (7, .int a7), (8, .int a8)], [.int a8], am_D τ)) hF t_s_M_findParts_8 rfl rfl ?_
    refine am_ite h (fun hc h => ?_) (fun hc h => ?_)
    · refine am_if_eq_t (t := 210) d_X12_findParts_125 (by decide) hc hF ?_
      refine am_seg s_M_findParts_9 (y := (219, [(9, .int (nI 0)), (0, .ref 140), (1, .int a1), (4, .int a4), (7, .int a7), (8, .int a8)], [], am_D (am_si τ 140 22 a4))) hF t_s_M_findParts_9 rfl rfl ?_
      refine am_pick [1, 2, 0] rfl ?_
      exact ok_M_findParts_219 hF hR hB _ _ _ _ h
    · refine am_if_eq_f (t := 210) d_X12_findParts_125 (by decide) hc hF ?_
      refine am_seg s_M_findParts_24 (y := (130, [(0, .ref 140), (1, .int a1), (4, .int a4), (7, .int a7), (8, .int a8)], [.int a7], am_D τ)) hF t_s_M_findParts_24 rfl rfl ?_
      refine am_ite h (fun hc h => ?_) (fun hc h => ?_)
      · refine am_if_le_t (t := 210) d_X12_findParts_130 (by decide) hc hF ?_
        refine am_seg s_M_findParts_25 (y := (219, [(9, .int (nI 0)), (0, .ref 140), (1, .int a1), (4, .int a4), (7, .int a7), (8, .int a8)], [], am_D (am_si τ 140 22 a4))) hF t_s_M_findParts_25 rfl rfl ?_
        refine am_pick [1, 2, 0] rfl ?_
        exact ok_M_findParts_219 hF hR hB _ _ _ _ h
      · refine am_if_le_f (t := 210) d_X12_findParts_130 (by decide) hc hF ?_
        refine am_seg s_M_findParts_26 (y := (139, [(10, .int (nI 1)), (9, .int (nI 0)), (0, .ref 140), (1, .int a1), (4, .int a4), (7, .int a7), (8, .int a8)], [], am_D τ)) hF t_s_M_findParts_26 rfl rfl ?_
        refine am_pick [2, 3, 4, 5, 6, 1, 0] rfl ?_
        exact ok_M_findParts_139 hF hR hB ih _ _ _ _ _ _ _ _ h
def M_findParts_34 : Nat → am_T → Int32 → Int32 → Int64 → Int32 → Int32 → Option (am_T)
  | 0, _, _, _, _, _, _ => none
  | n + 1, τ, a1, a4, a5, a7, a8 =>
    if (τ.1 141 1) ≤ a8 then
  (if (lg_cmp (τ.2 140 19) a5) = 0 then
  (M_findParts_123 5000 τ a1 a4 a7 (nI 1))
else
  (M_findParts_123 5000 τ a1 a4 a7 (nI 0)))
else
  (am_g (am_in a8 8) (if a5 = 0 then none else
  am_g (am_in a8 8) (am_g (am_in a8 8) (if a5 = 0 then none else
  am_g (am_in a8 8) (am_g (am_in a8 8) ((M_findParts_34 n) (am_sl (am_si τ 146 (a8.toNatClampNeg) (Int64.toInt32 (((Int32.toInt64 a4) * (τ.2 145 (a8.toNatClampNeg))) / a5))) 147 (a8.toNatClampNeg) (((Int32.toInt64 a4) * ((am_si τ 146 (a8.toNatClampNeg) (Int64.toInt32 (((Int32.toInt64 a4) * (τ.2 145 (a8.toNatClampNeg))) / a5))).2 145 (a8.toNatClampNeg))) - ((Int32.toInt64 a4) * ((am_si τ 146 (a8.toNatClampNeg) (Int64.toInt32 (((Int32.toInt64 a4) * (τ.2 145 (a8.toNatClampNeg))) / a5))).2 145 (a8.toNatClampNeg))) / a5 * a5)) a1 a4 a5 (a7 - ((am_sl (am_si τ 146 (a8.toNatClampNeg) (Int64.toInt32 (((Int32.toInt64 a4) * (τ.2 145 (a8.toNatClampNeg))) / a5))) 147 (a8.toNatClampNeg) (((Int32.toInt64 a4) * ((am_si τ 146 (a8.toNatClampNeg) (Int64.toInt32 (((Int32.toInt64 a4) * (τ.2 145 (a8.toNatClampNeg))) / a5))).2 145 (a8.toNatClampNeg))) - ((Int32.toInt64 a4) * ((am_si τ 146 (a8.toNatClampNeg) (Int64.toInt32 (((Int32.toInt64 a4) * (τ.2 145 (a8.toNatClampNeg))) / a5))).2 145 (a8.toNatClampNeg))) / a5 * a5)).1 146 (a8.toNatClampNeg))) (a8 + (nI 1))))))))
set_option maxRecDepth 20000 in
theorem ok_M_findParts_34 {X : am_X} {τ' : am_T} (hF : am_F X "ShareHouseModel" cX12_findParts 11) (hR : am_R X 4 91) (hB : am_B X none none (am_D τ')) : ∀ (n : Nat) (τ : am_T) (a1 : Int32) (a4 : Int32) (a5 : Int64) (a7 : Int32) (a8 : Int32), M_findParts_34 n τ a1 a4 a5 a7 a8 = some τ' → am_W X 11 (34, [(0, .ref 140), (1, .int a1), (4, .int a4), (5, .long a5), (7, .int a7), (8, .int a8)], [], am_D τ) := by
  intro n
  induction n with
  | zero => intro τ a1 a4 a5 a7 a8 h; unfold M_findParts_34 at h; cases h
  | succ n ih =>
    intro τ a1 a4 a5 a7 a8 h
    unfold M_findParts_34 at h
    refine am_seg s_M_findParts_5 (y := (41, [(0, .ref 140), (1, .int a1), (4, .int a4), (5, .long a5), (7, .int a7), (8, .int a8)], [.int (nI 1), .ref 141, .int a8], am_D τ)) hF t_s_M_findParts_5 rfl rfl ?_
    refine am_iald (n := 1060) (j := 1) d_X12_findParts_41 (Nat.le_of_ble_eq_true rfl) (Nat.le_of_ble_eq_true rfl) rfl (by decide) rfl hF ?_
    refine am_ite h (fun hc h => ?_) (fun hc h => ?_)
    · refine am_icmp_ge_t (t := 106) d_X12_findParts_42 (by decide) hc hF ?_
      refine am_seg s_M_findParts_6 (y := (113, [(0, .ref 140), (1, .int a1), (4, .int a4), (5, .long a5), (7, .int a7), (8, .int a8)], [.int (lg_cmp (τ.2 140 19) a5)], am_D τ)) hF t_s_M_findParts_6 rfl rfl ?_
      refine am_ite h (fun hc h => ?_) (fun hc h => ?_)
      · refine am_if_ne_f (t := 120) d_X12_findParts_113 (by decide) hc hF ?_
        refine am_seg s_M_findParts_37 (y := (123, [(8, .int (nI 1)), (0, .ref 140), (1, .int a1), (4, .int a4), (5, .long a5), (7, .int a7)], [], am_D τ)) hF t_s_M_findParts_37 rfl rfl ?_
        refine am_pick [1, 2, 3, 5, 0] rfl ?_
        exact ok_M_findParts_123 hF hR hB _ _ _ _ _ _ h
      · refine am_if_ne_t (t := 120) d_X12_findParts_113 (by decide) hc hF ?_
        refine am_seg s_M_findParts_7 (y := (123, [(8, .int (nI 0)), (0, .ref 140), (1, .int a1), (4, .int a4), (5, .long a5), (7, .int a7)], [], am_D τ)) hF t_s_M_findParts_7 rfl rfl ?_
        refine am_pick [1, 2, 3, 5, 0] rfl ?_
        exact ok_M_findParts_123 hF hR hB _ _ _ _ _ _ h
    · refine am_icmp_ge_f (t := 106) d_X12_findParts_42 (by decide) hc hF ?_
      refine am_seg s_M_findParts_38 (y := (60, [(0, .ref 140), (1, .int a1), (4, .int a4), (5, .long a5), (7, .int a7), (8, .int a8)], [.int a8, .ref 145, .long (Int32.toInt64 a4), .int a8, .ref 146], am_D τ)) hF t_s_M_findParts_38 rfl rfl ?_
      refine am_gd h (fun hi h => ?_)
      refine am_lald (n := 8) (j := (a8.toNatClampNeg)) d_X12_findParts_60 (Nat.le_of_ble_eq_true rfl) (Nat.le_of_ble_eq_true rfl) rfl hi rfl hF ?_
      refine am_seg s_M_findParts_39 (y := (64, [(0, .ref 140), (1, .int a1), (4, .int a4), (5, .long a5), (7, .int a7), (8, .int a8)], [.long a5, .long ((Int32.toInt64 a4) * (τ.2 145 (a8.toNatClampNeg))), .int a8, .ref 146], am_D τ)) hF t_s_M_findParts_39 rfl rfl ?_
      refine am_ite h (fun _ h => by cases h) (fun hc h => ?_)
      refine am_ldiv d_X12_findParts_64 hc hF ?_
      refine am_seg s_M_findParts_40 (y := (66, [(0, .ref 140), (1, .int a1), (4, .int a4), (5, .long a5), (7, .int a7), (8, .int a8)], [.int (Int64.toInt32 (((Int32.toInt64 a4) * (τ.2 145 (a8.toNatClampNeg))) / a5)), .int a8, .ref 146], am_D τ)) hF t_s_M_findParts_40 rfl rfl ?_
      refine am_gd h (fun hi h => ?_)
      refine am_iast (n := 8) (j := (a8.toNatClampNeg)) d_X12_findParts_66 (Nat.le_of_ble_eq_true rfl) (Nat.le_of_ble_eq_true rfl) rfl hi rfl hF ?_
      refine am_seg s_M_findParts_41 (y := (82, [(0, .ref 140), (1, .int a1), (4, .int a4), (5, .long a5), (7, .int a7), (8, .int a8)], [.int a8, .ref 145, .long (Int32.toInt64 a4), .int a8, .ref 147], am_D (am_si τ 146 (a8.toNatClampNeg) (Int64.toInt32 (((Int32.toInt64 a4) * (τ.2 145 (a8.toNatClampNeg))) / a5))))) hF t_s_M_findParts_41 rfl rfl ?_
      refine am_gd h (fun hi h => ?_)
      refine am_lald (n := 8) (j := (a8.toNatClampNeg)) d_X12_findParts_82 (Nat.le_of_ble_eq_true rfl) (Nat.le_of_ble_eq_true rfl) rfl hi rfl hF ?_
      refine am_seg s_M_findParts_42 (y := (86, [(0, .ref 140), (1, .int a1), (4, .int a4), (5, .long a5), (7, .int a7), (8, .int a8)], [.long a5, .long ((Int32.toInt64 a4) * ((am_si τ 146 (a8.toNatClampNeg) (Int64.toInt32 (((Int32.toInt64 a4) * (τ.2 145 (a8.toNatClampNeg))) / a5))).2 145 (a8.toNatClampNeg))), .int a8, .ref 147], am_D (am_si τ 146 (a8.toNatClampNeg) (Int64.toInt32 (((Int32.toInt64 a4) * (τ.2 145 (a8.toNatClampNeg))) / a5))))) hF t_s_M_findParts_42 rfl rfl ?_
      refine am_ite h (fun _ h => by cases h) (fun hc h => ?_)
      refine am_lrem d_X12_findParts_86 hc hF ?_
      refine am_gd h (fun hi h => ?_)
      refine am_last (n := 8) (j := (a8.toNatClampNeg)) d_X12_findParts_87 (Nat.le_of_ble_eq_true rfl) (Nat.le_of_ble_eq_true rfl) rfl hi rfl hF ?_
      refine am_seg s_M_findParts_43 (y := (96, [(0, .ref 140), (1, .int a1), (4, .int a4), (5, .long a5), (7, .int a7), (8, .int a8)], [.int a8, .ref 146, .int a7], am_D (am_sl (am_si τ 146 (a8.toNatClampNeg) (Int64.toInt32 (((Int32.toInt64 a4) * (τ.2 145 (a8.toNatClampNeg))) / a5))) 147 (a8.toNatClampNeg) (((Int32.toInt64 a4) * ((am_si τ 146 (a8.toNatClampNeg) (Int64.toInt32 (((Int32.toInt64 a4) * (τ.2 145 (a8.toNatClampNeg))) / a5))).2 145 (a8.toNatClampNeg))) - ((Int32.toInt64 a4) * ((am_si τ 146 (a8.toNatClampNeg) (Int64.toInt32 (((Int32.toInt64 a4) * (τ.2 145 (a8.toNatClampNeg))) / a5))).2 145 (a8.toNatClampNeg))) / a5 * a5)))) hF t_s_M_findParts_43 rfl rfl ?_
      refine am_gd h (fun hi h => ?_)
      refine am_iald (n := 8) (j := (a8.toNatClampNeg)) d_X12_findParts_96 (Nat.le_of_ble_eq_true rfl) (Nat.le_of_ble_eq_true rfl) rfl hi rfl hF ?_
      refine am_seg s_M_findParts_44 (y := (34, [(8, .int (a8 + (nI 1))), (7, .int (a7 - ((am_sl (am_si τ 146 (a8.toNatClampNeg) (Int64.toInt32 (((Int32.toInt64 a4) * (τ.2 145 (a8.toNatClampNeg))) / a5))) 147 (a8.toNatClampNeg) (((Int32.toInt64 a4) * ((am_si τ 146 (a8.toNatClampNeg) (Int64.toInt32 (((Int32.toInt64 a4) * (τ.2 145 (a8.toNatClampNeg))) / a5))).2 145 (a8.toNatClampNeg))) - ((Int32.toInt64 a4) * ((am_si τ 146 (a8.toNatClampNeg) (Int64.toInt32 (((Int32.toInt64 a4) * (τ.2 145 (a8.toNatClampNeg))) / a5))).2 145 (a8.toNatClampNeg))) / a5 * a5)).1 146 (a8.toNatClampNeg)))), (0, .ref 140), (1, .int a1), (4, .int a4), (5, .long a5)], [], am_D (am_sl (am_si τ 146 (a8.toNatClampNeg) (Int64.toInt32 (((Int32.toInt64 a4) * (τ.2 145 (a8.toNatClampNeg))) / a5))) 147 (a8.toNatClampNeg) (((Int32.toInt64 a4) * ((am_si τ 146 (a8.toNatClampNeg) (Int64.toInt32 (((Int32.toInt64 a4) * (τ.2 145 (a8.toNatClampNeg))) / a5))).2 145 (a8.toNatClampNeg))) - ((Int32.toInt64 a4) * ((am_si τ 146 (a8.toNatClampNeg) (Int64.toInt32 (((Int32.toInt64 a4) * (τ.2 145 (a8.toNatClampNeg))) / a5))).2 145 (a8.toNatClampNeg))) / a5 * a5)))) hF t_s_M_findParts_44 rfl rfl ?_
      refine am_pick [2, 3, 4, 5, 1, 0] rfl ?_
      exact ih _ _ _ _ _ _ h
def M_findParts (τ : am_T) (a1 : Int32) (a2 : Int32) : Option (am_T) :=
  (M_costAt τ a1 (nI 0)).bind (fun x1 =>
  (M_pence x1.2 a1 a2).bind (fun x2 =>
  (M_findShares x2.2 x1.1).bind (fun x3 =>
  (M_dueLine x3 x1.1).bind (fun x4 =>
  M_findParts_34 5000 x4.2 a1 x2.1 x4.1 x2.1 (nI 0)))))
set_option maxRecDepth 20000 in
theorem ok_M_findParts {X : am_X} {a1 : Int32} {a2 : Int32} {τ τ' : am_T} (hF : am_F X "ShareHouseModel" cX12_findParts 11) (hR : am_R X 4 91) (hB : am_B X none none (am_D τ')) (h : M_findParts τ a1 a2 = some τ') : am_W X 11 (0, [(0, .ref 140), (1, .int a1), (2, .int a2)], [], am_D τ) := by
  unfold M_findParts at h
  refine am_seg s_M_findParts_0 (y := (3, [(0, .ref 140), (1, .int a1), (2, .int a2)], [.int (nI 0), .int a1, .ref 140], am_D τ)) hF t_s_M_findParts_0 rfl rfl ?_
  refine am_bd h (fun x1 hx h => ?_)
  refine am_callV (As := [.int a1, .int (nI 0)]) (r := (some (.int x1.1))) (st := []) (σ' := am_D x1.2) (ci := 12) hF hR d_X12_findParts_3 (c_M_costAt (τ' := x1.2) hx) (Nat.le_refl _) (Nat.le_refl _) wl_M_233 wi_yX12_costAt we_yX12_costAt wn_ShareHouseModel wc_yX12_costAt (Nat.le_of_ble_eq_true rfl) (Nat.le_of_ble_eq_true rfl) rfl rfl wy_yX12_costAt rfl ⟨by decide, by decide⟩ (Nat.le_of_ble_eq_true rfl) ?_
  refine am_seg s_M_findParts_1 (y := (10, [(3, .int x1.1), (0, .ref 140), (1, .int a1), (2, .int a2)], [.int a2, .int a1, .ref 140], am_D x1.2)) hF t_s_M_findParts_1 rfl rfl ?_
  refine am_bd h (fun x2 hx h => ?_)
  refine am_callV (As := [.int a1, .int a2]) (r := (some (.int x2.1))) (st := []) (σ' := am_D x2.2) (ci := 12) hF hR d_X12_findParts_10 (c_M_pence (τ' := x2.2) hx) (Nat.le_refl _) (Nat.le_refl _) wl_M_242 wi_yX12_pence we_yX12_pence wn_ShareHouseModel wc_yX12_pence (Nat.le_of_ble_eq_true rfl) (Nat.le_of_ble_eq_true rfl) rfl rfl wy_yX12_pence rfl ⟨by decide, by decide⟩ (Nat.le_of_ble_eq_true rfl) ?_
  refine am_seg s_M_findParts_2 (y := (17, [(4, .int x2.1), (3, .int x1.1), (0, .ref 140), (1, .int a1), (2, .int a2)], [.int x1.1, .ref 140], am_D x2.2)) hF t_s_M_findParts_2 rfl rfl ?_
  refine am_bd h (fun x3 hx h => ?_)
  refine am_callV (As := [.int x1.1]) (r := none) (st := []) (σ' := am_D x3) (ci := 12) hF hR d_X12_findParts_17 (c_M_findShares (τ' := x3) hx) (Nat.le_refl _) (Nat.le_refl _) wl_M_219 wi_yX12_findShares we_yX12_findShares wn_ShareHouseModel wc_yX12_findShares (Nat.le_of_ble_eq_true rfl) (Nat.le_of_ble_eq_true rfl) rfl rfl wy_yX12_findShares rfl ⟨by decide, by decide⟩ (Nat.le_of_ble_eq_true rfl) ?_
  refine am_seg s_M_findParts_3 (y := (22, [(4, .int x2.1), (3, .int x1.1), (0, .ref 140), (1, .int a1), (2, .int a2)], [.int x1.1, .ref 140], am_D x3)) hF t_s_M_findParts_3 rfl rfl ?_
  refine am_bd h (fun x4 hx h => ?_)
  refine am_callV (As := [.int x1.1]) (r := (some (.long x4.1))) (st := []) (σ' := am_D x4.2) (ci := 12) hF hR d_X12_findParts_22 (c_M_dueLine (τ' := x4.2) hx) (Nat.le_refl _) (Nat.le_refl _) wl_M_251 wi_yX12_dueLine we_yX12_dueLine wn_ShareHouseModel wc_yX12_dueLine (Nat.le_of_ble_eq_true rfl) (Nat.le_of_ble_eq_true rfl) rfl rfl wy_yX12_dueLine rfl ⟨by decide, by decide⟩ (Nat.le_of_ble_eq_true rfl) ?_
  refine am_seg s_M_findParts_4 (y := (34, [(8, .int (nI 0)), (7, .int x2.1), (5, .long x4.1), (4, .int x2.1), (3, .int x1.1), (0, .ref 140), (1, .int a1), (2, .int a2)], [], am_D x4.2)) hF t_s_M_findParts_4 rfl rfl ?_
  refine am_pick [5, 6, 3, 2, 1, 0] rfl ?_
  exact ok_M_findParts_34 hF hR hB _ _ _ _ _ _ _ h
theorem c_M_findParts {a1 : Int32} {a2 : Int32} {τ τ' : am_T} (h : M_findParts τ a1 a2 = some τ') : am_C yX12_findParts cX12_findParts 11 none 4 91 [.ref 140, .int a1, .int a2] (am_D τ) none (am_D τ') :=
  am_enter (by decide +kernel) (Nat.le_of_ble_eq_true rfl) ⟨Nat.le_refl _, Nat.le_refl _⟩ (fun X hF hR hB => ok_M_findParts hF hR hB h)
def s_M_part_0 : List am_Q := [(0, .aload_n 0, 0, 0, 0, .null), (1, .iload_n 1, 0, 0, 0, .null)]
theorem t_s_M_part_0 : s_M_part_0.all (am_ok 12 cX12_part) = true := by decide +kernel
theorem d_X12_part_2 : decode cX12_part 2 = .ok (.invokevirtual 236, 3) := by decide +kernel
theorem d_X12_part_5 : decode cX12_part 5 = .ok (.ifCond .eq 19, 3) := by decide +kernel
def s_M_part_1 : List am_Q := [(24, .iconst (-1), 0, 0, 0, .int (-1 : Int32))]
theorem t_s_M_part_1 : s_M_part_1.all (am_ok 12 cX12_part) = true := by decide +kernel
theorem d_X12_part_25 : decode cX12_part 25 = .ok (.ireturn, 1) := by decide +kernel
def s_M_part_2 : List am_Q := [(8, .aload_n 0, 0, 0, 0, .null), (9, .iload_n 2, 0, 0, 0, .null)]
theorem t_s_M_part_2 : s_M_part_2.all (am_ok 12 cX12_part) = true := by decide +kernel
theorem d_X12_part_10 : decode cX12_part 10 = .ok (.invokevirtual 179, 3) := by decide +kernel
theorem d_X12_part_13 : decode cX12_part 13 = .ok (.ifCond .eq 11, 3) := by decide +kernel
def s_M_part_3 : List am_Q := [(24, .iconst (-1), 0, 0, 0, .int (-1 : Int32))]
theorem t_s_M_part_3 : s_M_part_3.all (am_ok 12 cX12_part) = true := by decide +kernel
def s_M_part_4 : List am_Q := [(16, .aload_n 0, 0, 0, 0, .null), (17, .iload_n 3, 0, 0, 0, .null)]
theorem t_s_M_part_4 : s_M_part_4.all (am_ok 12 cX12_part) = true := by decide +kernel
theorem d_X12_part_18 : decode cX12_part 18 = .ok (.invokevirtual 226, 3) := by decide +kernel
theorem d_X12_part_21 : decode cX12_part 21 = .ok (.ifCond .ne 5, 3) := by decide +kernel
def s_M_part_5 : List am_Q := [(26, .aload_n 0, 0, 0, 0, .null), (27, .iload_n 1, 0, 0, 0, .null), (28, .iconst 3, 0, 0, 0, .int (nI 3))]
theorem t_s_M_part_5 : s_M_part_5.all (am_ok 12 cX12_part) = true := by decide +kernel
theorem d_X12_part_29 : decode cX12_part 29 = .ok (.invokevirtual 233, 3) := by decide +kernel
def s_M_part_6 : List am_Q := [(32, .iload_n 3, 0, 0, 0, .null)]
theorem t_s_M_part_6 : s_M_part_6.all (am_ok 12 cX12_part) = true := by decide +kernel
theorem d_X12_part_33 : decode cX12_part 33 = .ok (.if_icmp .le 6, 3) := by decide +kernel
def s_M_part_7 : List am_Q := [(39, .aload_n 0, 0, 0, 0, .null), (40, .iload_n 1, 0, 0, 0, .null), (41, .iload_n 3, 0, 0, 0, .null)]
theorem t_s_M_part_7 : s_M_part_7.all (am_ok 12 cX12_part) = true := by decide +kernel
theorem d_X12_part_42 : decode cX12_part 42 = .ok (.invokevirtual 260, 3) := by decide +kernel
def s_M_part_8 : List am_Q := [(45, .aload_n 0, 0, 0, 0, .null), (46, .getfield 26, 12, 20, 172, .null), (49, .iload_n 2, 0, 0, 0, .null)]
theorem t_s_M_part_8 : s_M_part_8.all (am_ok 12 cX12_part) = true := by decide +kernel
theorem d_X12_part_50 : decode cX12_part 50 = .ok (.iaload, 1) := by decide +kernel
theorem d_X12_part_51 : decode cX12_part 51 = .ok (.ireturn, 1) := by decide +kernel
def s_M_part_9 : List am_Q := [(36, .bipush (-3), 0, 0, 0, .int (-3 : Int32))]
theorem t_s_M_part_9 : s_M_part_9.all (am_ok 12 cX12_part) = true := by decide +kernel
theorem d_X12_part_38 : decode cX12_part 38 = .ok (.ireturn, 1) := by decide +kernel
def s_M_part_10 : List am_Q := [(24, .iconst (-1), 0, 0, 0, .int (-1 : Int32))]
theorem t_s_M_part_10 : s_M_part_10.all (am_ok 12 cX12_part) = true := by decide +kernel
def M_part (τ : am_T) (a1 : Int32) (a2 : Int32) (a3 : Int32) : Option (Int32 × am_T) :=
  (M_isCost τ a1).bind (fun x1 =>
  if x1.1 = 0 then
  (some ((-1 : Int32), x1.2))
else
  ((M_isFlat x1.2 a2).bind (fun x2 =>
  if x2.1 = 0 then
  (some ((-1 : Int32), x2.2))
else
  ((M_isKnownDay x2.2 a3).bind (fun x3 =>
  if x3.1 = 0 then
  (some ((-1 : Int32), x3.2))
else
  ((M_costAt x3.2 a1 (nI 3)).bind (fun x4 =>
  if x4.1 ≤ a3 then
  ((M_findParts x4.2 a1 a3).bind (fun x5 =>
  am_g (am_in a2 8) (some ((x5.1 146 (a2.toNatClampNeg)), x5))))
else
  (some ((-3 : Int32), x4.2)))))))))
set_option maxRecDepth 20000 in
theorem ok_M_part {X : am_X} {a1 : Int32} {a2 : Int32} {a3 : Int32} {v : Int32} {τ τ' : am_T} (hF : am_F X "ShareHouseModel" cX12_part 4) (hR : am_R X 5 121) (hB : am_B X (some .int) (some (.int v)) (am_D τ')) (h : M_part τ a1 a2 a3 = some (v, τ')) : am_W X 4 (0, [(0, .ref 140), (1, .int a1), (2, .int a2), (3, .int a3)], [], am_D τ) := by
  unfold M_part at h
  refine am_seg s_M_part_0 (y := (2, [(0, .ref 140), (1, .int a1), (2, .int a2), (3, .int a3)], [.int a1, .ref 140], am_D τ)) hF t_s_M_part_0 rfl rfl ?_
  refine am_bd h (fun x1 hx h => ?_)
  refine am_callV (As := [.int a1]) (r := (some (.int x1.1))) (st := []) (σ' := am_D x1.2) (ci := 12) hF hR d_X12_part_2 (c_M_isCost (τ' := x1.2) hx) (Nat.le_refl _) (Nat.le_refl _) wl_M_236 wi_yX12_isCost we_yX12_isCost wn_ShareHouseModel wc_yX12_isCost (Nat.le_of_ble_eq_true rfl) (Nat.le_of_ble_eq_true rfl) rfl rfl wy_yX12_isCost rfl ⟨by decide, by decide⟩ (Nat.le_of_ble_eq_true rfl) ?_
  refine am_ite h (fun hc h => ?_) (fun hc h => ?_)
  · refine am_if_eq_t (t := 24) d_X12_part_5 (by decide) hc hF ?_
    refine am_seg s_M_part_1 (y := (25, [(0, .ref 140), (1, .int a1), (2, .int a2), (3, .int a3)], [.int (-1 : Int32)], am_D x1.2)) hF t_s_M_part_1 rfl rfl ?_
    obtain ⟨rfl, rfl⟩ := am_pair h
    exact am_iret d_X12_part_25 hF hB
  · refine am_if_eq_f (t := 24) d_X12_part_5 (by decide) hc hF ?_
    refine am_seg s_M_part_2 (y := (10, [(0, .ref 140), (1, .int a1), (2, .int a2), (3, .int a3)], [.int a2, .ref 140], am_D x1.2)) hF t_s_M_part_2 rfl rfl ?_
    refine am_bd h (fun x2 hx h => ?_)
    refine am_callV (As := [.int a2]) (r := (some (.int x2.1))) (st := []) (σ' := am_D x2.2) (ci := 12) hF hR d_X12_part_10 (c_M_isFlat (τ' := x2.2) hx) (Nat.le_refl _) (Nat.le_refl _) wl_M_179 wi_yX12_isFlat we_yX12_isFlat wn_ShareHouseModel wc_yX12_isFlat (Nat.le_of_ble_eq_true rfl) (Nat.le_of_ble_eq_true rfl) rfl rfl wy_yX12_isFlat rfl ⟨by decide, by decide⟩ (Nat.le_of_ble_eq_true rfl) ?_
    refine am_ite h (fun hc h => ?_) (fun hc h => ?_)
    · refine am_if_eq_t (t := 24) d_X12_part_13 (by decide) hc hF ?_
      refine am_seg s_M_part_3 (y := (25, [(0, .ref 140), (1, .int a1), (2, .int a2), (3, .int a3)], [.int (-1 : Int32)], am_D x2.2)) hF t_s_M_part_3 rfl rfl ?_
      obtain ⟨rfl, rfl⟩ := am_pair h
      exact am_iret d_X12_part_25 hF hB
    · refine am_if_eq_f (t := 24) d_X12_part_13 (by decide) hc hF ?_
      refine am_seg s_M_part_4 (y := (18, [(0, .ref 140), (1, .int a1), (2, .int a2), (3, .int a3)], [.int a3, .ref 140], am_D x2.2)) hF t_s_M_part_4 rfl rfl ?_
      refine am_bd h (fun x3 hx h => ?_)
      refine am_callV (As := [.int a3]) (r := (some (.int x3.1))) (st := []) (σ' := am_D x3.2) (ci := 12) hF hR d_X12_part_18 (c_M_isKnownDay (τ' := x3.2) hx) (Nat.le_refl _) (Nat.le_refl _) wl_M_226 wi_yX12_isKnownDay we_yX12_isKnownDay wn_ShareHouseModel wc_yX12_isKnownDay (Nat.le_of_ble_eq_true rfl) (Nat.le_of_ble_eq_true rfl) rfl rfl wy_yX12_isKnownDay rfl ⟨by decide, by decide⟩ (Nat.le_of_ble_eq_true rfl) ?_
      refine am_ite h (fun hc h => ?_) (fun hc h => ?_)
      · refine am_if_ne_f (t := 26) d_X12_part_21 (by decide) hc hF ?_
        refine am_seg s_M_part_10 (y := (25, [(0, .ref 140), (1, .int a1), (2, .int a2), (3, .int a3)], [.int (-1 : Int32)], am_D x3.2)) hF t_s_M_part_10 rfl rfl ?_
        obtain ⟨rfl, rfl⟩ := am_pair h
        exact am_iret d_X12_part_25 hF hB
      · refine am_if_ne_t (t := 26) d_X12_part_21 (by decide) hc hF ?_
        refine am_seg s_M_part_5 (y := (29, [(0, .ref 140), (1, .int a1), (2, .int a2), (3, .int a3)], [.int (nI 3), .int a1, .ref 140], am_D x3.2)) hF t_s_M_part_5 rfl rfl ?_
        refine am_bd h (fun x4 hx h => ?_)
        refine am_callV (As := [.int a1, .int (nI 3)]) (r := (some (.int x4.1))) (st := []) (σ' := am_D x4.2) (ci := 12) hF hR d_X12_part_29 (c_M_costAt (τ' := x4.2) hx) (Nat.le_refl _) (Nat.le_refl _) wl_M_233 wi_yX12_costAt we_yX12_costAt wn_ShareHouseModel wc_yX12_costAt (Nat.le_of_ble_eq_true rfl) (Nat.le_of_ble_eq_true rfl) rfl rfl wy_yX12_costAt rfl ⟨by decide, by decide⟩ (Nat.le_of_ble_eq_true rfl) ?_
        refine am_seg s_M_part_6 (y := (33, [(0, .ref 140), (1, .int a1), (2, .int a2), (3, .int a3)], [.int a3, .int x4.1], am_D x4.2)) hF t_s_M_part_6 rfl rfl ?_
        refine am_ite h (fun hc h => ?_) (fun hc h => ?_)
        · refine am_icmp_le_t (t := 39) d_X12_part_33 (by decide) hc hF ?_
          refine am_seg s_M_part_7 (y := (42, [(0, .ref 140), (1, .int a1), (2, .int a2), (3, .int a3)], [.int a3, .int a1, .ref 140], am_D x4.2)) hF t_s_M_part_7 rfl rfl ?_
          refine am_bd h (fun x5 hx h => ?_)
          refine am_callV (As := [.int a1, .int a3]) (r := none) (st := []) (σ' := am_D x5) (ci := 12) hF hR d_X12_part_42 (c_M_findParts (τ' := x5) hx) (Nat.le_refl _) (Nat.le_refl _) wl_M_260 wi_yX12_findParts we_yX12_findParts wn_ShareHouseModel wc_yX12_findParts (Nat.le_of_ble_eq_true rfl) (Nat.le_of_ble_eq_true rfl) rfl rfl wy_yX12_findParts rfl ⟨by decide, by decide⟩ (Nat.le_of_ble_eq_true rfl) ?_
          refine am_seg s_M_part_8 (y := (50, [(0, .ref 140), (1, .int a1), (2, .int a2), (3, .int a3)], [.int a2, .ref 146], am_D x5)) hF t_s_M_part_8 rfl rfl ?_
          refine am_gd h (fun hi h => ?_)
          refine am_iald (n := 8) (j := (a2.toNatClampNeg)) d_X12_part_50 (Nat.le_of_ble_eq_true rfl) (Nat.le_of_ble_eq_true rfl) rfl hi rfl hF ?_
          obtain ⟨rfl, rfl⟩ := am_pair h
          exact am_iret d_X12_part_51 hF hB
        · refine am_icmp_le_f (t := 39) d_X12_part_33 (by decide) hc hF ?_
          refine am_seg s_M_part_9 (y := (38, [(0, .ref 140), (1, .int a1), (2, .int a2), (3, .int a3)], [.int (-3 : Int32)], am_D x4.2)) hF t_s_M_part_9 rfl rfl ?_
          obtain ⟨rfl, rfl⟩ := am_pair h
          exact am_iret d_X12_part_38 hF hB
theorem c_M_part {a1 : Int32} {a2 : Int32} {a3 : Int32} {v : Int32} {τ τ' : am_T} (h : M_part τ a1 a2 a3 = some (v, τ')) : am_C yX12_part cX12_part 4 (some .int) 5 121 [.ref 140, .int a1, .int a2, .int a3] (am_D τ) (some (.int v)) (am_D τ') :=
  am_enter (by decide +kernel) (Nat.le_of_ble_eq_true rfl) ⟨Nat.le_refl _, Nat.le_refl _⟩ (fun X hF hR hB => ok_M_part hF hR hB h)
def s_M_landlord_0 : List am_Q := [(0, .aload_n 0, 0, 0, 0, .null), (1, .iload_n 1, 0, 0, 0, .null)]
theorem t_s_M_landlord_0 : s_M_landlord_0.all (am_ok 12 cX12_landlord) = true := by decide +kernel
theorem d_X12_landlord_2 : decode cX12_landlord 2 = .ok (.invokevirtual 236, 3) := by decide +kernel
theorem d_X12_landlord_5 : decode cX12_landlord 5 = .ok (.ifCond .eq 21, 3) := by decide +kernel
def s_M_landlord_1 : List am_Q := [(26, .ldc_w 263, 0, 0, 32, .int (-1000000000 : Int32))]
theorem t_s_M_landlord_1 : s_M_landlord_1.all (am_ok 12 cX12_landlord) = true := by decide +kernel
theorem d_X12_landlord_29 : decode cX12_landlord 29 = .ok (.ireturn, 1) := by decide +kernel
def s_M_landlord_2 : List am_Q := [(8, .aload_n 0, 0, 0, 0, .null), (9, .iload_n 2, 0, 0, 0, .null)]
theorem t_s_M_landlord_2 : s_M_landlord_2.all (am_ok 12 cX12_landlord) = true := by decide +kernel
theorem d_X12_landlord_10 : decode cX12_landlord 10 = .ok (.invokevirtual 226, 3) := by decide +kernel
theorem d_X12_landlord_13 : decode cX12_landlord 13 = .ok (.ifCond .eq 13, 3) := by decide +kernel
def s_M_landlord_3 : List am_Q := [(26, .ldc_w 263, 0, 0, 32, .int (-1000000000 : Int32))]
theorem t_s_M_landlord_3 : s_M_landlord_3.all (am_ok 12 cX12_landlord) = true := by decide +kernel
def s_M_landlord_4 : List am_Q := [(16, .aload_n 0, 0, 0, 0, .null), (17, .iload_n 1, 0, 0, 0, .null), (18, .iconst 3, 0, 0, 0, .int (nI 3))]
theorem t_s_M_landlord_4 : s_M_landlord_4.all (am_ok 12 cX12_landlord) = true := by decide +kernel
theorem d_X12_landlord_19 : decode cX12_landlord 19 = .ok (.invokevirtual 233, 3) := by decide +kernel
def s_M_landlord_5 : List am_Q := [(22, .iload_n 2, 0, 0, 0, .null)]
theorem t_s_M_landlord_5 : s_M_landlord_5.all (am_ok 12 cX12_landlord) = true := by decide +kernel
theorem d_X12_landlord_23 : decode cX12_landlord 23 = .ok (.if_icmp .le 7, 3) := by decide +kernel
def s_M_landlord_6 : List am_Q := [(30, .aload_n 0, 0, 0, 0, .null), (31, .iload_n 1, 0, 0, 0, .null), (32, .iload_n 2, 0, 0, 0, .null)]
theorem t_s_M_landlord_6 : s_M_landlord_6.all (am_ok 12 cX12_landlord) = true := by decide +kernel
theorem d_X12_landlord_33 : decode cX12_landlord 33 = .ok (.invokevirtual 260, 3) := by decide +kernel
def s_M_landlord_7 : List am_Q := [(36, .aload_n 0, 0, 0, 0, .null), (37, .getfield 257, 12, 22, 174, .null)]
theorem t_s_M_landlord_7 : s_M_landlord_7.all (am_ok 12 cX12_landlord) = true := by decide +kernel
theorem d_X12_landlord_40 : decode cX12_landlord 40 = .ok (.ireturn, 1) := by decide +kernel
def s_M_landlord_8 : List am_Q := [(26, .ldc_w 263, 0, 0, 32, .int (-1000000000 : Int32))]
theorem t_s_M_landlord_8 : s_M_landlord_8.all (am_ok 12 cX12_landlord) = true := by decide +kernel
def M_landlord (τ : am_T) (a1 : Int32) (a2 : Int32) : Option (Int32 × am_T) :=
  (M_isCost τ a1).bind (fun x1 =>
  if x1.1 = 0 then
  (some ((-1000000000 : Int32), x1.2))
else
  ((M_isKnownDay x1.2 a2).bind (fun x2 =>
  if x2.1 = 0 then
  (some ((-1000000000 : Int32), x2.2))
else
  ((M_costAt x2.2 a1 (nI 3)).bind (fun x3 =>
  if x3.1 ≤ a2 then
  ((M_findParts x3.2 a1 a2).bind (fun x4 =>
  some ((x4.1 140 22), x4)))
else
  (some ((-1000000000 : Int32), x3.2)))))))
set_option maxRecDepth 20000 in
theorem ok_M_landlord {X : am_X} {a1 : Int32} {a2 : Int32} {v : Int32} {τ τ' : am_T} (hF : am_F X "ShareHouseModel" cX12_landlord 3) (hR : am_R X 5 121) (hB : am_B X (some .int) (some (.int v)) (am_D τ')) (h : M_landlord τ a1 a2 = some (v, τ')) : am_W X 3 (0, [(0, .ref 140), (1, .int a1), (2, .int a2)], [], am_D τ) := by
  unfold M_landlord at h
  refine am_seg s_M_landlord_0 (y := (2, [(0, .ref 140), (1, .int a1), (2, .int a2)], [.int a1, .ref 140], am_D τ)) hF t_s_M_landlord_0 rfl rfl ?_
  refine am_bd h (fun x1 hx h => ?_)
  refine am_callV (As := [.int a1]) (r := (some (.int x1.1))) (st := []) (σ' := am_D x1.2) (ci := 12) hF hR d_X12_landlord_2 (c_M_isCost (τ' := x1.2) hx) (Nat.le_refl _) (Nat.le_refl _) wl_M_236 wi_yX12_isCost we_yX12_isCost wn_ShareHouseModel wc_yX12_isCost (Nat.le_of_ble_eq_true rfl) (Nat.le_of_ble_eq_true rfl) rfl rfl wy_yX12_isCost rfl ⟨by decide, by decide⟩ (Nat.le_of_ble_eq_true rfl) ?_
  refine am_ite h (fun hc h => ?_) (fun hc h => ?_)
  · refine am_if_eq_t (t := 26) d_X12_landlord_5 (by decide) hc hF ?_
    refine am_seg s_M_landlord_1 (y := (29, [(0, .ref 140), (1, .int a1), (2, .int a2)], [.int (-1000000000 : Int32)], am_D x1.2)) hF t_s_M_landlord_1 rfl rfl ?_
    obtain ⟨rfl, rfl⟩ := am_pair h
    exact am_iret d_X12_landlord_29 hF hB
  · refine am_if_eq_f (t := 26) d_X12_landlord_5 (by decide) hc hF ?_
    refine am_seg s_M_landlord_2 (y := (10, [(0, .ref 140), (1, .int a1), (2, .int a2)], [.int a2, .ref 140], am_D x1.2)) hF t_s_M_landlord_2 rfl rfl ?_
    refine am_bd h (fun x2 hx h => ?_)
    refine am_callV (As := [.int a2]) (r := (some (.int x2.1))) (st := []) (σ' := am_D x2.2) (ci := 12) hF hR d_X12_landlord_10 (c_M_isKnownDay (τ' := x2.2) hx) (Nat.le_refl _) (Nat.le_refl _) wl_M_226 wi_yX12_isKnownDay we_yX12_isKnownDay wn_ShareHouseModel wc_yX12_isKnownDay (Nat.le_of_ble_eq_true rfl) (Nat.le_of_ble_eq_true rfl) rfl rfl wy_yX12_isKnownDay rfl ⟨by decide, by decide⟩ (Nat.le_of_ble_eq_true rfl) ?_
    refine am_ite h (fun hc h => ?_) (fun hc h => ?_)
    · refine am_if_eq_t (t := 26) d_X12_landlord_13 (by decide) hc hF ?_
      refine am_seg s_M_landlord_3 (y := (29, [(0, .ref 140), (1, .int a1), (2, .int a2)], [.int (-1000000000 : Int32)], am_D x2.2)) hF t_s_M_landlord_3 rfl rfl ?_
      obtain ⟨rfl, rfl⟩ := am_pair h
      exact am_iret d_X12_landlord_29 hF hB
    · refine am_if_eq_f (t := 26) d_X12_landlord_13 (by decide) hc hF ?_
      refine am_seg s_M_landlord_4 (y := (19, [(0, .ref 140), (1, .int a1), (2, .int a2)], [.int (nI 3), .int a1, .ref 140], am_D x2.2)) hF t_s_M_landlord_4 rfl rfl ?_
      refine am_bd h (fun x3 hx h => ?_)
      refine am_callV (As := [.int a1, .int (nI 3)]) (r := (some (.int x3.1))) (st := []) (σ' := am_D x3.2) (ci := 12) hF hR d_X12_landlord_19 (c_M_costAt (τ' := x3.2) hx) (Nat.le_refl _) (Nat.le_refl _) wl_M_233 wi_yX12_costAt we_yX12_costAt wn_ShareHouseModel wc_yX12_costAt (Nat.le_of_ble_eq_true rfl) (Nat.le_of_ble_eq_true rfl) rfl rfl wy_yX12_costAt rfl ⟨by decide, by decide⟩ (Nat.le_of_ble_eq_true rfl) ?_
      refine am_seg s_M_landlord_5 (y := (23, [(0, .ref 140), (1, .int a1), (2, .int a2)], [.int a2, .int x3.1], am_D x3.2)) hF t_s_M_landlord_5 rfl rfl ?_
      refine am_ite h (fun hc h => ?_) (fun hc h => ?_)
      · refine am_icmp_le_t (t := 30) d_X12_landlord_23 (by decide) hc hF ?_
        refine am_seg s_M_landlord_6 (y := (33, [(0, .ref 140), (1, .int a1), (2, .int a2)], [.int a2, .int a1, .ref 140], am_D x3.2)) hF t_s_M_landlord_6 rfl rfl ?_
        refine am_bd h (fun x4 hx h => ?_)
        refine am_callV (As := [.int a1, .int a2]) (r := none) (st := []) (σ' := am_D x4) (ci := 12) hF hR d_X12_landlord_33 (c_M_findParts (τ' := x4) hx) (Nat.le_refl _) (Nat.le_refl _) wl_M_260 wi_yX12_findParts we_yX12_findParts wn_ShareHouseModel wc_yX12_findParts (Nat.le_of_ble_eq_true rfl) (Nat.le_of_ble_eq_true rfl) rfl rfl wy_yX12_findParts rfl ⟨by decide, by decide⟩ (Nat.le_of_ble_eq_true rfl) ?_
        refine am_seg s_M_landlord_7 (y := (40, [(0, .ref 140), (1, .int a1), (2, .int a2)], [.int (x4.1 140 22)], am_D x4)) hF t_s_M_landlord_7 rfl rfl ?_
        obtain ⟨rfl, rfl⟩ := am_pair h
        exact am_iret d_X12_landlord_40 hF hB
      · refine am_icmp_le_f (t := 30) d_X12_landlord_23 (by decide) hc hF ?_
        refine am_seg s_M_landlord_8 (y := (29, [(0, .ref 140), (1, .int a1), (2, .int a2)], [.int (-1000000000 : Int32)], am_D x3.2)) hF t_s_M_landlord_8 rfl rfl ?_
        obtain ⟨rfl, rfl⟩ := am_pair h
        exact am_iret d_X12_landlord_29 hF hB
theorem c_M_landlord {a1 : Int32} {a2 : Int32} {v : Int32} {τ τ' : am_T} (h : M_landlord τ a1 a2 = some (v, τ')) : am_C yX12_landlord cX12_landlord 3 (some .int) 5 121 [.ref 140, .int a1, .int a2] (am_D τ) (some (.int v)) (am_D τ') :=
  am_enter (by decide +kernel) (Nat.le_of_ble_eq_true rfl) ⟨Nat.le_refl _, Nat.le_refl _⟩ (fun X hF hR hB => ok_M_landlord hF hR hB h)
def s_M_isOwner_0 : List am_Q := [(0, .iload_n 0, 0, 0, 0, .null), (1, .iconst 0, 0, 0, 0, .int (nI 0)), (2, .bipush 7, 0, 0, 0, .int (nI 7))]
theorem t_s_M_isOwner_0 : s_M_isOwner_0.all (am_ok 12 cX12_isOwner) = true := by decide +kernel
theorem d_X12_isOwner_4 : decode cX12_isOwner 4 = .ok (.invokestatic 51, 3) := by decide +kernel
theorem d_X12_isOwner_7 : decode cX12_isOwner 7 = .ok (.ireturn, 1) := by decide +kernel
def M_isOwner (τ : am_T) (a0 : Int32) : Option (Int32 × am_T) :=
  (M_in τ a0 (nI 0) (nI 7)).bind (fun x1 =>
  am_g (am_z01 x1.1) (some (x1.1, x1.2)))
set_option maxRecDepth 20000 in
theorem ok_M_isOwner {X : am_X} {a0 : Int32} {v : Int32} {τ τ' : am_T} (hF : am_F X "ShareHouseModel" cX12_isOwner 1) (hR : am_R X 1 22) (hB : am_B X (some .boolean) (some (.int v)) (am_D τ')) (h : M_isOwner τ a0 = some (v, τ')) : am_W X 1 (0, [(0, .int a0)], [], am_D τ) := by
  unfold M_isOwner at h
  refine am_seg s_M_isOwner_0 (y := (4, [(0, .int a0)], [.int (nI 7), .int (nI 0), .int a0], am_D τ)) hF t_s_M_isOwner_0 rfl rfl ?_
  refine am_bd h (fun x1 hx h => ?_)
  refine am_callS (As := [.int a0, .int (nI 0), .int (nI 7)]) (r := (some (.int x1.1))) (st := []) (σ' := am_D x1.2) hF hR d_X12_isOwner_4 (c_M_in (τ' := x1.2) hx) (Nat.le_refl _) (Nat.le_refl _) wl_M_51 ws_yX12_in wn_ShareHouseModel wc_yX12_in wy_yX12_in rfl ⟨by decide, by decide⟩ (Nat.le_of_ble_eq_true rfl) ?_
  refine am_gd h (fun hz h => ?_)
  obtain ⟨rfl, rfl⟩ := am_pair h
  exact am_zret d_X12_isOwner_7 (am_z01_n hz) hF hB
theorem c_M_isOwner {a0 : Int32} {v : Int32} {τ τ' : am_T} (h : M_isOwner τ a0 = some (v, τ')) : am_C yX12_isOwner cX12_isOwner 1 (some .boolean) 1 22 [.int a0] (am_D τ) (some (.int v)) (am_D τ') :=
  am_enter (by decide +kernel) (Nat.le_of_ble_eq_true rfl) ⟨Nat.le_refl _, Nat.le_refl _⟩ (fun X hF hR hB => ok_M_isOwner hF hR hB h)

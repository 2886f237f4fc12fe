def s_M_head_0 : List am_Q := [(0, .aload_n 0, 0, 0, 0, .null), (1, .ldc2_w 89, 0, 0, 10, .long (lN 1919905638)), (4, .iconst 4, 0, 0, 0, .int (nI 4))]
theorem t_s_M_head_0 : s_M_head_0.all (am_ok 12 cX12_head) = true := by decide +kernel
theorem d_X12_head_5 : decode cX12_head 5 = .ok (.invokevirtual 76, 3) := by decide +kernel
theorem d_X12_head_8 : decode cX12_head 8 = .ok (.ifCond .eq 5, 3) := by decide +kernel
def s_M_head_1 : List am_Q := [(13, .aload_n 0, 0, 0, 0, .null), (14, .ldc2_w 91, 0, 0, 11, .long (lN 1818846836)), (17, .iconst 4, 0, 0, 0, .int (nI 4))]
theorem t_s_M_head_1 : s_M_head_1.all (am_ok 12 cX12_head) = true := by decide +kernel
theorem d_X12_head_18 : decode cX12_head 18 = .ok (.invokevirtual 76, 3) := by decide +kernel
theorem d_X12_head_21 : decode cX12_head 21 = .ok (.ifCond .eq 5, 3) := by decide +kernel
def s_M_head_2 : List am_Q := [(26, .aload_n 0, 0, 0, 0, .null), (27, .ldc2_w 93, 0, 0, 12, .long (lN 465491030131)), (30, .iconst 5, 0, 0, 0, .int (nI 5))]
theorem t_s_M_head_2 : s_M_head_2.all (am_ok 12 cX12_head) = true := by decide +kernel
theorem d_X12_head_31 : decode cX12_head 31 = .ok (.invokevirtual 76, 3) := by decide +kernel
theorem d_X12_head_34 : decode cX12_head 34 = .ok (.ifCond .eq 5, 3) := by decide +kernel
def s_M_head_3 : List am_Q := [(39, .aload_n 0, 0, 0, 0, .null), (40, .ldc2_w 95, 0, 0, 13, .long (lN 512736126322)), (43, .iconst 5, 0, 0, 0, .int (nI 5))]
theorem t_s_M_head_3 : s_M_head_3.all (am_ok 12 cX12_head) = true := by decide +kernel
theorem d_X12_head_44 : decode cX12_head 44 = .ok (.invokevirtual 76, 3) := by decide +kernel
theorem d_X12_head_47 : decode cX12_head 47 = .ok (.ifCond .eq 5, 3) := by decide +kernel
def s_M_head_4 : List am_Q := [(52, .aload_n 0, 0, 0, 0, .null), (53, .ldc2_w 97, 0, 0, 14, .long (lN 1718186597)), (56, .iconst 4, 0, 0, 0, .int (nI 4))]
theorem t_s_M_head_4 : s_M_head_4.all (am_ok 12 cX12_head) = true := by decide +kernel
theorem d_X12_head_57 : decode cX12_head 57 = .ok (.invokevirtual 76, 3) := by decide +kernel
theorem d_X12_head_60 : decode cX12_head 60 = .ok (.ifCond .eq 5, 3) := by decide +kernel
def s_M_head_5 : List am_Q := [(65, .aload_n 0, 0, 0, 0, .null), (66, .ldc2_w 99, 0, 0, 15, .long (lN 418346528372)), (69, .iconst 5, 0, 0, 0, .int (nI 5))]
theorem t_s_M_head_5 : s_M_head_5.all (am_ok 12 cX12_head) = true := by decide +kernel
theorem d_X12_head_70 : decode cX12_head 70 = .ok (.invokevirtual 76, 3) := by decide +kernel
theorem d_X12_head_73 : decode cX12_head 73 = .ok (.ifCond .eq 7, 3) := by decide +kernel
def s_M_head_6 : List am_Q := [(80, .iconst (-1), 0, 0, 0, .int (-1 : Int32))]
theorem t_s_M_head_6 : s_M_head_6.all (am_ok 12 cX12_head) = true := by decide +kernel
theorem d_X12_head_81 : decode cX12_head 81 = .ok (.ireturn, 1) := by decide +kernel
def s_M_head_7 : List am_Q := [(76, .iconst 5, 0, 0, 0, .int (nI 5)), (77, .goto 4, 81, 0, 0, .null)]
theorem t_s_M_head_7 : s_M_head_7.all (am_ok 12 cX12_head) = true := by decide +kernel
def s_M_head_8 : List am_Q := [(63, .iconst 4, 0, 0, 0, .int (nI 4))]
theorem t_s_M_head_8 : s_M_head_8.all (am_ok 12 cX12_head) = true := by decide +kernel
theorem d_X12_head_64 : decode cX12_head 64 = .ok (.ireturn, 1) := by decide +kernel
def s_M_head_9 : List am_Q := [(50, .iconst 3, 0, 0, 0, .int (nI 3))]
theorem t_s_M_head_9 : s_M_head_9.all (am_ok 12 cX12_head) = true := by decide +kernel
theorem d_X12_head_51 : decode cX12_head 51 = .ok (.ireturn, 1) := by decide +kernel
def s_M_head_10 : List am_Q := [(37, .iconst 2, 0, 0, 0, .int (nI 2))]
theorem t_s_M_head_10 : s_M_head_10.all (am_ok 12 cX12_head) = true := by decide +kernel
theorem d_X12_head_38 : decode cX12_head 38 = .ok (.ireturn, 1) := by decide +kernel
def s_M_head_11 : List am_Q := [(24, .iconst 1, 0, 0, 0, .int (nI 1))]
theorem t_s_M_head_11 : s_M_head_11.all (am_ok 12 cX12_head) = true := by decide +kernel
theorem d_X12_head_25 : decode cX12_head 25 = .ok (.ireturn, 1) := by decide +kernel
def s_M_head_12 : List am_Q := [(11, .iconst 0, 0, 0, 0, .int (nI 0))]
theorem t_s_M_head_12 : s_M_head_12.all (am_ok 12 cX12_head) = true := by decide +kernel
theorem d_X12_head_12 : decode cX12_head 12 = .ok (.ireturn, 1) := by decide +kernel
def M_head (τ : am_T) : Option (Int32 × am_T) :=
  (M_isName τ (lN 1919905638) (nI 4)).bind (fun x1 =>
  if x1.1 = 0 then
  ((M_isName x1.2 (lN 1818846836) (nI 4)).bind (fun x2 =>
  if x2.1 = 0 then
  ((M_isName x2.2 (lN 465491030131) (nI 5)).bind (fun x3 =>
  if x3.1 = 0 then
  ((M_isName x3.2 (lN 512736126322) (nI 5)).bind (fun x4 =>
  if x4.1 = 0 then
  ((M_isName x4.2 (lN 1718186597) (nI 4)).bind (fun x5 =>
  if x5.1 = 0 then
  ((M_isName x5.2 (lN 418346528372) (nI 5)).bind (fun x6 =>
  if x6.1 = 0 then
  (some ((-1 : Int32), x6.2))
else
  (some ((nI 5), x6.2))))
else
  (some ((nI 4), x5.2))))
else
  (some ((nI 3), x4.2))))
else
  (some ((nI 2), x3.2))))
else
  (some ((nI 1), x2.2))))
else
  (some ((nI 0), x1.2)))
set_option maxRecDepth 20000 in
theorem ok_M_head {X : am_X} {v : Int32} {τ τ' : am_T} (hF : am_F X "ShareHouseModel" cX12_head 1) (hR : am_R X 1 25) (hB : am_B X (some .int) (some (.int v)) (am_D τ')) (h : M_head τ = some (v, τ')) : am_W X 1 (0, [(0, .ref 140)], [], am_D τ) := by
  unfold M_head at h
  refine am_seg s_M_head_0 (y := (5, [(0, .ref 140)], [.int (nI 4), .long (lN 1919905638), .ref 140], am_D τ)) hF t_s_M_head_0 rfl rfl ?_
  refine am_bd h (fun x1 hx h => ?_)
  refine am_callV (As := [.long (lN 1919905638), .int (nI 4)]) (r := (some (.int x1.1))) (st := []) (σ' := am_D x1.2) (ci := 12) hF hR d_X12_head_5 (c_M_isName (τ' := x1.2) hx) (Nat.le_refl _) (Nat.le_refl _) wl_M_76 wi_yX12_isName we_yX12_isName wn_ShareHouseModel wc_yX12_isName (Nat.le_of_ble_eq_true rfl) (Nat.le_of_ble_eq_true rfl) rfl rfl wy_yX12_isName rfl ⟨by decide, by decide⟩ (Nat.le_of_ble_eq_true rfl) ?_
  refine am_ite h (fun hc h => ?_) (fun hc h => ?_)
  · refine am_if_eq_t (t := 13) d_X12_head_8 (by decide) hc hF ?_
    refine am_seg s_M_head_1 (y := (18, [(0, .ref 140)], [.int (nI 4), .long (lN 1818846836), .ref 140], am_D x1.2)) hF t_s_M_head_1 rfl rfl ?_
    refine am_bd h (fun x2 hx h => ?_)
    refine am_callV (As := [.long (lN 1818846836), .int (nI 4)]) (r := (some (.int x2.1))) (st := []) (σ' := am_D x2.2) (ci := 12) hF hR d_X12_head_18 (c_M_isName (τ' := x2.2) hx) (Nat.le_refl _) (Nat.le_refl _) wl_M_76 wi_yX12_isName we_yX12_isName wn_ShareHouseModel wc_yX12_isName (Nat.le_of_ble_eq_true rfl) (Nat.le_of_ble_eq_true rfl) rfl rfl wy_yX12_isName rfl ⟨by decide, by decide⟩ (Nat.le_of_ble_eq_true rfl) ?_
    refine am_ite h (fun hc h => ?_) (fun hc h => ?_)
    · refine am_if_eq_t (t := 26) d_X12_head_21 (by decide) hc hF ?_
      refine am_seg s_M_head_2 (y := (31, [(0, .ref 140)], [.int (nI 5), .long (lN 465491030131), .ref 140], am_D x2.2)) hF t_s_M_head_2 rfl rfl ?_
      refine am_bd h (fun x3 hx h => ?_)
      refine am_callV (As := [.long (lN 465491030131), .int (nI 5)]) (r := (some (.int x3.1))) (st := []) (σ' := am_D x3.2) (ci := 12) hF hR d_X12_head_31 (c_M_isName (τ' := x3.2) hx) (Nat.le_refl _) (Nat.le_refl _) wl_M_76 wi_yX12_isName we_yX12_isName wn_ShareHouseModel wc_yX12_isName (Nat.le_of_ble_eq_true rfl) (Nat.le_of_ble_eq_true rfl) rfl rfl wy_yX12_isName rfl ⟨by decide, by decide⟩ (Nat.le_of_ble_eq_true rfl) ?_
      refine am_ite h (fun hc h => ?_) (fun hc h => ?_)
      · refine am_if_eq_t (t := 39) d_X12_head_34 (by decide) hc hF ?_
        refine am_seg s_M_head_3 (y := (44, [(0, .ref 140)], [.int (nI 5), .long (lN 512736126322), .ref 140], am_D x3.2)) hF t_s_M_head_3 rfl rfl ?_
        refine am_bd h (fun x4 hx h => ?_)
        refine am_callV (As := [.long (lN 512736126322), .int (nI 5)]) (r := (some (.int x4.1))) (st := []) (σ' := am_D x4.2) (ci := 12) hF hR d_X12_head_44 (c_M_isName (τ' := x4.2) hx) (Nat.le_refl _) (Nat.le_refl _) wl_M_76 wi_yX12_isName we_yX12_isName wn_ShareHouseModel wc_yX12_isName (Nat.le_of_ble_eq_true rfl) (Nat.le_of_ble_eq_true rfl) rfl rfl wy_yX12_isName rfl ⟨by decide, by decide⟩ (Nat.le_of_ble_eq_true rfl) ?_
        refine am_ite h (fun hc h => ?_) (fun hc h => ?_)
        · refine am_if_eq_t (t := 52) d_X12_head_47 (by decide) hc hF ?_
          refine am_seg s_M_head_4 (y := (57, [(0, .ref 140)], [.int (nI 4), .long (lN 1718186597), .ref 140], am_D x4.2)) hF t_s_M_head_4 rfl rfl ?_
          refine am_bd h (fun x5 hx h => ?_)
          refine am_callV (As := [.long (lN 1718186597), .int (nI 4)]) (r := (some (.int x5.1))) (st := []) (σ' := am_D x5.2) (ci := 12) hF hR d_X12_head_57 (c_M_isName (τ' := x5.2) hx) (Nat.le_refl _) (Nat.le_refl _) wl_M_76 wi_yX12_isName we_yX12_isName wn_ShareHouseModel wc_yX12_isName (Nat.le_of_ble_eq_true rfl) (Nat.le_of_ble_eq_true rfl) rfl rfl wy_yX12_isName rfl ⟨by decide, by decide⟩ (Nat.le_of_ble_eq_true rfl) ?_
          refine am_ite h (fun hc h => ?_) (fun hc h => ?_)
          · refine am_if_eq_t (t := 65) d_X12_head_60 (by decide) hc hF ?_
            refine am_seg s_M_head_5 (y := (70, [(0, .ref 140)], [.int (nI 5), .long (lN 418346528372), .ref 140], am_D x5.2)) hF t_s_M_head_5 rfl rfl ?_
            refine am_bd h (fun x6 hx h => ?_)
            refine am_callV (As := [.long (lN 418346528372), .int (nI 5)]) (r := (some (.int x6.1))) (st := []) (σ' := am_D x6.2) (ci := 12) hF hR d_X12_head_70 (c_M_isName (τ' := x6.2) hx) (Nat.le_refl _) (Nat.le_refl _) wl_M_76 wi_yX12_isName we_yX12_isName wn_ShareHouseModel wc_yX12_isName (Nat.le_of_ble_eq_true rfl) (Nat.le_of_ble_eq_true rfl) rfl rfl wy_yX12_isName rfl ⟨by decide, by decide⟩ (Nat.le_of_ble_eq_true rfl) ?_
            refine am_ite h (fun hc h => ?_) (fun hc h => ?_)
            · refine am_if_eq_t (t := 80) d_X12_head_73 (by decide) hc hF ?_
              refine am_seg s_M_head_6 (y := (81, [(0, .ref 140)], [.int (-1 : Int32)], am_D x6.2)) hF t_s_M_head_6 rfl rfl ?_
              obtain ⟨rfl, rfl⟩ := am_pair h
              exact am_iret d_X12_head_81 hF hB
            · refine am_if_eq_f (t := 80) d_X12_head_73 (by decide) hc hF ?_
              refine am_seg s_M_head_7 (y := (81, [(0, .ref 140)], [.int (nI 5)], am_D x6.2)) hF t_s_M_head_7 rfl rfl ?_
              obtain ⟨rfl, rfl⟩ := am_pair h
              exact am_iret d_X12_head_81 hF hB
          · refine am_if_eq_f (t := 65) d_X12_head_60 (by decide) hc hF ?_
            refine am_seg s_M_head_8 (y := (64, [(0, .ref 140)], [.int (nI 4)], am_D x5.2)) hF t_s_M_head_8 rfl rfl ?_
            obtain ⟨rfl, rfl⟩ := am_pair h
            exact am_iret d_X12_head_64 hF hB
        · refine am_if_eq_f (t := 52) d_X12_head_47 (by decide) hc hF ?_
          refine am_seg s_M_head_9 (y := (51, [(0, .ref 140)], [.int (nI 3)], am_D x4.2)) hF t_s_M_head_9 rfl rfl ?_
          obtain ⟨rfl, rfl⟩ := am_pair h
          exact am_iret d_X12_head_51 hF hB
      · refine am_if_eq_f (t := 39) d_X12_head_34 (by decide) hc hF ?_
        refine am_seg s_M_head_10 (y := (38, [(0, .ref 140)], [.int (nI 2)], am_D x3.2)) hF t_s_M_head_10 rfl rfl ?_
        obtain ⟨rfl, rfl⟩ := am_pair h
        exact am_iret d_X12_head_38 hF hB
    · refine am_if_eq_f (t := 26) d_X12_head_21 (by decide) hc hF ?_
      refine am_seg s_M_head_11 (y := (25, [(0, .ref 140)], [.int (nI 1)], am_D x2.2)) hF t_s_M_head_11 rfl rfl ?_
      obtain ⟨rfl, rfl⟩ := am_pair h
      exact am_iret d_X12_head_25 hF hB
  · refine am_if_eq_f (t := 13) d_X12_head_8 (by decide) hc hF ?_
    refine am_seg s_M_head_12 (y := (12, [(0, .ref 140)], [.int (nI 0)], am_D x1.2)) hF t_s_M_head_12 rfl rfl ?_
    obtain ⟨rfl, rfl⟩ := am_pair h
    exact am_iret d_X12_head_12 hF hB
theorem c_M_head {v : Int32} {τ τ' : am_T} (h : M_head τ = some (v, τ')) : am_C yX12_head cX12_head 1 (some .int) 1 25 [.ref 140] (am_D τ) (some (.int v)) (am_D τ') :=
  am_enter (by decide +kernel) (Nat.le_of_ble_eq_true rfl) ⟨Nat.le_refl _, Nat.le_refl _⟩ (fun X hF hR hB => ok_M_head hF hR hB h)
def s_M_bad_0 : List am_Q := [(0, .aload_n 0, 0, 0, 0, .null), (1, .aload_n 0, 0, 0, 0, .null), (2, .getfield 73, 12, 7, 159, .null)]
theorem t_s_M_bad_0 : s_M_bad_0.all (am_ok 12 cX12_bad) = true := by decide +kernel
theorem d_X12_bad_5 : decode cX12_bad 5 = .ok (.ifCond .ge 10, 3) := by decide +kernel
def s_M_bad_1 : List am_Q := [(15, .aload_n 0, 0, 0, 0, .null), (16, .getfield 73, 12, 7, 159, .null), (19, .putfield 73, 12, 7, 159, .null)]
theorem t_s_M_bad_1 : s_M_bad_1.all (am_ok 12 cX12_bad) = true := by decide +kernel
theorem d_X12_bad_22 : decode cX12_bad 22 = .ok (.return_, 1) := by decide +kernel
def s_M_bad_2 : List am_Q := [(8, .aload_n 0, 0, 0, 0, .null), (9, .getfield 63, 12, 5, 157, .null), (12, .goto 7, 19, 0, 0, .null), (19, .putfield 73, 12, 7, 159, .null)]
theorem t_s_M_bad_2 : s_M_bad_2.all (am_ok 12 cX12_bad) = true := by decide +kernel
def M_bad (τ : am_T) : Option (am_T) :=
  if 0 ≤ (τ.1 140 7) then
  (some (am_si τ 140 7 (τ.1 140 7)))
else
  (some (am_si τ 140 7 (τ.1 140 5)))
set_option maxRecDepth 20000 in
theorem ok_M_bad {X : am_X} {τ τ' : am_T} (hF : am_F X "ShareHouseModel" cX12_bad 1) (hR : am_R X 0 0) (hB : am_B X none none (am_D τ')) (h : M_bad τ = some τ') : am_W X 1 (0, [(0, .ref 140)], [], am_D τ) := by
  unfold M_bad at h
  refine am_seg s_M_bad_0 (y := (5, [(0, .ref 140)], [.int (τ.1 140 7), .ref 140], am_D τ)) hF t_s_M_bad_0 rfl rfl ?_
  refine am_ite h (fun hc h => ?_) (fun hc h => ?_)
  · refine am_if_ge_t (t := 15) d_X12_bad_5 (by decide) hc hF ?_
    refine am_seg s_M_bad_1 (y := (22, [(0, .ref 140)], [], am_D (am_si τ 140 7 (τ.1 140 7)))) hF t_s_M_bad_1 rfl rfl ?_
    obtain rfl := am_one h
    exact am_vret d_X12_bad_22 hF hB
  · refine am_if_ge_f (t := 15) d_X12_bad_5 (by decide) hc hF ?_
    refine am_seg s_M_bad_2 (y := (22, [(0, .ref 140)], [], am_D (am_si τ 140 7 (τ.1 140 5)))) hF t_s_M_bad_2 rfl rfl ?_
    obtain rfl := am_one h
    exact am_vret d_X12_bad_22 hF hB
theorem c_M_bad {τ τ' : am_T} (h : M_bad τ = some τ') : am_C yX12_bad cX12_bad 1 none 0 0 [.ref 140] (am_D τ) none (am_D τ') :=
  am_enter (by decide +kernel) (Nat.le_of_ble_eq_true rfl) ⟨Nat.le_refl _, Nat.le_refl _⟩ (fun X hF hR hB => ok_M_bad hF hR hB h)
def s_M_oneHead_0 : List am_Q := [(0, .aload_n 0, 0, 0, 0, .null)]
theorem t_s_M_oneHead_0 : s_M_oneHead_0.all (am_ok 12 cX12_oneHead) = true := by decide +kernel
theorem d_X12_oneHead_1 : decode cX12_oneHead 1 = .ok (.invokevirtual 101, 3) := by decide +kernel
def s_M_oneHead_1 : List am_Q := [(4, .istore_n 1, 0, 0, 0, .null), (5, .iload_n 1, 0, 0, 0, .null)]
theorem t_s_M_oneHead_1 : s_M_oneHead_1.all (am_ok 12 cX12_oneHead) = true := by decide +kernel
theorem d_X12_oneHead_6 : decode cX12_oneHead 6 = .ok (.ifCond .ge 9, 3) := by decide +kernel
def s_M_oneHead_2 : List am_Q := [(15, .aload_n 0, 0, 0, 0, .null)]
theorem t_s_M_oneHead_2 : s_M_oneHead_2.all (am_ok 12 cX12_oneHead) = true := by decide +kernel
theorem d_X12_oneHead_16 : decode cX12_oneHead 16 = .ok (.invokevirtual 80, 3) := by decide +kernel
def s_M_oneHead_3 : List am_Q := [(19, .iconst 1, 0, 0, 0, .int (nI 1)), (20, .iload_n 1, 0, 0, 0, .null), (21, .ishl, 0, 0, 0, .null)]
theorem t_s_M_oneHead_3 : s_M_oneHead_3.all (am_ok 12 cX12_oneHead) = true := by decide +kernel
theorem d_X12_oneHead_22 : decode cX12_oneHead 22 = .ok (.ireturn, 1) := by decide +kernel
def s_M_oneHead_4 : List am_Q := [(9, .aload_n 0, 0, 0, 0, .null)]
theorem t_s_M_oneHead_4 : s_M_oneHead_4.all (am_ok 12 cX12_oneHead) = true := by decide +kernel
theorem d_X12_oneHead_10 : decode cX12_oneHead 10 = .ok (.invokevirtual 86, 3) := by decide +kernel
def s_M_oneHead_5 : List am_Q := [(13, .iconst 0, 0, 0, 0, .int (nI 0))]
theorem t_s_M_oneHead_5 : s_M_oneHead_5.all (am_ok 12 cX12_oneHead) = true := by decide +kernel
theorem d_X12_oneHead_14 : decode cX12_oneHead 14 = .ok (.ireturn, 1) := by decide +kernel
def M_oneHead (τ : am_T) : Option (Int32 × am_T) :=
  (M_head τ).bind (fun x1 =>
  if 0 ≤ x1.1 then
  ((M_next x1.2).bind (fun x2 =>
  some (((nI 1) <<< (x1.1 &&& 31)), x2)))
else
  ((M_bad x1.2).bind (fun x3 =>
  some ((nI 0), x3))))
set_option maxRecDepth 20000 in
theorem ok_M_oneHead {X : am_X} {v : Int32} {τ τ' : am_T} (hF : am_F X "ShareHouseModel" cX12_oneHead 2) (hR : am_R X 3 65) (hB : am_B X (some .int) (some (.int v)) (am_D τ')) (h : M_oneHead τ = some (v, τ')) : am_W X 2 (0, [(0, .ref 140)], [], am_D τ) := by
  unfold M_oneHead at h
  refine am_seg s_M_oneHead_0 (y := (1, [(0, .ref 140)], [.ref 140], am_D τ)) hF t_s_M_oneHead_0 rfl rfl ?_
  refine am_bd h (fun x1 hx h => ?_)
  refine am_callV (As := []) (r := (some (.int x1.1))) (st := []) (σ' := am_D x1.2) (ci := 12) hF hR d_X12_oneHead_1 (c_M_head (τ' := x1.2) hx) (Nat.le_refl _) (Nat.le_refl _) wl_M_101 wi_yX12_head we_yX12_head wn_ShareHouseModel wc_yX12_head (Nat.le_of_ble_eq_true rfl) (Nat.le_of_ble_eq_true rfl) rfl rfl wy_yX12_head rfl ⟨by decide, by decide⟩ (Nat.le_of_ble_eq_true rfl) ?_
  refine am_seg s_M_oneHead_1 (y := (6, [(1, .int x1.1), (0, .ref 140)], [.int x1.1], am_D x1.2)) hF t_s_M_oneHead_1 rfl rfl ?_
  refine am_ite h (fun hc h => ?_) (fun hc h => ?_)
  · refine am_if_ge_t (t := 15) d_X12_oneHead_6 (by decide) hc hF ?_
    refine am_seg s_M_oneHead_2 (y := (16, [(1, .int x1.1), (0, .ref 140)], [.ref 140], am_D x1.2)) hF t_s_M_oneHead_2 rfl rfl ?_
    refine am_bd h (fun x2 hx h => ?_)
    refine am_callV (As := []) (r := none) (st := []) (σ' := am_D x2) (ci := 12) hF hR d_X12_oneHead_16 (c_M_next (τ' := x2) hx) (Nat.le_refl _) (Nat.le_refl _) wl_M_80 wi_yX12_next we_yX12_next wn_ShareHouseModel wc_yX12_next (Nat.le_of_ble_eq_true rfl) (Nat.le_of_ble_eq_true rfl) rfl rfl wy_yX12_next rfl ⟨by decide, by decide⟩ (Nat.le_of_ble_eq_true rfl) ?_
    refine am_seg s_M_oneHead_3 (y := (22, [(1, .int x1.1), (0, .ref 140)], [.int ((nI 1) <<< (x1.1 &&& 31))], am_D x2)) hF t_s_M_oneHead_3 rfl rfl ?_
    obtain ⟨rfl, rfl⟩ := am_pair h
    exact am_iret d_X12_oneHead_22 hF hB
  · refine am_if_ge_f (t := 15) d_X12_oneHead_6 (by decide) hc hF ?_
    refine am_seg s_M_oneHead_4 (y := (10, [(1, .int x1.1), (0, .ref 140)], [.ref 140], am_D x1.2)) hF t_s_M_oneHead_4 rfl rfl ?_
    refine am_bd h (fun x3 hx h => ?_)
    refine am_callV (As := []) (r := none) (st := []) (σ' := am_D x3) (ci := 12) hF hR d_X12_oneHead_10 (c_M_bad (τ' := x3) hx) (Nat.le_refl _) (Nat.le_refl _) wl_M_86 wi_yX12_bad we_yX12_bad wn_ShareHouseModel wc_yX12_bad (Nat.le_of_ble_eq_true rfl) (Nat.le_of_ble_eq_true rfl) rfl rfl wy_yX12_bad rfl ⟨by decide, by decide⟩ (Nat.le_of_ble_eq_true rfl) ?_
    refine am_seg s_M_oneHead_5 (y := (14, [(1, .int x1.1), (0, .ref 140)], [.int (nI 0)], am_D x3)) hF t_s_M_oneHead_5 rfl rfl ?_
    obtain ⟨rfl, rfl⟩ := am_pair h
    exact am_iret d_X12_oneHead_14 hF hB
theorem c_M_oneHead {v : Int32} {τ τ' : am_T} (h : M_oneHead τ = some (v, τ')) : am_C yX12_oneHead cX12_oneHead 2 (some .int) 3 65 [.ref 140] (am_D τ) (some (.int v)) (am_D τ') :=
  am_enter (by decide +kernel) (Nat.le_of_ble_eq_true rfl) ⟨Nat.le_refl _, Nat.le_refl _⟩ (fun X hF hR hB => ok_M_oneHead hF hR hB h)
def s_M_heads_0 : List am_Q := [(0, .aload_n 0, 0, 0, 0, .null), (1, .ldc2_w 105, 0, 0, 9, .long (lN 6384748)), (4, .iconst 3, 0, 0, 0, .int (nI 3))]
theorem t_s_M_heads_0 : s_M_heads_0.all (am_ok 12 cX12_heads) = true := by decide +kernel
theorem d_X12_heads_5 : decode cX12_heads 5 = .ok (.invokevirtual 83, 3) := by decide +kernel
theorem d_X12_heads_8 : decode cX12_heads 8 = .ok (.ifCond .eq 6, 3) := by decide +kernel
def s_M_heads_1 : List am_Q := [(14, .aload_n 0, 0, 0, 0, .null)]
theorem t_s_M_heads_1 : s_M_heads_1.all (am_ok 12 cX12_heads) = true := by decide +kernel
theorem d_X12_heads_15 : decode cX12_heads 15 = .ok (.invokevirtual 107, 3) := by decide +kernel
def s_M_heads_2 : List am_Q := [(18, .istore_n 1, 0, 0, 0, .null)]
theorem t_s_M_heads_2 : s_M_heads_2.all (am_ok 12 cX12_heads) = true := by decide +kernel
def s_M_heads_3 : List am_Q := [(19, .aload_n 0, 0, 0, 0, .null), (20, .getfield 73, 12, 7, 159, .null)]
theorem t_s_M_heads_3 : s_M_heads_3.all (am_ok 12 cX12_heads) = true := by decide +kernel
theorem d_X12_heads_23 : decode cX12_heads 23 = .ok (.ifCond .ge 24, 3) := by decide +kernel
def s_M_heads_4 : List am_Q := [(47, .iload_n 1, 0, 0, 0, .null)]
theorem t_s_M_heads_4 : s_M_heads_4.all (am_ok 12 cX12_heads) = true := by decide +kernel
theorem d_X12_heads_48 : decode cX12_heads 48 = .ok (.ireturn, 1) := by decide +kernel
def s_M_heads_5 : List am_Q := [(26, .aload_n 0, 0, 0, 0, .null), (27, .ldc2_w 110, 0, 0, 16, .long (lN 6385252)), (30, .iconst 3, 0, 0, 0, .int (nI 3))]
theorem t_s_M_heads_5 : s_M_heads_5.all (am_ok 12 cX12_heads) = true := by decide +kernel
theorem d_X12_heads_31 : decode cX12_heads 31 = .ok (.invokevirtual 83, 3) := by decide +kernel
theorem d_X12_heads_34 : decode cX12_heads 34 = .ok (.ifCond .eq 13, 3) := by decide +kernel
def s_M_heads_6 : List am_Q := [(47, .iload_n 1, 0, 0, 0, .null)]
theorem t_s_M_heads_6 : s_M_heads_6.all (am_ok 12 cX12_heads) = true := by decide +kernel
def s_M_heads_7 : List am_Q := [(37, .iload_n 1, 0, 0, 0, .null), (38, .aload_n 0, 0, 0, 0, .null)]
theorem t_s_M_heads_7 : s_M_heads_7.all (am_ok 12 cX12_heads) = true := by decide +kernel
theorem d_X12_heads_39 : decode cX12_heads 39 = .ok (.invokevirtual 107, 3) := by decide +kernel
def s_M_heads_8 : List am_Q := [(42, .ior, 0, 0, 0, .null), (43, .istore_n 1, 0, 0, 0, .null), (44, .goto (-25), 19, 0, 0, .null)]
theorem t_s_M_heads_8 : s_M_heads_8.all (am_ok 12 cX12_heads) = true := by decide +kernel
def s_M_heads_9 : List am_Q := [(11, .bipush 63, 0, 0, 0, .int (nI 63))]
theorem t_s_M_heads_9 : s_M_heads_9.all (am_ok 12 cX12_heads) = true := by decide +kernel
theorem d_X12_heads_13 : decode cX12_heads 13 = .ok (.ireturn, 1) := by decide +kernel
def M_heads_19 : Nat → am_T → Int32 → Option (Int32 × am_T)
  | 0, _, _ => none
  | n + 1, τ, a1 =>
    if 0 ≤ (τ.1 140 7) then
  (some (a1, τ))
else
  ((M_may τ (lN 6385252) (nI 3)).bind (fun x3 =>
  if x3.1 = 0 then
  (some (a1, x3.2))
else
  ((M_oneHead x3.2).bind (fun x4 =>
  (M_heads_19 n) x4.2 (a1 ||| x4.1)))))
set_option maxRecDepth 20000 in
theorem ok_M_heads_19 {X : am_X} {v : Int32} {τ' : am_T} (hF : am_F X "ShareHouseModel" cX12_heads 2) (hR : am_R X 4 89) (hB : am_B X (some .int) (some (.int v)) (am_D τ')) : ∀ (n : Nat) (τ : am_T) (a1 : Int32), M_heads_19 n τ a1 = some (v, τ') → am_W X 2 (19, [(0, .ref 140), (1, .int a1)], [], am_D τ) := by
  intro n
  induction n with
  | zero => intro τ a1 h; unfold M_heads_19 at h; cases h
  | succ n ih =>
    intro τ a1 h
    unfold M_heads_19 at h
    refine am_seg s_M_heads_3 (y := (23, [(0, .ref 140), (1, .int a1)], [.int (τ.1 140 7)], am_D τ)) hF t_s_M_heads_3 rfl rfl ?_
    refine am_ite h (fun hc h => ?_) (fun hc h => ?_)
    · refine am_if_ge_t (t := 47) d_X12_heads_23 (by decide) hc hF ?_
      refine am_seg s_M_heads_4 (y := (48, [(0, .ref 140), (1, .int a1)], [.int a1], am_D τ)) hF t_s_M_heads_4 rfl rfl ?_
      obtain ⟨rfl, rfl⟩ := am_pair h
      exact am_iret d_X12_heads_48 hF hB
    · refine am_if_ge_f (t := 47) d_X12_heads_23 (by decide) hc hF ?_
      refine am_seg s_M_heads_5 (y := (31, [(0, .ref 140), (1, .int a1)], [.int (nI 3), .long (lN 6385252), .ref 140], am_D τ)) hF t_s_M_heads_5 rfl rfl ?_
      refine am_bd h (fun x3 hx h => ?_)
      refine am_callV (As := [.long (lN 6385252), .int (nI 3)]) (r := (some (.int x3.1))) (st := []) (σ' := am_D x3.2) (ci := 12) hF hR d_X12_heads_31 (c_M_may (τ' := x3.2) hx) (Nat.le_refl _) (Nat.le_refl _) wl_M_83 wi_yX12_may we_yX12_may wn_ShareHouseModel wc_yX12_may (Nat.le_of_ble_eq_true rfl) (Nat.le_of_ble_eq_true rfl) rfl rfl wy_yX12_may rfl ⟨by decide, by decide⟩ (Nat.le_of_ble_eq_true rfl) ?_
      refine am_ite h (fun hc h => ?_) (fun hc h => ?_)
      · refine am_if_eq_t (t := 47) d_X12_heads_34 (by decide) hc hF ?_
        refine am_seg s_M_heads_6 (y := (48, [(0, .ref 140), (1, .int a1)], [.int a1], am_D x3.2)) hF t_s_M_heads_6 rfl rfl ?_
        obtain ⟨rfl, rfl⟩ := am_pair h
        exact am_iret d_X12_heads_48 hF hB
      · refine am_if_eq_f (t := 47) d_X12_heads_34 (by decide) hc hF ?_
        refine am_seg s_M_heads_7 (y := (39, [(0, .ref 140), (1, .int a1)], [.ref 140, .int a1], am_D x3.2)) hF t_s_M_heads_7 rfl rfl ?_
        refine am_bd h (fun x4 hx h => ?_)
        refine am_callV (As := []) (r := (some (.int x4.1))) (st := [.int a1]) (σ' := am_D x4.2) (ci := 12) hF hR d_X12_heads_39 (c_M_oneHead (τ' := x4.2) hx) (Nat.le_refl _) (Nat.le_refl _) wl_M_107 wi_yX12_oneHead we_yX12_oneHead wn_ShareHouseModel wc_yX12_oneHead (Nat.le_of_ble_eq_true rfl) (Nat.le_of_ble_eq_true rfl) rfl rfl wy_yX12_oneHead rfl ⟨by decide, by decide⟩ (Nat.le_of_ble_eq_true rfl) ?_
        refine am_seg s_M_heads_8 (y := (19, [(1, .int (a1 ||| x4.1)), (0, .ref 140)], [], am_D x4.2)) hF t_s_M_heads_8 rfl rfl ?_
        refine am_pick [1, 0] rfl ?_
        exact ih _ _ h
def M_heads (τ : am_T) : Option (Int32 × am_T) :=
  (M_may τ (lN 6384748) (nI 3)).bind (fun x1 =>
  if x1.1 = 0 then
  ((M_oneHead x1.2).bind (fun x2 =>
  M_heads_19 5000 x2.2 x2.1))
else
  (some ((nI 63), x1.2)))
set_option maxRecDepth 20000 in
theorem ok_M_heads {X : am_X} {v : Int32} {τ τ' : am_T} (hF : am_F X "ShareHouseModel" cX12_heads 2) (hR : am_R X 4 89) (hB : am_B X (some .int) (some (.int v)) (am_D τ')) (h : M_heads τ = some (v, τ')) : am_W X 2 (0, [(0, .ref 140)], [], am_D τ) := by
  unfold M_heads at h
  refine am_seg s_M_heads_0 (y := (5, [(0, .ref 140)], [.int (nI 3), .long (lN 6384748), .ref 140], am_D τ)) hF t_s_M_heads_0 rfl rfl ?_
  refine am_bd h (fun x1 hx h => ?_)
  refine am_callV (As := [.long (lN 6384748), .int (nI 3)]) (r := (some (.int x1.1))) (st := []) (σ' := am_D x1.2) (ci := 12) hF hR d_X12_heads_5 (c_M_may (τ' := x1.2) hx) (Nat.le_refl _) (Nat.le_refl _) wl_M_83 wi_yX12_may we_yX12_may wn_ShareHouseModel wc_yX12_may (Nat.le_of_ble_eq_true rfl) (Nat.le_of_ble_eq_true rfl) rfl rfl wy_yX12_may rfl ⟨by decide, by decide⟩ (Nat.le_of_ble_eq_true rfl) ?_
  refine am_ite h (fun hc h => ?_) (fun hc h => ?_)
  · refine am_if_eq_t (t := 14) d_X12_heads_8 (by decide) hc hF ?_
    refine am_seg s_M_heads_1 (y := (15, [(0, .ref 140)], [.ref 140], am_D x1.2)) hF t_s_M_heads_1 rfl rfl ?_
    refine am_bd h (fun x2 hx h => ?_)
    refine am_callV (As := []) (r := (some (.int x2.1))) (st := []) (σ' := am_D x2.2) (ci := 12) hF hR d_X12_heads_15 (c_M_oneHead (τ' := x2.2) hx) (Nat.le_refl _) (Nat.le_refl _) wl_M_107 wi_yX12_oneHead we_yX12_oneHead wn_ShareHouseModel wc_yX12_oneHead (Nat.le_of_ble_eq_true rfl) (Nat.le_of_ble_eq_true rfl) rfl rfl wy_yX12_oneHead rfl ⟨by decide, by decide⟩ (Nat.le_of_ble_eq_true rfl) ?_
    refine am_seg s_M_heads_2 (y := (19, [(1, .int x2.1), (0, .ref 140)], [], am_D x2.2)) hF t_s_M_heads_2 rfl rfl ?_
    refine am_pick [1, 0] rfl ?_
    exact ok_M_heads_19 hF hR hB _ _ _ h
  · refine am_if_eq_f (t := 14) d_X12_heads_8 (by decide) hc hF ?_
    refine am_seg s_M_heads_9 (y := (13, [(0, .ref 140)], [.int (nI 63)], am_D x1.2)) hF t_s_M_heads_9 rfl rfl ?_
    obtain ⟨rfl, rfl⟩ := am_pair h
    exact am_iret d_X12_heads_13 hF hB
theorem c_M_heads {v : Int32} {τ τ' : am_T} (h : M_heads τ = some (v, τ')) : am_C yX12_heads cX12_heads 2 (some .int) 4 89 [.ref 140] (am_D τ) (some (.int v)) (am_D τ') :=
  am_enter (by decide +kernel) (Nat.le_of_ble_eq_true rfl) ⟨Nat.le_refl _, Nat.le_refl _⟩ (fun X hF hR hB => ok_M_heads hF hR hB h)
def s_M_must_0 : List am_Q := [(0, .aload_n 0, 0, 0, 0, .null), (1, .lload_n 1, 0, 0, 0, .null), (2, .iload_n 3, 0, 0, 0, .null)]
theorem t_s_M_must_0 : s_M_must_0.all (am_ok 12 cX12_must) = true := by decide +kernel
theorem d_X12_must_3 : decode cX12_must 3 = .ok (.invokevirtual 83, 3) := by decide +kernel
theorem d_X12_must_6 : decode cX12_must 6 = .ok (.ifCond .ne 7, 3) := by decide +kernel
theorem d_X12_must_13 : decode cX12_must 13 = .ok (.return_, 1) := by decide +kernel
def s_M_must_1 : List am_Q := [(9, .aload_n 0, 0, 0, 0, .null)]
theorem t_s_M_must_1 : s_M_must_1.all (am_ok 12 cX12_must) = true := by decide +kernel
theorem d_X12_must_10 : decode cX12_must 10 = .ok (.invokevirtual 86, 3) := by decide +kernel
def M_must (τ : am_T) (a1 : Int64) (a3 : Int32) : Option (am_T) :=
  (M_may τ a1 a3).bind (fun x1 =>
  if x1.1 = 0 then
  ((M_bad x1.2).bind (fun x2 =>
  some x2))
else
  (some x1.2))
set_option maxRecDepth 20000 in
theorem ok_M_must {X : am_X} {a1 : Int64} {a3 : Int32} {τ τ' : am_T} (hF : am_F X "ShareHouseModel" cX12_must 4) (hR : am_R X 4 89) (hB : am_B X none none (am_D τ')) (h : M_must τ a1 a3 = some τ') : am_W X 4 (0, [(0, .ref 140), (1, .long a1), (3, .int a3)], [], am_D τ) := by
  unfold M_must at h
  refine am_seg s_M_must_0 (y := (3, [(0, .ref 140), (1, .long a1), (3, .int a3)], [.int a3, .long a1, .ref 140], am_D τ)) hF t_s_M_must_0 rfl rfl ?_
  refine am_bd h (fun x1 hx h => ?_)
  refine am_callV (As := [.long a1, .int a3]) (r := (some (.int x1.1))) (st := []) (σ' := am_D x1.2) (ci := 12) hF hR d_X12_must_3 (c_M_may (τ' := x1.2) hx) (Nat.le_refl _) (Nat.le_refl _) wl_M_83 wi_yX12_may we_yX12_may wn_ShareHouseModel wc_yX12_may (Nat.le_of_ble_eq_true rfl) (Nat.le_of_ble_eq_true rfl) rfl rfl wy_yX12_may rfl ⟨by decide, by decide⟩ (Nat.le_of_ble_eq_true rfl) ?_
  refine am_ite h (fun hc h => ?_) (fun hc h => ?_)
  · refine am_if_ne_f (t := 13) d_X12_must_6 (by decide) hc hF ?_
    refine am_seg s_M_must_1 (y := (10, [(0, .ref 140), (1, .long a1), (3, .int a3)], [.ref 140], am_D x1.2)) hF t_s_M_must_1 rfl rfl ?_
    refine am_bd h (fun x2 hx h => ?_)
    refine am_callV (As := []) (r := none) (st := []) (σ' := am_D x2) (ci := 12) hF hR d_X12_must_10 (c_M_bad (τ' := x2) hx) (Nat.le_refl _) (Nat.le_refl _) wl_M_86 wi_yX12_bad we_yX12_bad wn_ShareHouseModel wc_yX12_bad (Nat.le_of_ble_eq_true rfl) (Nat.le_of_ble_eq_true rfl) rfl rfl wy_yX12_bad rfl ⟨by decide, by decide⟩ (Nat.le_of_ble_eq_true rfl) ?_
    obtain rfl := am_one h
    exact am_vret d_X12_must_13 hF hB
  · refine am_if_ne_t (t := 13) d_X12_must_6 (by decide) hc hF ?_
    obtain rfl := am_one h
    exact am_vret d_X12_must_13 hF hB
theorem c_M_must {a1 : Int64} {a3 : Int32} {τ τ' : am_T} (h : M_must τ a1 a3 = some τ') : am_C yX12_must cX12_must 4 none 4 89 [.ref 140, .long a1, .int a3] (am_D τ) none (am_D τ') :=
  am_enter (by decide +kernel) (Nat.le_of_ble_eq_true rfl) ⟨Nat.le_refl _, Nat.le_refl _⟩ (fun X hF hR hB => ok_M_must hF hR hB h)
def s_M_flatOf_0 : List am_Q := [(0, .aload_n 0, 0, 0, 0, .null), (1, .getfield 7, 12, 0, 152, .null), (4, .bipush 22, 0, 0, 0, .int (nI 22)), (6, .iconst 4, 0, 0, 0, .int (nI 4)), (7, .iload_n 1, 0, 0, 0, .null), (8, .imul, 0, 0, 0, .null), (9, .iadd, 0, 0, 0, .null), (10, .iload_n 2, 0, 0, 0, .null), (11, .iadd, 0, 0, 0, .null)]
theorem t_s_M_flatOf_0 : s_M_flatOf_0.all (am_ok 12 cX12_flatOf) = true := by decide +kernel
theorem d_X12_flatOf_12 : decode cX12_flatOf 12 = .ok (.iaload, 1) := by decide +kernel
theorem d_X12_flatOf_13 : decode cX12_flatOf 13 = .ok (.ireturn, 1) := by decide +kernel
def M_flatOf (τ : am_T) (a1 : Int32) (a2 : Int32) : Option (Int32 × am_T) :=
  am_g (am_in (((nI 22) + ((nI 4) * a1)) + a2) 1060) (some ((τ.1 141 ((((nI 22) + ((nI 4) * a1)) + a2).toNatClampNeg)), τ))
set_option maxRecDepth 20000 in
theorem ok_M_flatOf {X : am_X} {a1 : Int32} {a2 : Int32} {v : Int32} {τ τ' : am_T} (hF : am_F X "ShareHouseModel" cX12_flatOf 3) (hR : am_R X 0 0) (hB : am_B X (some .int) (some (.int v)) (am_D τ')) (h : M_flatOf τ a1 a2 = some (v, τ')) : am_W X 3 (0, [(0, .ref 140), (1, .int a1), (2, .int a2)], [], am_D τ) := by
  unfold M_flatOf at h
  refine am_seg s_M_flatOf_0 (y := (12, [(0, .ref 140), (1, .int a1), (2, .int a2)], [.int (((nI 22) + ((nI 4) * a1)) + a2), .ref 141], am_D τ)) hF t_s_M_flatOf_0 rfl rfl ?_
  refine am_gd h (fun hi h => ?_)
  refine am_iald (n := 1060) (j := ((((nI 22) + ((nI 4) * a1)) + a2).toNatClampNeg)) d_X12_flatOf_12 (Nat.le_of_ble_eq_true rfl) (Nat.le_of_ble_eq_true rfl) rfl hi rfl hF ?_
  obtain ⟨rfl, rfl⟩ := am_pair h
  exact am_iret d_X12_flatOf_13 hF hB
theorem c_M_flatOf {a1 : Int32} {a2 : Int32} {v : Int32} {τ τ' : am_T} (h : M_flatOf τ a1 a2 = some (v, τ')) : am_C yX12_flatOf cX12_flatOf 3 (some .int) 0 0 [.ref 140, .int a1, .int a2] (am_D τ) (some (.int v)) (am_D τ') :=
  am_enter (by decide +kernel) (Nat.le_of_ble_eq_true rfl) ⟨Nat.le_refl _, Nat.le_refl _⟩ (fun X hF hR hB => ok_M_flatOf hF hR hB h)
def s_M_number_0 : List am_Q := [(0, .iconst 0, 0, 0, 0, .int (nI 0)), (1, .istore_n 3, 0, 0, 0, .null), (2, .aload_n 0, 0, 0, 0, .null), (3, .aload_n 0, 0, 0, 0, .null), (4, .getfield 63, 12, 5, 157, .null)]
theorem t_s_M_number_0 : s_M_number_0.all (am_ok 12 cX12_number) = true := by decide +kernel
theorem d_X12_number_7 : decode cX12_number 7 = .ok (.invokevirtual 70, 3) := by decide +kernel
theorem d_X12_number_10 : decode cX12_number 10 = .ok (.ifCond .eq 20, 3) := by decide +kernel
def s_M_number_1 : List am_Q := [(30, .iconst 0, 0, 0, 0, .int (nI 0)), (31, .istore 4, 0, 0, 0, .null), (33, .aload_n 0, 0, 0, 0, .null), (34, .getfield 63, 12, 5, 157, .null), (37, .istore 5, 0, 0, 0, .null)]
theorem t_s_M_number_1 : s_M_number_1.all (am_ok 12 cX12_number) = true := by decide +kernel
def s_M_number_2 : List am_Q := [(39, .iload 5, 0, 0, 0, .null), (41, .aload_n 0, 0, 0, 0, .null), (42, .getfield 60, 12, 6, 158, .null)]
theorem t_s_M_number_2 : s_M_number_2.all (am_ok 12 cX12_number) = true := by decide +kernel
theorem d_X12_number_45 : decode cX12_number 45 = .ok (.if_icmp .ge 30, 3) := by decide +kernel
def s_M_number_3 : List am_Q := [(75, .iload 4, 0, 0, 0, .null)]
theorem t_s_M_number_3 : s_M_number_3.all (am_ok 12 cX12_number) = true := by decide +kernel
theorem d_X12_number_77 : decode cX12_number 77 = .ok (.ifCond .eq 12, 3) := by decide +kernel
def s_M_number_4 : List am_Q := [(89, .aload_n 0, 0, 0, 0, .null)]
theorem t_s_M_number_4 : s_M_number_4.all (am_ok 12 cX12_number) = true := by decide +kernel
theorem d_X12_number_90 : decode cX12_number 90 = .ok (.invokevirtual 86, 3) := by decide +kernel
def s_M_number_5 : List am_Q := [(93, .aload_n 0, 0, 0, 0, .null)]
theorem t_s_M_number_5 : s_M_number_5.all (am_ok 12 cX12_number) = true := by decide +kernel
theorem d_X12_number_94 : decode cX12_number 94 = .ok (.invokevirtual 80, 3) := by decide +kernel
def s_M_number_6 : List am_Q := [(97, .iload_n 3, 0, 0, 0, .null)]
theorem t_s_M_number_6 : s_M_number_6.all (am_ok 12 cX12_number) = true := by decide +kernel
theorem d_X12_number_98 : decode cX12_number 98 = .ok (.ireturn, 1) := by decide +kernel
def s_M_number_7 : List am_Q := [(80, .iload_n 3, 0, 0, 0, .null), (81, .iload_n 1, 0, 0, 0, .null), (82, .iload_n 2, 0, 0, 0, .null)]
theorem t_s_M_number_7 : s_M_number_7.all (am_ok 12 cX12_number) = true := by decide +kernel
theorem d_X12_number_83 : decode cX12_number 83 = .ok (.invokestatic 51, 3) := by decide +kernel
theorem d_X12_number_86 : decode cX12_number 86 = .ok (.ifCond .ne 7, 3) := by decide +kernel
def s_M_number_8 : List am_Q := [(93, .aload_n 0, 0, 0, 0, .null)]
theorem t_s_M_number_8 : s_M_number_8.all (am_ok 12 cX12_number) = true := by decide +kernel
def s_M_number_9 : List am_Q := [(97, .iload_n 3, 0, 0, 0, .null)]
theorem t_s_M_number_9 : s_M_number_9.all (am_ok 12 cX12_number) = true := by decide +kernel
def s_M_number_10 : List am_Q := [(89, .aload_n 0, 0, 0, 0, .null)]
theorem t_s_M_number_10 : s_M_number_10.all (am_ok 12 cX12_number) = true := by decide +kernel
def s_M_number_11 : List am_Q := [(93, .aload_n 0, 0, 0, 0, .null)]
theorem t_s_M_number_11 : s_M_number_11.all (am_ok 12 cX12_number) = true := by decide +kernel
def s_M_number_12 : List am_Q := [(97, .iload_n 3, 0, 0, 0, .null)]
theorem t_s_M_number_12 : s_M_number_12.all (am_ok 12 cX12_number) = true := by decide +kernel
def s_M_number_13 : List am_Q := [(48, .iload 4, 0, 0, 0, .null)]
theorem t_s_M_number_13 : s_M_number_13.all (am_ok 12 cX12_number) = true := by decide +kernel
theorem d_X12_number_50 : decode cX12_number 50 = .ok (.ifCond .eq 25, 3) := by decide +kernel
def s_M_number_14 : List am_Q := [(53, .bipush 10, 0, 0, 0, .int (nI 10)), (55, .iload_n 3, 0, 0, 0, .null), (56, .imul, 0, 0, 0, .null), (57, .aload_n 0, 0, 0, 0, .null), (58, .getfield 16, 12, 3, 155, .null), (61, .iload 5, 0, 0, 0, .null)]
theorem t_s_M_number_14 : s_M_number_14.all (am_ok 12 cX12_number) = true := by decide +kernel
theorem d_X12_number_63 : decode cX12_number 63 = .ok (.iaload, 1) := by decide +kernel
def s_M_number_15 : List am_Q := [(64, .iadd, 0, 0, 0, .null), (65, .bipush 48, 0, 0, 0, .int (nI 48)), (67, .isub, 0, 0, 0, .null), (68, .istore_n 3, 0, 0, 0, .null), (69, .iinc 5 1, 0, 0, 0, .int (nI 1)), (72, .goto (-33), 39, 0, 0, .null)]
theorem t_s_M_number_15 : s_M_number_15.all (am_ok 12 cX12_number) = true := by decide +kernel
def s_M_number_16 : List am_Q := [(13, .aload_n 0, 0, 0, 0, .null), (14, .getfield 60, 12, 6, 158, .null), (17, .aload_n 0, 0, 0, 0, .null), (18, .getfield 63, 12, 5, 157, .null), (21, .isub, 0, 0, 0, .null), (22, .iconst 3, 0, 0, 0, .int (nI 3))]
theorem t_s_M_number_16 : s_M_number_16.all (am_ok 12 cX12_number) = true := by decide +kernel
theorem d_X12_number_23 : decode cX12_number 23 = .ok (.if_icmp .gt 7, 3) := by decide +kernel
def s_M_number_17 : List am_Q := [(30, .iconst 0, 0, 0, 0, .int (nI 0)), (31, .istore 4, 0, 0, 0, .null), (33, .aload_n 0, 0, 0, 0, .null), (34, .getfield 63, 12, 5, 157, .null), (37, .istore 5, 0, 0, 0, .null)]
theorem t_s_M_number_17 : s_M_number_17.all (am_ok 12 cX12_number) = true := by decide +kernel
def s_M_number_18 : List am_Q := [(26, .iconst 1, 0, 0, 0, .int (nI 1)), (27, .goto 4, 31, 0, 0, .null), (31, .istore 4, 0, 0, 0, .null), (33, .aload_n 0, 0, 0, 0, .null), (34, .getfield 63, 12, 5, 157, .null), (37, .istore 5, 0, 0, 0, .null)]
theorem t_s_M_number_18 : s_M_number_18.all (am_ok 12 cX12_number) = true := by decide +kernel
def M_number_75 (τ : am_T) (a1 : Int32) (a2 : Int32) (a3 : Int32) (a4 : Int32) : Option (Int32 × am_T) :=
  if a4 = 0 then
  ((M_bad τ).bind (fun x2 =>
  (M_next x2).bind (fun x3 =>
  some (a3, x3))))
else
  ((M_in τ a3 a1 a2).bind (fun x4 =>
  if x4.1 = 0 then
  ((M_bad x4.2).bind (fun x6 =>
  (M_next x6).bind (fun x7 =>
  some (a3, x7))))
else
  ((M_next x4.2).bind (fun x5 =>
  some (a3, x5)))))
set_option maxRecDepth 20000 in
theorem ok_M_number_75 {X : am_X} {v : Int32} {τ' : am_T} (hF : am_F X "ShareHouseModel" cX12_number 6) (hR : am_R X 3 65) (hB : am_B X (some .int) (some (.int v)) (am_D τ')) {τ : am_T} {a1 : Int32} {a2 : Int32} {a3 : Int32} {a4 : Int32} (h : M_number_75 τ a1 a2 a3 a4 = some (v, τ')) : am_W X 6 (75, [(0, .ref 140), (1, .int a1), (2, .int a2), (3, .int a3), (4, .int a4)], [], am_D τ) := by
  unfold M_number_75 at h
  refine am_seg s_M_number_3 (y := (77, [(0, .ref 140), (1, .int a1), (2, .int a2), (3, .int a3), (4, .int a4)], [.int a4], am_D τ)) hF t_s_M_number_3 rfl rfl ?_
  refine am_ite h (fun hc h => ?_) (fun hc h => ?_)
  · refine am_if_eq_t (t := 89) d_X12_number_77 (by decide) hc hF ?_
    refine am_seg s_M_number_4 (y := (90, [(0, .ref 140), (1, .int a1), (2, .int a2), (3, .int a3), (4, .int a4)], [.ref 140], am_D τ)) hF t_s_M_number_4 rfl rfl ?_
    refine am_bd h (fun x2 hx h => ?_)
    refine am_callV (As := []) (r := none) (st := []) (σ' := am_D x2) (ci := 12) hF hR d_X12_number_90 (c_M_bad (τ' := x2) hx) (Nat.le_refl _) (Nat.le_refl _) wl_M_86 wi_yX12_bad we_yX12_bad wn_ShareHouseModel wc_yX12_bad (Nat.le_of_ble_eq_true rfl) (Nat.le_of_ble_eq_true rfl) rfl rfl wy_yX12_bad rfl ⟨by decide, by decide⟩ (Nat.le_of_ble_eq_true rfl) ?_
    refine am_seg s_M_number_5 (y := (94, [(0, .ref 140), (1, .int a1), (2, .int a2), (3, .int a3), (4, .int a4)], [.ref 140], am_D x2)) hF t_s_M_number_5 rfl rfl ?_
    refine am_bd h (fun x3 hx h => ?_)
    refine am_callV (As := []) (r := none) (st := []) (σ' := am_D x3) (ci := 12) hF hR d_X12_number_94 (c_M_next (τ' := x3) hx) (Nat.le_refl _) (Nat.le_refl _) wl_M_80 wi_yX12_next we_yX12_next wn_ShareHouseModel wc_yX12_next (Nat.le_of_ble_eq_true rfl) (Nat.le_of_ble_eq_true rfl) rfl rfl wy_yX12_next rfl ⟨by decide, by decide⟩ (Nat.le_of_ble_eq_true rfl) ?_
    refine am_seg s_M_number_6 (y := (98, [(0, .ref 140), (1, .int a1), (2, .int a2), (3, .int a3), (4, .int a4)], [.int a3], am_D x3)) hF t_s_M_number_6 rfl rfl ?_
    obtain ⟨rfl, rfl⟩ := am_pair h
    exact am_iret d_X12_number_98 hF hB
  · refine am_if_eq_f (t := 89) d_X12_number_77 (by decide) hc hF ?_
    refine am_seg s_M_number_7 (y := (83, [(0, .ref 140), (1, .int a1), (2, .int a2), (3, .int a3), (4, .int a4)], [.int a2, .int a1, .int a3], am_D τ)) hF t_s_M_number_7 rfl rfl ?_
    refine am_bd h (fun x4 hx h => ?_)
    refine am_callS (As := [.int a3, .int a1, .int a2]) (r := (some (.int x4.1))) (st := []) (σ' := am_D x4.2) hF hR d_X12_number_83 (c_M_in (τ' := x4.2) hx) (Nat.le_refl _) (Nat.le_refl _) wl_M_51 ws_yX12_in wn_ShareHouseModel wc_yX12_in wy_yX12_in rfl ⟨by decide, by decide⟩ (Nat.le_of_ble_eq_true rfl) ?_
    refine am_ite h (fun hc h => ?_) (fun hc h => ?_)
    · refine am_if_ne_f (t := 93) d_X12_number_86 (by decide) hc hF ?_
      refine am_seg s_M_number_10 (y := (90, [(0, .ref 140), (1, .int a1), (2, .int a2), (3, .int a3), (4, .int a4)], [.ref 140], am_D x4.2)) hF t_s_M_number_10 rfl rfl ?_
      refine am_bd h (fun x6 hx h => ?_)
      refine am_callV (As := []) (r := none) (st := []) (σ' := am_D x6) (ci := 12) hF hR d_X12_number_90 (c_M_bad (τ' := x6) hx) (Nat.le_refl _) (Nat.le_refl _) wl_M_86 wi_yX12_bad we_yX12_bad wn_ShareHouseModel wc_yX12_bad (Nat.le_of_ble_eq_true rfl) (Nat.le_of_ble_eq_true rfl) rfl rfl wy_yX12_bad rfl ⟨by decide, by decide⟩ (Nat.le_of_ble_eq_true rfl) ?_
      refine am_seg s_M_number_11 (y := (94, [(0, .ref 140), (1, .int a1), (2, .int a2), (3, .int a3), (4, .int a4)], [.ref 140], am_D x6)) hF t_s_M_number_11 rfl rfl ?_
      refine am_bd h (fun x7 hx h => ?_)
      refine am_callV (As := []) (r := none) (st := []) (σ' := am_D x7) (ci := 12) hF hR d_X12_number_94 (c_M_next (τ' := x7) hx) (Nat.le_refl _) (Nat.le_refl _) wl_M_80 wi_yX12_next we_yX12_next wn_ShareHouseModel wc_yX12_next (Nat.le_of_ble_eq_true rfl) (Nat.le_of_ble_eq_true rfl) rfl rfl wy_yX12_next rfl ⟨by decide, by decide⟩ (Nat.le_of_ble_eq_true rfl) ?_
      refine am_seg s_M_number_12 (y := (98, [(0, .ref 140), (1, .int a1), (2, .int a2), (3, .int a3), (4, .int a4)], [.int a3], am_D x7)) hF t_s_M_number_12 rfl rfl ?_
      obtain ⟨rfl, rfl⟩ := am_pair h
      exact am_iret d_X12_number_98 hF hB
    · refine am_if_ne_t (t := 93) d_X12_number_86 (by decide) hc hF ?_
      refine am_seg s_M_number_8 (y := (94, [(0, .ref 140), (1, .int a1), (2, .int a2), (3, .int a3), (4, .int a4)], [.ref 140], am_D x4.2)) hF t_s_M_number_8 rfl rfl ?_
      refine am_bd h (fun x5 hx h => ?_)
      refine am_callV (As := []) (r := none) (st := []) (σ' := am_D x5) (ci := 12) hF hR d_X12_number_94 (c_M_next (τ' := x5) hx) (Nat.le_refl _) (Nat.le_refl _) wl_M_80 wi_yX12_next we_yX12_next wn_ShareHouseModel wc_yX12_next (Nat.le_of_ble_eq_true rfl) (Nat.le_of_ble_eq_true rfl) rfl rfl wy_yX12_next rfl ⟨by decide, by decide⟩ (Nat.le_of_ble_eq_true rfl) ?_
      refine am_seg s_M_number_9 (y := (98, [(0, .ref 140), (1, .int a1), (2, .int a2), (3, .int a3), (4, .int a4)], [.int a3], am_D x5)) hF t_s_M_number_9 rfl rfl ?_
      obtain ⟨rfl, rfl⟩ := am_pair h
      exact am_iret d_X12_number_98 hF hB
def M_number_39 : Nat → am_T → Int32 → Int32 → Int32 → Int32 → Int32 → Option (Int32 × am_T)
  | 0, _, _, _, _, _, _ => none
  | n + 1, τ, a1, a2, a3, a4, a5 =>
    if (τ.1 140 6) ≤ a5 then
  (M_number_75 τ a1 a2 a3 a4)
else
  (if a4 = 0 then
  (M_number_75 τ a1 a2 a3 a4)
else
  (am_g (am_in a5 200) ((M_number_39 n) τ a1 a2 ((((nI 10) * a3) + (τ.1 143 (a5.toNatClampNeg))) - (nI 48)) a4 (a5 + (nI 1)))))
set_option maxRecDepth 20000 in
theorem ok_M_number_39 {X : am_X} {v : Int32} {τ' : am_T} (hF : am_F X "ShareHouseModel" cX12_number 6) (hR : am_R X 3 65) (hB : am_B X (some .int) (some (.int v)) (am_D τ')) : ∀ (n : Nat) (τ : am_T) (a1 : Int32) (a2 : Int32) (a3 : Int32) (a4 : Int32) (a5 : Int32), M_number_39 n τ a1 a2 a3 a4 a5 = some (v, τ') → am_W X 6 (39, [(0, .ref 140), (1, .int a1), (2, .int a2), (3, .int a3), (4, .int a4), (5, .int a5)], [], am_D τ) := by
  intro n
  induction n with
  | zero => intro τ a1 a2 a3 a4 a5 h; unfold M_number_39 at h; cases h
  | succ n ih =>
    intro τ a1 a2 a3 a4 a5 h
    unfold M_number_39 at h
    refine am_seg s_M_number_2 (y := (45, [(0, .ref 140), (1, .int a1), (2, .int a2), (3, .int a3), (4, .int a4), (5, .int a5)], [.int (τ.1 140 6), .int a5], am_D τ)) hF t_s_M_number_2 rfl rfl ?_
    refine am_ite h (fun hc h => ?_) (fun hc h => ?_)
    · refine am_icmp_ge_t (t := 75) d_X12_number_45 (by decide) hc hF ?_
      refine am_pick [0, 1, 2, 3, 4] rfl ?_
      exact ok_M_number_75 hF hR hB h
    · refine am_icmp_ge_f (t := 75) d_X12_number_45 (by decide) hc hF ?_
      refine am_seg s_M_number_13 (y := (50, [(0, .ref 140), (1, .int a1), (2, .int a2), (3, .int a3), (4, .int a4), (5, .int a5)], [.int a4], am_D τ)) hF t_s_M_number_13 rfl rfl ?_
      refine am_ite h (fun hc h => ?_) (fun hc h => ?_)
      · refine am_if_eq_t (t := 75) d_X12_number_50 (by decide) hc hF ?_
        refine am_pick [0, 1, 2, 3, 4] rfl ?_
        exact ok_M_number_75 hF hR hB h
      · refine am_if_eq_f (t := 75) d_X12_number_50 (by decide) hc hF ?_
        refine am_seg s_M_number_14 (y := (63, [(0, .ref 140), (1, .int a1), (2, .int a2), (3, .int a3), (4, .int a4), (5, .int a5)], [.int a5, .ref 143, .int ((nI 10) * a3)], am_D τ)) hF t_s_M_number_14 rfl rfl ?_
        refine am_gd h (fun hi h => ?_)
        refine am_iald (n := 200) (j := (a5.toNatClampNeg)) d_X12_number_63 (Nat.le_of_ble_eq_true rfl) (Nat.le_of_ble_eq_true rfl) rfl hi rfl hF ?_
        refine am_seg s_M_number_15 (y := (39, [(5, .int (a5 + (nI 1))), (3, .int ((((nI 10) * a3) + (τ.1 143 (a5.toNatClampNeg))) - (nI 48))), (0, .ref 140), (1, .int a1), (2, .int a2), (4, .int a4)], [], am_D τ)) hF t_s_M_number_15 rfl rfl ?_
        refine am_pick [2, 3, 4, 1, 5, 0] rfl ?_
        exact ih _ _ _ _ _ _ h
def M_number (τ : am_T) (a1 : Int32) (a2 : Int32) : Option (Int32 × am_T) :=
  (M_isDigit τ (τ.1 140 5)).bind (fun x1 =>
  if x1.1 = 0 then
  (M_number_39 5000 x1.2 a1 a2 (nI 0) (nI 0) (x1.2.1 140 5))
else
  (if (nI 3) < ((x1.2.1 140 6) - (x1.2.1 140 5)) then
  (M_number_39 5000 x1.2 a1 a2 (nI 0) (nI 0) (x1.2.1 140 5))
else
  (M_number_39 5000 x1.2 a1 a2 (nI 0) (nI 1) (x1.2.1 140 5))))
set_option maxRecDepth 20000 in
theorem ok_M_number {X : am_X} {a1 : Int32} {a2 : Int32} {v : Int32} {τ τ' : am_T} (hF : am_F X "ShareHouseModel" cX12_number 6) (hR : am_R X 3 65) (hB : am_B X (some .int) (some (.int v)) (am_D τ')) (h : M_number τ a1 a2 = some (v, τ')) : am_W X 6 (0, [(0, .ref 140), (1, .int a1), (2, .int a2)], [], am_D τ) := by
  unfold M_number at h
  refine am_seg s_M_number_0 (y := (7, [(3, .int (nI 0)), (0, .ref 140), (1, .int a1), (2, .int a2)], [.int (τ.1 140 5), .ref 140], am_D τ)) hF t_s_M_number_0 rfl rfl ?_
  refine am_bd h (fun x1 hx h => ?_)
  refine am_callV (As := [.int (τ.1 140 5)]) (r := (some (.int x1.1))) (st := []) (σ' := am_D x1.2) (ci := 12) hF hR d_X12_number_7 (c_M_isDigit (τ' := x1.2) hx) (Nat.le_refl _) (Nat.le_refl _) wl_M_70 wi_yX12_isDigit we_yX12_isDigit wn_ShareHouseModel wc_yX12_isDigit (Nat.le_of_ble_eq_true rfl) (Nat.le_of_ble_eq_true rfl) rfl rfl wy_yX12_isDigit rfl ⟨by decide, by decide⟩ (Nat.le_of_ble_eq_true rfl) ?_
  refine am_ite h (fun hc h => ?_) (fun hc h => ?_)
  · refine am_if_eq_t (t := 30) d_X12_number_10 (by decide) hc hF ?_
    refine am_seg s_M_number_1 (y := (39, [(5, .int (x1.2.1 140 5)), (4, .int (nI 0)), (3, .int (nI 0)), (0, .ref 140), (1, .int a1), (2, .int a2)], [], am_D x1.2)) hF t_s_M_number_1 rfl rfl ?_
    refine am_pick [3, 4, 5, 2, 1, 0] rfl ?_
    exact ok_M_number_39 hF hR hB _ _ _ _ _ _ _ h
  · refine am_if_eq_f (t := 30) d_X12_number_10 (by decide) hc hF ?_
    refine am_seg s_M_number_16 (y := (23, [(3, .int (nI 0)), (0, .ref 140), (1, .int a1), (2, .int a2)], [.int (nI 3), .int ((x1.2.1 140 6) - (x1.2.1 140 5))], am_D x1.2)) hF t_s_M_number_16 rfl rfl ?_
    refine am_ite h (fun hc h => ?_) (fun hc h => ?_)
    · refine am_icmp_gt_t (t := 30) d_X12_number_23 (by decide) hc hF ?_
      refine am_seg s_M_number_17 (y := (39, [(5, .int (x1.2.1 140 5)), (4, .int (nI 0)), (3, .int (nI 0)), (0, .ref 140), (1, .int a1), (2, .int a2)], [], am_D x1.2)) hF t_s_M_number_17 rfl rfl ?_
      refine am_pick [3, 4, 5, 2, 1, 0] rfl ?_
      exact ok_M_number_39 hF hR hB _ _ _ _ _ _ _ h
    · refine am_icmp_gt_f (t := 30) d_X12_number_23 (by decide) hc hF ?_
      refine am_seg s_M_number_18 (y := (39, [(5, .int (x1.2.1 140 5)), (4, .int (nI 1)), (3, .int (nI 0)), (0, .ref 140), (1, .int a1), (2, .int a2)], [], am_D x1.2)) hF t_s_M_number_18 rfl rfl ?_
      refine am_pick [3, 4, 5, 2, 1, 0] rfl ?_
      exact ok_M_number_39 hF hR hB _ _ _ _ _ _ _ h
theorem c_M_number {a1 : Int32} {a2 : Int32} {v : Int32} {τ τ' : am_T} (h : M_number τ a1 a2 = some (v, τ')) : am_C yX12_number cX12_number 6 (some .int) 3 65 [.ref 140, .int a1, .int a2] (am_D τ) (some (.int v)) (am_D τ') :=
  am_enter (by decide +kernel) (Nat.le_of_ble_eq_true rfl) ⟨Nat.le_refl _, Nat.le_refl _⟩ (fun X hF hR hB => ok_M_number hF hR hB h)
def s_M_one_0 : List am_Q := [(0, .aload_n 0, 0, 0, 0, .null), (1, .ldc2_w 139, 0, 0, 24, .long (lN 7237492)), (4, .iconst 3, 0, 0, 0, .int (nI 3))]
theorem t_s_M_one_0 : s_M_one_0.all (am_ok 12 cX12_one) = true := by decide +kernel
theorem d_X12_one_5 : decode cX12_one 5 = .ok (.invokevirtual 83, 3) := by decide +kernel
def s_M_one_1 : List am_Q := [(8, .istore_n 2, 0, 0, 0, .null), (9, .aload_n 0, 0, 0, 0, .null), (10, .dup, 0, 0, 0, .null), (11, .getfield 141, 12, 11, 163, .null), (14, .iconst 1, 0, 0, 0, .int (nI 1)), (15, .iadd, 0, 0, 0, .null), (16, .putfield 141, 12, 11, 163, .null), (19, .aload_n 0, 0, 0, 0, .null), (20, .ldc2_w 144, 0, 0, 25, .long (lN 1936224112)), (23, .iconst 4, 0, 0, 0, .int (nI 4))]
theorem t_s_M_one_1 : s_M_one_1.all (am_ok 12 cX12_one) = true := by decide +kernel
theorem d_X12_one_24 : decode cX12_one 24 = .ok (.invokevirtual 83, 3) := by decide +kernel
theorem d_X12_one_27 : decode cX12_one 27 = .ok (.ifCond .eq 22, 3) := by decide +kernel
def s_M_one_2 : List am_Q := [(49, .aload_n 0, 0, 0, 0, .null), (50, .ldc2_w 149, 0, 0, 26, .long (lN 418263299685)), (53, .iconst 5, 0, 0, 0, .int (nI 5))]
theorem t_s_M_one_2 : s_M_one_2.all (am_ok 12 cX12_one) = true := by decide +kernel
theorem d_X12_one_54 : decode cX12_one 54 = .ok (.invokevirtual 83, 3) := by decide +kernel
theorem d_X12_one_57 : decode cX12_one 57 = .ok (.ifCond .eq 28, 3) := by decide +kernel
def s_M_one_3 : List am_Q := [(85, .aload_n 0, 0, 0, 0, .null), (86, .ldc2_w 151, 0, 0, 27, .long (lN 422608400247)), (89, .iconst 5, 0, 0, 0, .int (nI 5))]
theorem t_s_M_one_3 : s_M_one_3.all (am_ok 12 cX12_one) = true := by decide +kernel
theorem d_X12_one_90 : decode cX12_one 90 = .ok (.invokevirtual 135, 3) := by decide +kernel
def s_M_one_4 : List am_Q := [(93, .aload_n 0, 0, 0, 0, .null), (94, .getfield 73, 12, 7, 159, .null)]
theorem t_s_M_one_4 : s_M_one_4.all (am_ok 12 cX12_one) = true := by decide +kernel
theorem d_X12_one_97 : decode cX12_one 97 = .ok (.ifCond .ge 23, 3) := by decide +kernel
def s_M_one_5 : List am_Q := [(120, .iconst 0, 0, 0, 0, .int (nI 0)), (121, .istore_n 3, 0, 0, 0, .null)]
theorem t_s_M_one_5 : s_M_one_5.all (am_ok 12 cX12_one) = true := by decide +kernel
def s_M_one_6 : List am_Q := [(122, .iload_n 3, 0, 0, 0, .null), (123, .iload_n 2, 0, 0, 0, .null)]
theorem t_s_M_one_6 : s_M_one_6.all (am_ok 12 cX12_one) = true := by decide +kernel
theorem d_X12_one_124 : decode cX12_one 124 = .ok (.if_icmp .eq 7, 3) := by decide +kernel
def s_M_one_7 : List am_Q := [(131, .iconst 0, 0, 0, 0, .int (nI 0))]
theorem t_s_M_one_7 : s_M_one_7.all (am_ok 12 cX12_one) = true := by decide +kernel
theorem d_X12_one_132 : decode cX12_one 132 = .ok (.ireturn, 1) := by decide +kernel
def s_M_one_8 : List am_Q := [(127, .iconst 1, 0, 0, 0, .int (nI 1)), (128, .goto 4, 132, 0, 0, .null)]
theorem t_s_M_one_8 : s_M_one_8.all (am_ok 12 cX12_one) = true := by decide +kernel
def s_M_one_9 : List am_Q := [(100, .aload_n 0, 0, 0, 0, .null), (101, .iload_n 1, 0, 0, 0, .null), (102, .iconst 0, 0, 0, 0, .int (nI 0))]
theorem t_s_M_one_9 : s_M_one_9.all (am_ok 12 cX12_one) = true := by decide +kernel
theorem d_X12_one_103 : decode cX12_one 103 = .ok (.invokevirtual 146, 3) := by decide +kernel
def s_M_one_10 : List am_Q := [(106, .aload_n 0, 0, 0, 0, .null), (107, .iconst 0, 0, 0, 0, .int (nI 0)), (108, .bipush 9, 0, 0, 0, .int (nI 9))]
theorem t_s_M_one_10 : s_M_one_10.all (am_ok 12 cX12_one) = true := by decide +kernel
theorem d_X12_one_110 : decode cX12_one 110 = .ok (.invokevirtual 129, 3) := by decide +kernel
theorem d_X12_one_113 : decode cX12_one 113 = .ok (.if_icmp .ge 7, 3) := by decide +kernel
def s_M_one_11 : List am_Q := [(120, .iconst 0, 0, 0, 0, .int (nI 0)), (121, .istore_n 3, 0, 0, 0, .null)]
theorem t_s_M_one_11 : s_M_one_11.all (am_ok 12 cX12_one) = true := by decide +kernel
def s_M_one_12 : List am_Q := [(116, .iconst 1, 0, 0, 0, .int (nI 1)), (117, .goto 4, 121, 0, 0, .null), (121, .istore_n 3, 0, 0, 0, .null)]
theorem t_s_M_one_12 : s_M_one_12.all (am_ok 12 cX12_one) = true := by decide +kernel
def s_M_one_13 : List am_Q := [(60, .aload_n 0, 0, 0, 0, .null), (61, .iload_n 1, 0, 0, 0, .null), (62, .iconst 0, 0, 0, 0, .int (nI 0))]
theorem t_s_M_one_13 : s_M_one_13.all (am_ok 12 cX12_one) = true := by decide +kernel
theorem d_X12_one_63 : decode cX12_one 63 = .ok (.invokevirtual 146, 3) := by decide +kernel
def s_M_one_14 : List am_Q := [(66, .aload_n 0, 0, 0, 0, .null), (67, .iconst 0, 0, 0, 0, .int (nI 0)), (68, .bipush 9, 0, 0, 0, .int (nI 9))]
theorem t_s_M_one_14 : s_M_one_14.all (am_ok 12 cX12_one) = true := by decide +kernel
theorem d_X12_one_70 : decode cX12_one 70 = .ok (.invokevirtual 129, 3) := by decide +kernel
theorem d_X12_one_73 : decode cX12_one 73 = .ok (.if_icmp .le 7, 3) := by decide +kernel
def s_M_one_15 : List am_Q := [(80, .iconst 0, 0, 0, 0, .int (nI 0)), (81, .istore_n 3, 0, 0, 0, .null), (82, .goto 40, 122, 0, 0, .null)]
theorem t_s_M_one_15 : s_M_one_15.all (am_ok 12 cX12_one) = true := by decide +kernel
def s_M_one_16 : List am_Q := [(76, .iconst 1, 0, 0, 0, .int (nI 1)), (77, .goto 4, 81, 0, 0, .null), (81, .istore_n 3, 0, 0, 0, .null), (82, .goto 40, 122, 0, 0, .null)]
theorem t_s_M_one_16 : s_M_one_16.all (am_ok 12 cX12_one) = true := by decide +kernel
def s_M_one_17 : List am_Q := [(30, .aload_n 0, 0, 0, 0, .null), (31, .iload_n 1, 0, 0, 0, .null), (32, .iconst 2, 0, 0, 0, .int (nI 2))]
theorem t_s_M_one_17 : s_M_one_17.all (am_ok 12 cX12_one) = true := by decide +kernel
theorem d_X12_one_33 : decode cX12_one 33 = .ok (.invokevirtual 146, 3) := by decide +kernel
def s_M_one_18 : List am_Q := [(36, .iconst 1, 0, 0, 0, .int (nI 1))]
theorem t_s_M_one_18 : s_M_one_18.all (am_ok 12 cX12_one) = true := by decide +kernel
theorem d_X12_one_37 : decode cX12_one 37 = .ok (.if_icmp .ne 7, 3) := by decide +kernel
def s_M_one_19 : List am_Q := [(44, .iconst 0, 0, 0, 0, .int (nI 0)), (45, .istore_n 3, 0, 0, 0, .null), (46, .goto 76, 122, 0, 0, .null)]
theorem t_s_M_one_19 : s_M_one_19.all (am_ok 12 cX12_one) = true := by decide +kernel
def s_M_one_20 : List am_Q := [(40, .iconst 1, 0, 0, 0, .int (nI 1)), (41, .goto 4, 45, 0, 0, .null), (45, .istore_n 3, 0, 0, 0, .null), (46, .goto 76, 122, 0, 0, .null)]
theorem t_s_M_one_20 : s_M_one_20.all (am_ok 12 cX12_one) = true := by decide +kernel
def M_one_122 (τ : am_T) (a2 : Int32) (a3 : Int32) : Option (Int32 × am_T) :=
  if a3 = a2 then
  (some ((nI 0), τ))
else
  (some ((nI 1), τ))
set_option maxRecDepth 20000 in
theorem ok_M_one_122 {X : am_X} {v : Int32} {τ' : am_T} (hF : am_F X "ShareHouseModel" cX12_one 4) (hR : am_R X 5 112) (hB : am_B X (some .boolean) (some (.int v)) (am_D τ')) {τ : am_T} {a2 : Int32} {a3 : Int32} (h : M_one_122 τ a2 a3 = some (v, τ')) : am_W X 4 (122, [(2, .int a2), (3, .int a3)], [], am_D τ) := by
  unfold M_one_122 at h
  refine am_seg s_M_one_6 (y := (124, [(2, .int a2), (3, .int a3)], [.int a2, .int a3], am_D τ)) hF t_s_M_one_6 rfl rfl ?_
  refine am_ite h (fun hc h => ?_) (fun hc h => ?_)
  · refine am_icmp_eq_t (t := 131) d_X12_one_124 (by decide) hc hF ?_
    refine am_seg s_M_one_7 (y := (132, [(2, .int a2), (3, .int a3)], [.int (nI 0)], am_D τ)) hF t_s_M_one_7 rfl rfl ?_
    obtain ⟨rfl, rfl⟩ := am_pair h
    exact am_zret d_X12_one_132 rfl hF hB
  · refine am_icmp_eq_f (t := 131) d_X12_one_124 (by decide) hc hF ?_
    refine am_seg s_M_one_8 (y := (132, [(2, .int a2), (3, .int a3)], [.int (nI 1)], am_D τ)) hF t_s_M_one_8 rfl rfl ?_
    obtain ⟨rfl, rfl⟩ := am_pair h
    exact am_zret d_X12_one_132 rfl hF hB
def M_one (τ : am_T) (a1 : Int32) : Option (Int32 × am_T) :=
  (M_may τ (lN 7237492) (nI 3)).bind (fun x1 =>
  (M_may (am_si x1.2 140 11 ((x1.2.1 140 11) + (nI 1))) (lN 1936224112) (nI 4)).bind (fun x2 =>
  if x2.1 = 0 then
  ((M_may x2.2 (lN 418263299685) (nI 5)).bind (fun x3 =>
  if x3.1 = 0 then
  ((M_must x3.2 (lN 422608400247) (nI 5)).bind (fun x4 =>
  if 0 ≤ (x4.1 140 7) then
  (M_one_122 x4 x1.1 (nI 0))
else
  ((M_flatOf x4 a1 (nI 0)).bind (fun x5 =>
  (M_number x5.2 (nI 0) (nI 9)).bind (fun x6 =>
  if x6.1 ≤ x5.1 then
  (M_one_122 x6.2 x1.1 (nI 0))
else
  (M_one_122 x6.2 x1.1 (nI 1)))))))
else
  ((M_flatOf x3.2 a1 (nI 0)).bind (fun x7 =>
  (M_number x7.2 (nI 0) (nI 9)).bind (fun x8 =>
  if x7.1 ≤ x8.1 then
  (M_one_122 x8.2 x1.1 (nI 0))
else
  (M_one_122 x8.2 x1.1 (nI 1)))))))
else
  ((M_flatOf x2.2 a1 (nI 2)).bind (fun x9 =>
  if x9.1 = (nI 1) then
  (M_one_122 x9.2 x1.1 (nI 1))
else
  (M_one_122 x9.2 x1.1 (nI 0))))))
set_option maxRecDepth 20000 in
theorem ok_M_one {X : am_X} {a1 : Int32} {v : Int32} {τ τ' : am_T} (hF : am_F X "ShareHouseModel" cX12_one 4) (hR : am_R X 5 112) (hB : am_B X (some .boolean) (some (.int v)) (am_D τ')) (h : M_one τ a1 = some (v, τ')) : am_W X 4 (0, [(0, .ref 140), (1, .int a1)], [], am_D τ) := by
  unfold M_one at h
  refine am_seg s_M_one_0 (y := (5, [(0, .ref 140), (1, .int a1)], [.int (nI 3), .long (lN 7237492), .ref 140], am_D τ)) hF t_s_M_one_0 rfl rfl ?_
  refine am_bd h (fun x1 hx h => ?_)
  refine am_callV (As := [.long (lN 7237492), .int (nI 3)]) (r := (some (.int x1.1))) (st := []) (σ' := am_D x1.2) (ci := 12) hF hR d_X12_one_5 (c_M_may (τ' := x1.2) hx) (Nat.le_refl _) (Nat.le_refl _) wl_M_83 wi_yX12_may we_yX12_may wn_ShareHouseModel wc_yX12_may (Nat.le_of_ble_eq_true rfl) (Nat.le_of_ble_eq_true rfl) rfl rfl wy_yX12_may rfl ⟨by decide, by decide⟩ (Nat.le_of_ble_eq_true rfl) ?_
  refine am_seg s_M_one_1 (y := (24, [(2, .int x1.1), (0, .ref 140), (1, .int a1)], [.int (nI 4), .long (lN 1936224112), .ref 140], am_D (am_si x1.2 140 11 ((x1.2.1 140 11) + (nI 1))))) hF t_s_M_one_1 rfl rfl ?_
  refine am_bd h (fun x2 hx h => ?_)
  refine am_callV (As := [.long (lN 1936224112), .int (nI 4)]) (r := (some (.int x2.1))) (st := []) (σ' := am_D x2.2) (ci := 12) hF hR d_X12_one_24 (c_M_may (τ' := x2.2) hx) (Nat.le_refl _) (Nat.le_refl _) wl_M_83 wi_yX12_may we_yX12_may wn_ShareHouseModel wc_yX12_may (Nat.le_of_ble_eq_true rfl) (Nat.le_of_ble_eq_true rfl) rfl rfl wy_yX12_may rfl ⟨by decide, by decide⟩ (Nat.le_of_ble_eq_true rfl) ?_
  refine am_ite h (fun hc h => ?_) (fun hc h => ?_)
  · refine am_if_eq_t (t := 49) d_X12_one_27 (by decide) hc hF ?_
    refine am_seg s_M_one_2 (y := (54, [(2, .int x1.1), (0, .ref 140), (1, .int a1)], [.int (nI 5), .long (lN 418263299685), .ref 140], am_D x2.2)) hF t_s_M_one_2 rfl rfl ?_
    refine am_bd h (fun x3 hx h => ?_)
    refine am_callV (As := [.long (lN 418263299685), .int (nI 5)]) (r := (some (.int x3.1))) (st := []) (σ' := am_D x3.2) (ci := 12) hF hR d_X12_one_54 (c_M_may (τ' := x3.2) hx) (Nat.le_refl _) (Nat.le_refl _) wl_M_83 wi_yX12_may we_yX12_may wn_ShareHouseModel wc_yX12_may (Nat.le_of_ble_eq_true rfl) (Nat.le_of_ble_eq_true rfl) rfl rfl wy_yX12_may rfl ⟨by decide, by decide⟩ (Nat.le_of_ble_eq_true rfl) ?_
    refine am_ite h (fun hc h => ?_) (fun hc h => ?_)
    · refine am_if_eq_t (t := 85) d_X12_one_57 (by decide) hc hF ?_
      refine am_seg s_M_one_3 (y := (90, [(2, .int x1.1), (0, .ref 140), (1, .int a1)], [.int (nI 5), .long (lN 422608400247), .ref 140], am_D x3.2)) hF t_s_M_one_3 rfl rfl ?_
      refine am_bd h (fun x4 hx h => ?_)
      refine am_callV (As := [.long (lN 422608400247), .int (nI 5)]) (r := none) (st := []) (σ' := am_D x4) (ci := 12) hF hR d_X12_one_90 (c_M_must (τ' := x4) hx) (Nat.le_refl _) (Nat.le_refl _) wl_M_135 wi_yX12_must we_yX12_must wn_ShareHouseModel wc_yX12_must (Nat.le_of_ble_eq_true rfl) (Nat.le_of_ble_eq_true rfl) rfl rfl wy_yX12_must rfl ⟨by decide, by decide⟩ (Nat.le_of_ble_eq_true rfl) ?_
      refine am_seg s_M_one_4 (y := (97, [(2, .int x1.1), (0, .ref 140), (1, .int a1)], [.int (x4.1 140 7)], am_D x4)) hF t_s_M_one_4 rfl rfl ?_
      refine am_ite h (fun hc h => ?_) (fun hc h => ?_)
      · refine am_if_ge_t (t := 120) d_X12_one_97 (by decide) hc hF ?_
        refine am_seg s_M_one_5 (y := (122, [(3, .int (nI 0)), (2, .int x1.1), (0, .ref 140), (1, .int a1)], [], am_D x4)) hF t_s_M_one_5 rfl rfl ?_
        refine am_pick [1, 0] rfl ?_
        exact ok_M_one_122 hF hR hB h
      · refine am_if_ge_f (t := 120) d_X12_one_97 (by decide) hc hF ?_
        refine am_seg s_M_one_9 (y := (103, [(2, .int x1.1), (0, .ref 140), (1, .int a1)], [.int (nI 0), .int a1, .ref 140], am_D x4)) hF t_s_M_one_9 rfl rfl ?_
        refine am_bd h (fun x5 hx h => ?_)
        refine am_callV (As := [.int a1, .int (nI 0)]) (r := (some (.int x5.1))) (st := []) (σ' := am_D x5.2) (ci := 12) hF hR d_X12_one_103 (c_M_flatOf (τ' := x5.2) hx) (Nat.le_refl _) (Nat.le_refl _) wl_M_146 wi_yX12_flatOf we_yX12_flatOf wn_ShareHouseModel wc_yX12_flatOf (Nat.le_of_ble_eq_true rfl) (Nat.le_of_ble_eq_true rfl) rfl rfl wy_yX12_flatOf rfl ⟨by decide, by decide⟩ (Nat.le_of_ble_eq_true rfl) ?_
        refine am_seg s_M_one_10 (y := (110, [(2, .int x1.1), (0, .ref 140), (1, .int a1)], [.int (nI 9), .int (nI 0), .ref 140, .int x5.1], am_D x5.2)) hF t_s_M_one_10 rfl rfl ?_
        refine am_bd h (fun x6 hx h => ?_)
        refine am_callV (As := [.int (nI 0), .int (nI 9)]) (r := (some (.int x6.1))) (st := [.int x5.1]) (σ' := am_D x6.2) (ci := 12) hF hR d_X12_one_110 (c_M_number (τ' := x6.2) hx) (Nat.le_refl _) (Nat.le_refl _) wl_M_129 wi_yX12_number we_yX12_number wn_ShareHouseModel wc_yX12_number (Nat.le_of_ble_eq_true rfl) (Nat.le_of_ble_eq_true rfl) rfl rfl wy_yX12_number rfl ⟨by decide, by decide⟩ (Nat.le_of_ble_eq_true rfl) ?_
        refine am_ite h (fun hc h => ?_) (fun hc h => ?_)
        · refine am_icmp_ge_t (t := 120) d_X12_one_113 (by decide) hc hF ?_
          refine am_seg s_M_one_11 (y := (122, [(3, .int (nI 0)), (2, .int x1.1), (0, .ref 140), (1, .int a1)], [], am_D x6.2)) hF t_s_M_one_11 rfl rfl ?_
          refine am_pick [1, 0] rfl ?_
          exact ok_M_one_122 hF hR hB h
        · refine am_icmp_ge_f (t := 120) d_X12_one_113 (by decide) hc hF ?_
          refine am_seg s_M_one_12 (y := (122, [(3, .int (nI 1)), (2, .int x1.1), (0, .ref 140), (1, .int a1)], [], am_D x6.2)) hF t_s_M_one_12 rfl rfl ?_
          refine am_pick [1, 0] rfl ?_
          exact ok_M_one_122 hF hR hB h
    · refine am_if_eq_f (t := 85) d_X12_one_57 (by decide) hc hF ?_
      refine am_seg s_M_one_13 (y := (63, [(2, .int x1.1), (0, .ref 140), (1, .int a1)], [.int (nI 0), .int a1, .ref 140], am_D x3.2)) hF t_s_M_one_13 rfl rfl ?_
      refine am_bd h (fun x7 hx h => ?_)
      refine am_callV (As := [.int a1, .int (nI 0)]) (r := (some (.int x7.1))) (st := []) (σ' := am_D x7.2) (ci := 12) hF hR d_X12_one_63 (c_M_flatOf (τ' := x7.2) hx) (Nat.le_refl _) (Nat.le_refl _) wl_M_146 wi_yX12_flatOf we_yX12_flatOf wn_ShareHouseModel wc_yX12_flatOf (Nat.le_of_ble_eq_true rfl) (Nat.le_of_ble_eq_true rfl) rfl rfl wy_yX12_flatOf rfl ⟨by decide, by decide⟩ (Nat.le_of_ble_eq_true rfl) ?_
      refine am_seg s_M_one_14 (y := (70, [(2, .int x1.1), (0, .ref 140), (1, .int a1)], [.int (nI 9), .int (nI 0), .ref 140, .int x7.1], am_D x7.2)) hF t_s_M_one_14 rfl rfl ?_
      refine am_bd h (fun x8 hx h => ?_)
      refine am_callV (As := [.int (nI 0), .int (nI 9)]) (r := (some (.int x8.1))) (st := [.int x7.1]) (σ' := am_D x8.2) (ci := 12) hF hR d_X12_one_70 (c_M_number (τ' := x8.2) hx) (Nat.le_refl _) (Nat.le_refl _) wl_M_129 wi_yX12_number we_yX12_number wn_ShareHouseModel wc_yX12_number (Nat.le_of_ble_eq_true rfl) (Nat.le_of_ble_eq_true rfl) rfl rfl wy_yX12_number rfl ⟨by decide, by decide⟩ (Nat.le_of_ble_eq_true rfl) ?_
      refine am_ite h (fun hc h => ?_) (fun hc h => ?_)
      · refine am_icmp_le_t (t := 80) d_X12_one_73 (by decide) hc hF ?_
        refine am_seg s_M_one_15 (y := (122, [(3, .int (nI 0)), (2, .int x1.1), (0, .ref 140), (1, .int a1)], [], am_D x8.2)) hF t_s_M_one_15 rfl rfl ?_
        refine am_pick [1, 0] rfl ?_
        exact ok_M_one_122 hF hR hB h
      · refine am_icmp_le_f (t := 80) d_X12_one_73 (by decide) hc hF ?_
        refine am_seg s_M_one_16 (y := (122, [(3, .int (nI 1)), (2, .int x1.1), (0, .ref 140), (1, .int a1)], [], am_D x8.2)) hF t_s_M_one_16 rfl rfl ?_
        refine am_pick [1, 0] rfl ?_
        exact ok_M_one_122 hF hR hB h
  · refine am_if_eq_f (t := 49) d_X12_one_27 (by decide) hc hF ?_
    refine am_seg s_M_one_17 (y := (33, [(2, .int x1.1), (0, .ref 140), (1, .int a1)], [.int (nI 2), .int a1, .ref 140], am_D x2.2)) hF t_s_M_one_17 rfl rfl ?_
    refine am_bd h (fun x9 hx h => ?_)
    refine am_callV (As := [.int a1, .int (nI 2)]) (r := (some (.int x9.1))) (st := []) (σ' := am_D x9.2) (ci := 12) hF hR d_X12_one_33 (c_M_flatOf (τ' := x9.2) hx) (Nat.le_refl _) (Nat.le_refl _) wl_M_146 wi_yX12_flatOf we_yX12_flatOf wn_ShareHouseModel wc_yX12_flatOf (Nat.le_of_ble_eq_true rfl) (Nat.le_of_ble_eq_true rfl) rfl rfl wy_yX12_flatOf rfl ⟨by decide, by decide⟩ (Nat.le_of_ble_eq_true rfl) ?_
    refine am_seg s_M_one_18 (y := (37, [(2, .int x1.1), (0, .ref 140), (1, .int a1)], [.int (nI 1), .int x9.1], am_D x9.2)) hF t_s_M_one_18 rfl rfl ?_
    refine am_ite h (fun hc h => ?_) (fun hc h => ?_)
    · refine am_icmp_ne_f (t := 44) d_X12_one_37 (by decide) hc hF ?_
      refine am_seg s_M_one_20 (y := (122, [(3, .int (nI 1)), (2, .int x1.1), (0, .ref 140), (1, .int a1)], [], am_D x9.2)) hF t_s_M_one_20 rfl rfl ?_
      refine am_pick [1, 0] rfl ?_
      exact ok_M_one_122 hF hR hB h
    · refine am_icmp_ne_t (t := 44) d_X12_one_37 (by decide) hc hF ?_
      refine am_seg s_M_one_19 (y := (122, [(3, .int (nI 0)), (2, .int x1.1), (0, .ref 140), (1, .int a1)], [], am_D x9.2)) hF t_s_M_one_19 rfl rfl ?_
      refine am_pick [1, 0] rfl ?_
      exact ok_M_one_122 hF hR hB h
theorem c_M_one {a1 : Int32} {v : Int32} {τ τ' : am_T} (h : M_one τ a1 = some (v, τ')) : am_C yX12_one cX12_one 4 (some .boolean) 5 112 [.ref 140, .int a1] (am_D τ) (some (.int v)) (am_D τ') :=
  am_enter (by decide +kernel) (Nat.le_of_ble_eq_true rfl) ⟨Nat.le_refl _, Nat.le_refl _⟩ (fun X hF hR hB => ok_M_one hF hR hB h)
def s_M_cond_0 : List am_Q := [(0, .aload_n 0, 0, 0, 0, .null), (1, .iconst 0, 0, 0, 0, .int (nI 0)), (2, .putfield 141, 12, 11, 163, .null), (5, .aload_n 0, 0, 0, 0, .null), (6, .iconst 1, 0, 0, 0, .int (nI 1))]
theorem t_s_M_cond_0 : s_M_cond_0.all (am_ok 12 cX12_cond) = true := by decide +kernel
theorem d_X12_cond_7 : decode cX12_cond 7 = .ok (.putfield 153, 3) := by decide +kernel
def s_M_cond_1 : List am_Q := [(10, .aload_n 0, 0, 0, 0, .null), (11, .ldc2_w 157, 0, 0, 23, .long (lN 26982)), (14, .iconst 2, 0, 0, 0, .int (nI 2))]
theorem t_s_M_cond_1 : s_M_cond_1.all (am_ok 12 cX12_cond) = true := by decide +kernel
theorem d_X12_cond_15 : decode cX12_cond 15 = .ok (.invokevirtual 83, 3) := by decide +kernel
theorem d_X12_cond_18 : decode cX12_cond 18 = .ok (.ifCond .ne 4, 3) := by decide +kernel
def s_M_cond_2 : List am_Q := [(22, .aload_n 0, 0, 0, 0, .null), (23, .aload_n 0, 0, 0, 0, .null), (24, .iload_n 1, 0, 0, 0, .null)]
theorem t_s_M_cond_2 : s_M_cond_2.all (am_ok 12 cX12_cond) = true := by decide +kernel
theorem d_X12_cond_25 : decode cX12_cond 25 = .ok (.invokevirtual 159, 3) := by decide +kernel
theorem d_X12_cond_28 : decode cX12_cond 28 = .ok (.putfield 153, 3) := by decide +kernel
def s_M_cond_3 : List am_Q := [(31, .aload_n 0, 0, 0, 0, .null), (32, .getfield 73, 12, 7, 159, .null)]
theorem t_s_M_cond_3 : s_M_cond_3.all (am_ok 12 cX12_cond) = true := by decide +kernel
theorem d_X12_cond_35 : decode cX12_cond 35 = .ok (.ifCond .ge 43, 3) := by decide +kernel
theorem d_X12_cond_78 : decode cX12_cond 78 = .ok (.return_, 1) := by decide +kernel
def s_M_cond_4 : List am_Q := [(38, .aload_n 0, 0, 0, 0, .null), (39, .ldc2_w 110, 0, 0, 16, .long (lN 6385252)), (42, .iconst 3, 0, 0, 0, .int (nI 3))]
theorem t_s_M_cond_4 : s_M_cond_4.all (am_ok 12 cX12_cond) = true := by decide +kernel
theorem d_X12_cond_43 : decode cX12_cond 43 = .ok (.invokevirtual 83, 3) := by decide +kernel
theorem d_X12_cond_46 : decode cX12_cond 46 = .ok (.ifCond .eq 32, 3) := by decide +kernel
def s_M_cond_5 : List am_Q := [(49, .aload_n 0, 0, 0, 0, .null), (50, .iload_n 1, 0, 0, 0, .null)]
theorem t_s_M_cond_5 : s_M_cond_5.all (am_ok 12 cX12_cond) = true := by decide +kernel
theorem d_X12_cond_51 : decode cX12_cond 51 = .ok (.invokevirtual 159, 3) := by decide +kernel
def s_M_cond_6 : List am_Q := [(54, .istore_n 2, 0, 0, 0, .null), (55, .aload_n 0, 0, 0, 0, .null), (56, .aload_n 0, 0, 0, 0, .null), (57, .getfield 153, 12, 12, 164, .null)]
theorem t_s_M_cond_6 : s_M_cond_6.all (am_ok 12 cX12_cond) = true := by decide +kernel
theorem d_X12_cond_60 : decode cX12_cond 60 = .ok (.ifCond .eq 11, 3) := by decide +kernel
def s_M_cond_7 : List am_Q := [(71, .iconst 0, 0, 0, 0, .int (nI 0))]
theorem t_s_M_cond_7 : s_M_cond_7.all (am_ok 12 cX12_cond) = true := by decide +kernel
theorem d_X12_cond_72 : decode cX12_cond 72 = .ok (.putfield 153, 3) := by decide +kernel
def s_M_cond_8 : List am_Q := [(75, .goto (-44), 31, 0, 0, .null)]
theorem t_s_M_cond_8 : s_M_cond_8.all (am_ok 12 cX12_cond) = true := by decide +kernel
def s_M_cond_9 : List am_Q := [(63, .iload_n 2, 0, 0, 0, .null)]
theorem t_s_M_cond_9 : s_M_cond_9.all (am_ok 12 cX12_cond) = true := by decide +kernel
theorem d_X12_cond_64 : decode cX12_cond 64 = .ok (.ifCond .eq 7, 3) := by decide +kernel
def s_M_cond_10 : List am_Q := [(71, .iconst 0, 0, 0, 0, .int (nI 0))]
theorem t_s_M_cond_10 : s_M_cond_10.all (am_ok 12 cX12_cond) = true := by decide +kernel
def s_M_cond_11 : List am_Q := [(75, .goto (-44), 31, 0, 0, .null)]
theorem t_s_M_cond_11 : s_M_cond_11.all (am_ok 12 cX12_cond) = true := by decide +kernel
def s_M_cond_12 : List am_Q := [(67, .iconst 1, 0, 0, 0, .int (nI 1)), (68, .goto 4, 72, 0, 0, .null)]
theorem t_s_M_cond_12 : s_M_cond_12.all (am_ok 12 cX12_cond) = true := by decide +kernel
def s_M_cond_13 : List am_Q := [(75, .goto (-44), 31, 0, 0, .null)]
theorem t_s_M_cond_13 : s_M_cond_13.all (am_ok 12 cX12_cond) = true := by decide +kernel
theorem d_X12_cond_21 : decode cX12_cond 21 = .ok (.return_, 1) := by decide +kernel
def M_cond_31 : Nat → am_T → Int32 → Option (am_T)
  | 0, _, _ => none
  | n + 1, τ, a1 =>
    if 0 ≤ (τ.1 140 7) then
  (some τ)
else
  ((M_may τ (lN 6385252) (nI 3)).bind (fun x3 =>
  if x3.1 = 0 then
  (some x3.2)
else
  ((M_one x3.2 a1).bind (fun x4 =>
  if (x4.2.1 140 12) = 0 then
  ((M_cond_31 n) (am_si x4.2 140 12 (nI 0)) a1)
else
  (if x4.1 = 0 then
  ((M_cond_31 n) (am_si x4.2 140 12 (nI 0)) a1)
else
  ((M_cond_31 n) (am_si x4.2 140 12 (nI 1)) a1))))))
set_option maxRecDepth 20000 in
theorem ok_M_cond_31 {X : am_X} {τ' : am_T} (hF : am_F X "ShareHouseModel" cX12_cond 3) (hR : am_R X 6 135) (hB : am_B X none none (am_D τ')) : ∀ (n : Nat) (τ : am_T) (a1 : Int32), M_cond_31 n τ a1 = some τ' → am_W X 3 (31, [(0, .ref 140), (1, .int a1)], [], am_D τ) := by
  intro n
  induction n with
  | zero => intro τ a1 h; unfold M_cond_31 at h; cases h
  | succ n ih =>
    intro τ a1 h
    unfold M_cond_31 at h
    refine am_seg s_M_cond_3 (y := (35, [(0, .ref 140), (1, .int a1)], [.int (τ.1 140 7)], am_D τ)) hF t_s_M_cond_3 rfl rfl ?_
    refine am_ite h (fun hc h => ?_) (fun hc h => ?_)
    · refine am_if_ge_t (t := 78) d_X12_cond_35 (by decide) hc hF ?_
      obtain rfl := am_one h
      exact am_vret d_X12_cond_78 hF hB
    · refine am_if_ge_f (t := 78) d_X12_cond_35 (by decide) hc hF ?_
      refine am_seg s_M_cond_4 (y := (43, [(0, .ref 140), (1, .int a1)], [.int (nI 3), .long (lN 6385252), .ref 140], am_D τ)) hF t_s_M_cond_4 rfl rfl ?_
      refine am_bd h (fun x3 hx h => ?_)
      refine am_callV (As := [.long (lN 6385252), .int (nI 3)]) (r := (some (.int x3.1))) (st := []) (σ' := am_D x3.2) (ci := 12) hF hR d_X12_cond_43 (c_M_may (τ' := x3.2) hx) (Nat.le_refl _) (Nat.le_refl _) wl_M_83 wi_yX12_may we_yX12_may wn_ShareHouseModel wc_yX12_may (Nat.le_of_ble_eq_true rfl) (Nat.le_of_ble_eq_true rfl) rfl rfl wy_yX12_may rfl ⟨by decide, by decide⟩ (Nat.le_of_ble_eq_true rfl) ?_
      refine am_ite h (fun hc h => ?_) (fun hc h => ?_)
      · refine am_if_eq_t (t := 78) d_X12_cond_46 (by decide) hc hF ?_
        obtain rfl := am_one h
        exact am_vret d_X12_cond_78 hF hB
      · refine am_if_eq_f (t := 78) d_X12_cond_46 (by decide) hc hF ?_
        refine am_seg s_M_cond_5 (y := (51, [(0, .ref 140), (1, .int a1)], [.int a1, .ref 140], am_D x3.2)) hF t_s_M_cond_5 rfl rfl ?_
        refine am_bd h (fun x4 hx h => ?_)
        refine am_callV (As := [.int a1]) (r := (some (.int x4.1))) (st := []) (σ' := am_D x4.2) (ci := 12) hF hR d_X12_cond_51 (c_M_one (τ' := x4.2) hx) (Nat.le_refl _) (Nat.le_refl _) wl_M_159 wi_yX12_one we_yX12_one wn_ShareHouseModel wc_yX12_one (Nat.le_of_ble_eq_true rfl) (Nat.le_of_ble_eq_true rfl) rfl rfl wy_yX12_one rfl ⟨by decide, by decide⟩ (Nat.le_of_ble_eq_true rfl) ?_
        refine am_seg s_M_cond_6 (y := (60, [(2, .int x4.1), (0, .ref 140), (1, .int a1)], [.int (x4.2.1 140 12), .ref 140], am_D x4.2)) hF t_s_M_cond_6 rfl rfl ?_
        refine am_ite h (fun hc h => ?_) (fun hc h => ?_)
        · refine am_if_eq_t (t := 71) d_X12_cond_60 (by decide) hc hF ?_
          refine am_seg s_M_cond_7 (y := (72, [(2, .int x4.1), (0, .ref 140), (1, .int a1)], [.int (nI 0), .ref 140], am_D x4.2)) hF t_s_M_cond_7 rfl rfl ?_
          refine am_putZ (ci := 12) (b := 12) d_X12_cond_72 (Nat.le_of_ble_eq_true rfl) (Nat.le_of_ble_eq_true rfl) rfl rfl (Nat.le_of_ble_eq_true rfl) am_fl164 rfl rfl (by decide) hF ?_
          refine am_seg s_M_cond_8 (y := (31, [(2, .int x4.1), (0, .ref 140), (1, .int a1)], [], am_D (am_si x4.2 140 12 (nI 0)))) hF t_s_M_cond_8 rfl rfl ?_
          refine am_pick [1, 2] rfl ?_
          exact ih _ _ h
        · refine am_if_eq_f (t := 71) d_X12_cond_60 (by decide) hc hF ?_
          refine am_seg s_M_cond_9 (y := (64, [(2, .int x4.1), (0, .ref 140), (1, .int a1)], [.int x4.1, .ref 140], am_D x4.2)) hF t_s_M_cond_9 rfl rfl ?_
          refine am_ite h (fun hc h => ?_) (fun hc h => ?_)
          · refine am_if_eq_t (t := 71) d_X12_cond_64 (by decide) hc hF ?_
            refine am_seg s_M_cond_10 (y := (72, [(2, .int x4.1), (0, .ref 140), (1, .int a1)], [.int (nI 0), .ref 140], am_D x4.2)) hF t_s_M_cond_10 rfl rfl ?_
            refine am_putZ (ci := 12) (b := 12) d_X12_cond_72 (Nat.le_of_ble_eq_true rfl) (Nat.le_of_ble_eq_true rfl) rfl rfl (Nat.le_of_ble_eq_true rfl) am_fl164 rfl rfl (by decide) hF ?_
            refine am_seg s_M_cond_11 (y := (31, [(2, .int x4.1), (0, .ref 140), (1, .int a1)], [], am_D (am_si x4.2 140 12 (nI 0)))) hF t_s_M_cond_11 rfl rfl ?_
            refine am_pick [1, 2] rfl ?_
            exact ih _ _ h
          · refine am_if_eq_f (t := 71) d_X12_cond_64 (by decide) hc hF ?_
            refine am_seg s_M_cond_12 (y := (72, [(2, .int x4.1), (0, .ref 140), (1, .int a1)], [.int (nI 1), .ref 140], am_D x4.2)) hF t_s_M_cond_12 rfl rfl ?_
            refine am_putZ (ci := 12) (b := 12) d_X12_cond_72 (Nat.le_of_ble_eq_true rfl) (Nat.le_of_ble_eq_true rfl) rfl rfl (Nat.le_of_ble_eq_true rfl) am_fl164 rfl rfl (by decide) hF ?_
            refine am_seg s_M_cond_13 (y := (31, [(2, .int x4.1), (0, .ref 140), (1, .int a1)], [], am_D (am_si x4.2 140 12 (nI 1)))) hF t_s_M_cond_13 rfl rfl ?_
            refine am_pick [1, 2] rfl ?_
            exact ih _ _ h
def M_cond (τ : am_T) (a1 : Int32) : Option (am_T) :=
  (M_may (am_si (am_si τ 140 11 (nI 0)) 140 12 (nI 1)) (lN 26982) (nI 2)).bind (fun x1 =>
  if x1.1 = 0 then
  (some x1.2)
else
  ((M_one x1.2 a1).bind (fun x2 =>
  am_g (am_z01 x2.1) (M_cond_31 5000 (am_si x2.2 140 12 x2.1) a1))))
set_option maxRecDepth 20000 in
theorem ok_M_cond {X : am_X} {a1 : Int32} {τ τ' : am_T} (hF : am_F X "ShareHouseModel" cX12_cond 3) (hR : am_R X 6 135) (hB : am_B X none none (am_D τ')) (h : M_cond τ a1 = some τ') : am_W X 3 (0, [(0, .ref 140), (1, .int a1)], [], am_D τ) := by
  unfold M_cond at h
  refine am_seg s_M_cond_0 (y := (7, [(0, .ref 140), (1, .int a1)], [.int (nI 1), .ref 140], am_D (am_si τ 140 11 (nI 0)))) hF t_s_M_cond_0 rfl rfl ?_
  refine am_putZ (ci := 12) (b := 12) d_X12_cond_7 (Nat.le_of_ble_eq_true rfl) (Nat.le_of_ble_eq_true rfl) rfl rfl (Nat.le_of_ble_eq_true rfl) am_fl164 rfl rfl (by decide) hF ?_
  refine am_seg s_M_cond_1 (y := (15, [(0, .ref 140), (1, .int a1)], [.int (nI 2), .long (lN 26982), .ref 140], am_D (am_si (am_si τ 140 11 (nI 0)) 140 12 (nI 1)))) hF t_s_M_cond_1 rfl rfl ?_
  refine am_bd h (fun x1 hx h => ?_)
  refine am_callV (As := [.long (lN 26982), .int (nI 2)]) (r := (some (.int x1.1))) (st := []) (σ' := am_D x1.2) (ci := 12) hF hR d_X12_cond_15 (c_M_may (τ' := x1.2) hx) (Nat.le_refl _) (Nat.le_refl _) wl_M_83 wi_yX12_may we_yX12_may wn_ShareHouseModel wc_yX12_may (Nat.le_of_ble_eq_true rfl) (Nat.le_of_ble_eq_true rfl) rfl rfl wy_yX12_may rfl ⟨by decide, by decide⟩ (Nat.le_of_ble_eq_true rfl) ?_
  refine am_ite h (fun hc h => ?_) (fun hc h => ?_)
  · refine am_if_ne_f (t := 22) d_X12_cond_18 (by decide) hc hF ?_
    obtain rfl := am_one h
    exact am_vret d_X12_cond_21 hF hB
  · refine am_if_ne_t (t := 22) d_X12_cond_18 (by decide) hc hF ?_
    refine am_seg s_M_cond_2 (y := (25, [(0, .ref 140), (1, .int a1)], [.int a1, .ref 140, .ref 140], am_D x1.2)) hF t_s_M_cond_2 rfl rfl ?_
    refine am_bd h (fun x2 hx h => ?_)
    refine am_callV (As := [.int a1]) (r := (some (.int x2.1))) (st := [.ref 140]) (σ' := am_D x2.2) (ci := 12) hF hR d_X12_cond_25 (c_M_one (τ' := x2.2) hx) (Nat.le_refl _) (Nat.le_refl _) wl_M_159 wi_yX12_one we_yX12_one wn_ShareHouseModel wc_yX12_one (Nat.le_of_ble_eq_true rfl) (Nat.le_of_ble_eq_true rfl) rfl rfl wy_yX12_one rfl ⟨by decide, by decide⟩ (Nat.le_of_ble_eq_true rfl) ?_
    refine am_gd h (fun hz h => ?_)
    refine am_putZ (ci := 12) (b := 12) d_X12_cond_28 (Nat.le_of_ble_eq_true rfl) (Nat.le_of_ble_eq_true rfl) rfl rfl (Nat.le_of_ble_eq_true rfl) am_fl164 rfl rfl (am_z01_of hz) hF ?_
    exact ok_M_cond_31 hF hR hB _ _ _ h
theorem c_M_cond {a1 : Int32} {τ τ' : am_T} (h : M_cond τ a1 = some τ') : am_C yX12_cond cX12_cond 3 none 6 135 [.ref 140, .int a1] (am_D τ) none (am_D τ') :=
  am_enter (by decide +kernel) (Nat.le_of_ble_eq_true rfl) ⟨Nat.le_refl _, Nat.le_refl _⟩ (fun X hF hR hB => ok_M_cond hF hR hB h)
def s_M_tellShare_0 : List am_Q := [(0, .aload_n 0, 0, 0, 0, .null), (1, .bipush (-3), 0, 0, 0, .int (-3 : Int32)), (3, .putfield 112, 12, 9, 161, .null), (6, .aload_n 0, 0, 0, 0, .null), (7, .bipush (-3), 0, 0, 0, .int (-3 : Int32)), (9, .putfield 115, 12, 10, 162, .null), (12, .aload_n 0, 0, 0, 0, .null), (13, .aload_n 0, 0, 0, 0, .null), (14, .ldc2_w 118, 0, 0, 18, .long (lN 31084793196801639)), (17, .bipush 7, 0, 0, 0, .int (nI 7))]
theorem t_s_M_tellShare_0 : s_M_tellShare_0.all (am_ok 12 cX12_tellShare) = true := by decide +kernel
theorem d_X12_tellShare_19 : decode cX12_tellShare 19 = .ok (.invokevirtual 83, 3) := by decide +kernel
theorem d_X12_tellShare_22 : decode cX12_tellShare 22 = .ok (.ifCond .eq 7, 3) := by decide +kernel
def s_M_tellShare_1 : List am_Q := [(29, .aload_n 0, 0, 0, 0, .null), (30, .ldc2_w 120, 0, 0, 19, .long (lN 435695214956)), (33, .iconst 5, 0, 0, 0, .int (nI 5))]
theorem t_s_M_tellShare_1 : s_M_tellShare_1.all (am_ok 12 cX12_tellShare) = true := by decide +kernel
theorem d_X12_tellShare_34 : decode cX12_tellShare 34 = .ok (.invokevirtual 83, 3) := by decide +kernel
theorem d_X12_tellShare_37 : decode cX12_tellShare 37 = .ok (.ifCond .eq 7, 3) := by decide +kernel
def s_M_tellShare_2 : List am_Q := [(44, .aload_n 0, 0, 0, 0, .null), (45, .ldc2_w 122, 0, 0, 20, .long (lN 1634887009)), (48, .iconst 4, 0, 0, 0, .int (nI 4))]
theorem t_s_M_tellShare_2 : s_M_tellShare_2.all (am_ok 12 cX12_tellShare) = true := by decide +kernel
theorem d_X12_tellShare_49 : decode cX12_tellShare 49 = .ok (.invokevirtual 83, 3) := by decide +kernel
theorem d_X12_tellShare_52 : decode cX12_tellShare 52 = .ok (.ifCond .eq 7, 3) := by decide +kernel
def s_M_tellShare_3 : List am_Q := [(59, .aload_n 0, 0, 0, 0, .null), (60, .ldc2_w 124, 0, 0, 21, .long (lN 439905906546)), (63, .iconst 5, 0, 0, 0, .int (nI 5))]
theorem t_s_M_tellShare_3 : s_M_tellShare_3.all (am_ok 12 cX12_tellShare) = true := by decide +kernel
theorem d_X12_tellShare_64 : decode cX12_tellShare 64 = .ok (.invokevirtual 83, 3) := by decide +kernel
theorem d_X12_tellShare_67 : decode cX12_tellShare 67 = .ok (.ifCond .eq 7, 3) := by decide +kernel
def s_M_tellShare_4 : List am_Q := [(74, .iconst 4, 0, 0, 0, .int (nI 4))]
theorem t_s_M_tellShare_4 : s_M_tellShare_4.all (am_ok 12 cX12_tellShare) = true := by decide +kernel
def s_M_tellShare_5 : List am_Q := [(75, .putfield 126, 12, 8, 160, .null), (78, .aload_n 0, 0, 0, 0, .null), (79, .getfield 126, 12, 8, 160, .null), (82, .iconst 4, 0, 0, 0, .int (nI 4))]
theorem t_s_M_tellShare_5 : s_M_tellShare_5.all (am_ok 12 cX12_tellShare) = true := by decide +kernel
theorem d_X12_tellShare_83 : decode cX12_tellShare 83 = .ok (.if_icmp .ne 62, 3) := by decide +kernel
theorem d_X12_tellShare_145 : decode cX12_tellShare 145 = .ok (.return_, 1) := by decide +kernel
def s_M_tellShare_6 : List am_Q := [(86, .aload_n 0, 0, 0, 0, .null), (87, .aload_n 0, 0, 0, 0, .null), (88, .iconst 0, 0, 0, 0, .int (nI 0)), (89, .bipush 24, 0, 0, 0, .int (nI 24))]
theorem t_s_M_tellShare_6 : s_M_tellShare_6.all (am_ok 12 cX12_tellShare) = true := by decide +kernel
theorem d_X12_tellShare_91 : decode cX12_tellShare 91 = .ok (.invokevirtual 129, 3) := by decide +kernel
def s_M_tellShare_7 : List am_Q := [(94, .putfield 112, 12, 9, 161, .null), (97, .aload_n 0, 0, 0, 0, .null), (98, .getfield 73, 12, 7, 159, .null)]
theorem t_s_M_tellShare_7 : s_M_tellShare_7.all (am_ok 12 cX12_tellShare) = true := by decide +kernel
theorem d_X12_tellShare_101 : decode cX12_tellShare 101 = .ok (.ifCond .ge 11, 3) := by decide +kernel
def s_M_tellShare_8 : List am_Q := [(112, .aload_n 0, 0, 0, 0, .null), (113, .getfield 73, 12, 7, 159, .null)]
theorem t_s_M_tellShare_8 : s_M_tellShare_8.all (am_ok 12 cX12_tellShare) = true := by decide +kernel
theorem d_X12_tellShare_116 : decode cX12_tellShare 116 = .ok (.ifCond .ge 29, 3) := by decide +kernel
def s_M_tellShare_9 : List am_Q := [(119, .aload_n 0, 0, 0, 0, .null), (120, .aload_n 0, 0, 0, 0, .null), (121, .aload_n 0, 0, 0, 0, .null), (122, .getfield 112, 12, 9, 161, .null), (125, .iconst 1, 0, 0, 0, .int (nI 1))]
theorem t_s_M_tellShare_9 : s_M_tellShare_9.all (am_ok 12 cX12_tellShare) = true := by decide +kernel
theorem d_X12_tellShare_126 : decode cX12_tellShare 126 = .ok (.if_icmp .le 10, 3) := by decide +kernel
def s_M_tellShare_10 : List am_Q := [(136, .iconst 1, 0, 0, 0, .int (nI 1)), (137, .bipush 24, 0, 0, 0, .int (nI 24))]
theorem t_s_M_tellShare_10 : s_M_tellShare_10.all (am_ok 12 cX12_tellShare) = true := by decide +kernel
theorem d_X12_tellShare_139 : decode cX12_tellShare 139 = .ok (.invokevirtual 129, 3) := by decide +kernel
def s_M_tellShare_11 : List am_Q := [(142, .putfield 115, 12, 10, 162, .null)]
theorem t_s_M_tellShare_11 : s_M_tellShare_11.all (am_ok 12 cX12_tellShare) = true := by decide +kernel
def s_M_tellShare_12 : List am_Q := [(129, .aload_n 0, 0, 0, 0, .null), (130, .getfield 112, 12, 9, 161, .null), (133, .goto 4, 137, 0, 0, .null), (137, .bipush 24, 0, 0, 0, .int (nI 24))]
theorem t_s_M_tellShare_12 : s_M_tellShare_12.all (am_ok 12 cX12_tellShare) = true := by decide +kernel
def s_M_tellShare_13 : List am_Q := [(142, .putfield 115, 12, 10, 162, .null)]
theorem t_s_M_tellShare_13 : s_M_tellShare_13.all (am_ok 12 cX12_tellShare) = true := by decide +kernel
def s_M_tellShare_14 : List am_Q := [(104, .aload_n 0, 0, 0, 0, .null), (105, .ldc2_w 133, 0, 0, 22, .long (lN 28518)), (108, .iconst 2, 0, 0, 0, .int (nI 2))]
theorem t_s_M_tellShare_14 : s_M_tellShare_14.all (am_ok 12 cX12_tellShare) = true := by decide +kernel
theorem d_X12_tellShare_109 : decode cX12_tellShare 109 = .ok (.invokevirtual 135, 3) := by decide +kernel
def s_M_tellShare_15 : List am_Q := [(70, .iconst 3, 0, 0, 0, .int (nI 3)), (71, .goto 4, 75, 0, 0, .null)]
theorem t_s_M_tellShare_15 : s_M_tellShare_15.all (am_ok 12 cX12_tellShare) = true := by decide +kernel
def s_M_tellShare_16 : List am_Q := [(55, .iconst 2, 0, 0, 0, .int (nI 2)), (56, .goto 19, 75, 0, 0, .null)]
theorem t_s_M_tellShare_16 : s_M_tellShare_16.all (am_ok 12 cX12_tellShare) = true := by decide +kernel
def s_M_tellShare_17 : List am_Q := [(40, .iconst 1, 0, 0, 0, .int (nI 1)), (41, .goto 34, 75, 0, 0, .null)]
theorem t_s_M_tellShare_17 : s_M_tellShare_17.all (am_ok 12 cX12_tellShare) = true := by decide +kernel
def s_M_tellShare_18 : List am_Q := [(25, .iconst 0, 0, 0, 0, .int (nI 0)), (26, .goto 49, 75, 0, 0, .null)]
theorem t_s_M_tellShare_18 : s_M_tellShare_18.all (am_ok 12 cX12_tellShare) = true := by decide +kernel
def M_tellShare_112 (τ : am_T) : Option (am_T) :=
  if 0 ≤ (τ.1 140 7) then
  (some τ)
else
  (if (τ.1 140 9) ≤ (nI 1) then
  ((M_number τ (nI 1) (nI 24)).bind (fun x6 =>
  some (am_si x6.2 140 10 x6.1)))
else
  ((M_number τ (τ.1 140 9) (nI 24)).bind (fun x7 =>
  some (am_si x7.2 140 10 x7.1))))
set_option maxRecDepth 20000 in
theorem ok_M_tellShare_112 {X : am_X} {τ' : am_T} (hF : am_F X "ShareHouseModel" cX12_tellShare 1) (hR : am_R X 5 112) (hB : am_B X none none (am_D τ')) {τ : am_T} (h : M_tellShare_112 τ = some τ') : am_W X 1 (112, [(0, .ref 140)], [], am_D τ) := by
  unfold M_tellShare_112 at h
  refine am_seg s_M_tellShare_8 (y := (116, [(0, .ref 140)], [.int (τ.1 140 7)], am_D τ)) hF t_s_M_tellShare_8 rfl rfl ?_
  refine am_ite h (fun hc h => ?_) (fun hc h => ?_)
  · refine am_if_ge_t (t := 145) d_X12_tellShare_116 (by decide) hc hF ?_
    obtain rfl := am_one h
    exact am_vret d_X12_tellShare_145 hF hB
  · refine am_if_ge_f (t := 145) d_X12_tellShare_116 (by decide) hc hF ?_
    refine am_seg s_M_tellShare_9 (y := (126, [(0, .ref 140)], [.int (nI 1), .int (τ.1 140 9), .ref 140, .ref 140], am_D τ)) hF t_s_M_tellShare_9 rfl rfl ?_
    refine am_ite h (fun hc h => ?_) (fun hc h => ?_)
    · refine am_icmp_le_t (t := 136) d_X12_tellShare_126 (by decide) hc hF ?_
      refine am_seg s_M_tellShare_10 (y := (139, [(0, .ref 140)], [.int (nI 24), .int (nI 1), .ref 140, .ref 140], am_D τ)) hF t_s_M_tellShare_10 rfl rfl ?_
      refine am_bd h (fun x6 hx h => ?_)
      refine am_callV (As := [.int (nI 1), .int (nI 24)]) (r := (some (.int x6.1))) (st := [.ref 140]) (σ' := am_D x6.2) (ci := 12) hF hR d_X12_tellShare_139 (c_M_number (τ' := x6.2) hx) (Nat.le_refl _) (Nat.le_refl _) wl_M_129 wi_yX12_number we_yX12_number wn_ShareHouseModel wc_yX12_number (Nat.le_of_ble_eq_true rfl) (Nat.le_of_ble_eq_true rfl) rfl rfl wy_yX12_number rfl ⟨by decide, by decide⟩ (Nat.le_of_ble_eq_true rfl) ?_
      refine am_seg s_M_tellShare_11 (y := (145, [(0, .ref 140)], [], am_D (am_si x6.2 140 10 x6.1))) hF t_s_M_tellShare_11 rfl rfl ?_
      obtain rfl := am_one h
      exact am_vret d_X12_tellShare_145 hF hB
    · refine am_icmp_le_f (t := 136) d_X12_tellShare_126 (by decide) hc hF ?_
      refine am_seg s_M_tellShare_12 (y := (139, [(0, .ref 140)], [.int (nI 24), .int (τ.1 140 9), .ref 140, .ref 140], am_D τ)) hF t_s_M_tellShare_12 rfl rfl ?_
      refine am_bd h (fun x7 hx h => ?_)
      refine am_callV (As := [.int (τ.1 140 9), .int (nI 24)]) (r := (some (.int x7.1))) (st := [.ref 140]) (σ' := am_D x7.2) (ci := 12) hF hR d_X12_tellShare_139 (c_M_number (τ' := x7.2) hx) (Nat.le_refl _) (Nat.le_refl _) wl_M_129 wi_yX12_number we_yX12_number wn_ShareHouseModel wc_yX12_number (Nat.le_of_ble_eq_true rfl) (Nat.le_of_ble_eq_true rfl) rfl rfl wy_yX12_number rfl ⟨by decide, by decide⟩ (Nat.le_of_ble_eq_true rfl) ?_
      refine am_seg s_M_tellShare_13 (y := (145, [(0, .ref 140)], [], am_D (am_si x7.2 140 10 x7.1))) hF t_s_M_tellShare_13 rfl rfl ?_
      obtain rfl := am_one h
      exact am_vret d_X12_tellShare_145 hF hB
def M_tellShare_75 (τ : am_T) (s0 : Int32) : Option (am_T) :=
  if ((am_si τ 140 8 s0).1 140 8) = (nI 4) then
  ((M_number (am_si τ 140 8 s0) (nI 0) (nI 24)).bind (fun x5 =>
  if 0 ≤ ((am_si x5.2 140 9 x5.1).1 140 7) then
  (M_tellShare_112 (am_si x5.2 140 9 x5.1))
else
  ((M_must (am_si x5.2 140 9 x5.1) (lN 28518) (nI 2)).bind (fun x8 =>
  M_tellShare_112 x8))))
else
  (some (am_si τ 140 8 s0))
set_option maxRecDepth 20000 in
theorem ok_M_tellShare_75 {X : am_X} {τ' : am_T} (hF : am_F X "ShareHouseModel" cX12_tellShare 1) (hR : am_R X 5 112) (hB : am_B X none none (am_D τ')) {τ : am_T} {s0 : Int32} (h : M_tellShare_75 τ s0 = some τ') : am_W X 1 (75, [(0, .ref 140)], [.int s0, .ref 140], am_D τ) := by
  unfold M_tellShare_75 at h
  refine am_seg s_M_tellShare_5 (y := (83, [(0, .ref 140)], [.int (nI 4), .int ((am_si τ 140 8 s0).1 140 8)], am_D (am_si τ 140 8 s0))) hF t_s_M_tellShare_5 rfl rfl ?_
  refine am_ite h (fun hc h => ?_) (fun hc h => ?_)
  · refine am_icmp_ne_f (t := 145) d_X12_tellShare_83 (by decide) hc hF ?_
    refine am_seg s_M_tellShare_6 (y := (91, [(0, .ref 140)], [.int (nI 24), .int (nI 0), .ref 140, .ref 140], am_D (am_si τ 140 8 s0))) hF t_s_M_tellShare_6 rfl rfl ?_
    refine am_bd h (fun x5 hx h => ?_)
    refine am_callV (As := [.int (nI 0), .int (nI 24)]) (r := (some (.int x5.1))) (st := [.ref 140]) (σ' := am_D x5.2) (ci := 12) hF hR d_X12_tellShare_91 (c_M_number (τ' := x5.2) hx) (Nat.le_refl _) (Nat.le_refl _) wl_M_129 wi_yX12_number we_yX12_number wn_ShareHouseModel wc_yX12_number (Nat.le_of_ble_eq_true rfl) (Nat.le_of_ble_eq_true rfl) rfl rfl wy_yX12_number rfl ⟨by decide, by decide⟩ (Nat.le_of_ble_eq_true rfl) ?_
    refine am_seg s_M_tellShare_7 (y := (101, [(0, .ref 140)], [.int ((am_si x5.2 140 9 x5.1).1 140 7)], am_D (am_si x5.2 140 9 x5.1))) hF t_s_M_tellShare_7 rfl rfl ?_
    refine am_ite h (fun hc h => ?_) (fun hc h => ?_)
    · refine am_if_ge_t (t := 112) d_X12_tellShare_101 (by decide) hc hF ?_
      exact ok_M_tellShare_112 hF hR hB h
    · refine am_if_ge_f (t := 112) d_X12_tellShare_101 (by decide) hc hF ?_
      refine am_seg s_M_tellShare_14 (y := (109, [(0, .ref 140)], [.int (nI 2), .long (lN 28518), .ref 140], am_D (am_si x5.2 140 9 x5.1))) hF t_s_M_tellShare_14 rfl rfl ?_
      refine am_bd h (fun x8 hx h => ?_)
      refine am_callV (As := [.long (lN 28518), .int (nI 2)]) (r := none) (st := []) (σ' := am_D x8) (ci := 12) hF hR d_X12_tellShare_109 (c_M_must (τ' := x8) hx) (Nat.le_refl _) (Nat.le_refl _) wl_M_135 wi_yX12_must we_yX12_must wn_ShareHouseModel wc_yX12_must (Nat.le_of_ble_eq_true rfl) (Nat.le_of_ble_eq_true rfl) rfl rfl wy_yX12_must rfl ⟨by decide, by decide⟩ (Nat.le_of_ble_eq_true rfl) ?_
      exact ok_M_tellShare_112 hF hR hB h
  · refine am_icmp_ne_t (t := 145) d_X12_tellShare_83 (by decide) hc hF ?_
    obtain rfl := am_one h
    exact am_vret d_X12_tellShare_145 hF hB
def M_tellShare (τ : am_T) : Option (am_T) :=
  (M_may (am_si (am_si τ 140 9 (-3 : Int32)) 140 10 (-3 : Int32)) (lN 31084793196801639) (nI 7)).bind (fun x1 =>
  if x1.1 = 0 then
  ((M_may x1.2 (lN 435695214956) (nI 5)).bind (fun x2 =>
  if x2.1 = 0 then
  ((M_may x2.2 (lN 1634887009) (nI 4)).bind (fun x3 =>
  if x3.1 = 0 then
  ((M_may x3.2 (lN 439905906546) (nI 5)).bind (fun x4 =>
  if x4.1 = 0 then
  (M_tellShare_75 x4.2 (nI 4))
else
  (M_tellShare_75 x4.2 (nI 3))))
else
  (M_tellShare_75 x3.2 (nI 2))))
else
  (M_tellShare_75 x2.2 (nI 1))))
else
  (M_tellShare_75 x1.2 (nI 0)))
set_option maxRecDepth 20000 in
theorem ok_M_tellShare {X : am_X} {τ τ' : am_T} (hF : am_F X "ShareHouseModel" cX12_tellShare 1) (hR : am_R X 5 112) (hB : am_B X none none (am_D τ')) (h : M_tellShare τ = some τ') : am_W X 1 (0, [(0, .ref 140)], [], am_D τ) := by
  unfold M_tellShare at h
  refine am_seg s_M_tellShare_0 (y := (19, [(0, .ref 140)], [.int (nI 7), .long (lN 31084793196801639), .ref 140, .ref 140], am_D (am_si (am_si τ 140 9 (-3 : Int32)) 140 10 (-3 : Int32)))) hF t_s_M_tellShare_0 rfl rfl ?_
  refine am_bd h (fun x1 hx h => ?_)
  refine am_callV (As := [.long (lN 31084793196801639), .int (nI 7)]) (r := (some (.int x1.1))) (st := [.ref 140]) (σ' := am_D x1.2) (ci := 12) hF hR d_X12_tellShare_19 (c_M_may (τ' := x1.2) hx) (Nat.le_refl _) (Nat.le_refl _) wl_M_83 wi_yX12_may we_yX12_may wn_ShareHouseModel wc_yX12_may (Nat.le_of_ble_eq_true rfl) (Nat.le_of_ble_eq_true rfl) rfl rfl wy_yX12_may rfl ⟨by decide, by decide⟩ (Nat.le_of_ble_eq_true rfl) ?_
  refine am_ite h (fun hc h => ?_) (fun hc h => ?_)
  · refine am_if_eq_t (t := 29) d_X12_tellShare_22 (by decide) hc hF ?_
    refine am_seg s_M_tellShare_1 (y := (34, [(0, .ref 140)], [.int (nI 5), .long (lN 435695214956), .ref 140, .ref 140], am_D x1.2)) hF t_s_M_tellShare_1 rfl rfl ?_
    refine am_bd h (fun x2 hx h => ?_)
    refine am_callV (As := [.long (lN 435695214956), .int (nI 5)]) (r := (some (.int x2.1))) (st := [.ref 140]) (σ' := am_D x2.2) (ci := 12) hF hR d_X12_tellShare_34 (c_M_may (τ' := x2.2) hx) (Nat.le_refl _) (Nat.le_refl _) wl_M_83 wi_yX12_may we_yX12_may wn_ShareHouseModel wc_yX12_may (Nat.le_of_ble_eq_true rfl) (Nat.le_of_ble_eq_true rfl) rfl rfl wy_yX12_may rfl ⟨by decide, by decide⟩ (Nat.le_of_ble_eq_true rfl) ?_
    refine am_ite h (fun hc h => ?_) (fun hc h => ?_)
    · refine am_if_eq_t (t := 44) d_X12_tellShare_37 (by decide) hc hF ?_
      refine am_seg s_M_tellShare_2 (y := (49, [(0, .ref 140)], [.int (nI 4), .long (lN 1634887009), .ref 140, .ref 140], am_D x2.2)) hF t_s_M_tellShare_2 rfl rfl ?_
      refine am_bd h (fun x3 hx h => ?_)
      refine am_callV (As := [.long (lN 1634887009), .int (nI 4)]) (r := (some (.int x3.1))) (st := [.ref 140]) (σ' := am_D x3.2) (ci := 12) hF hR d_X12_tellShare_49 (c_M_may (τ' := x3.2) hx) (Nat.le_refl _) (Nat.le_refl _) wl_M_83 wi_yX12_may we_yX12_may wn_ShareHouseModel wc_yX12_may (Nat.le_of_ble_eq_true rfl) (Nat.le_of_ble_eq_true rfl) rfl rfl wy_yX12_may rfl ⟨by decide, by decide⟩ (Nat.le_of_ble_eq_true rfl) ?_
      refine am_ite h (fun hc h => ?_) (fun hc h => ?_)
      · refine am_if_eq_t (t := 59) d_X12_tellShare_52 (by decide) hc hF ?_
        refine am_seg s_M_tellShare_3 (y := (64, [(0, .ref 140)], [.int (nI 5), .long (lN 439905906546), .ref 140, .ref 140], am_D x3.2)) hF t_s_M_tellShare_3 rfl rfl ?_
        refine am_bd h (fun x4 hx h => ?_)
        refine am_callV (As := [.long (lN 439905906546), .int (nI 5)]) (r := (some (.int x4.1))) (st := [.ref 140]) (σ' := am_D x4.2) (ci := 12) hF hR d_X12_tellShare_64 (c_M_may (τ' := x4.2) hx) (Nat.le_refl _) (Nat.le_refl _) wl_M_83 wi_yX12_may we_yX12_may wn_ShareHouseModel wc_yX12_may (Nat.le_of_ble_eq_true rfl) (Nat.le_of_ble_eq_true rfl) rfl rfl wy_yX12_may rfl ⟨by decide, by decide⟩ (Nat.le_of_ble_eq_true rfl) ?_
        refine am_ite h (fun hc h => ?_) (fun hc h => ?_)
        · refine am_if_eq_t (t := 74) d_X12_tellShare_67 (by decide) hc hF ?_
          refine am_seg s_M_tellShare_4 (y := (75, [(0, .ref 140)], [.int (nI 4), .ref 140], am_D x4.2)) hF t_s_M_tellShare_4 rfl rfl ?_
          exact ok_M_tellShare_75 hF hR hB h
        · refine am_if_eq_f (t := 74) d_X12_tellShare_67 (by decide) hc hF ?_
          refine am_seg s_M_tellShare_15 (y := (75, [(0, .ref 140)], [.int (nI 3), .ref 140], am_D x4.2)) hF t_s_M_tellShare_15 rfl rfl ?_
          exact ok_M_tellShare_75 hF hR hB h
      · refine am_if_eq_f (t := 59) d_X12_tellShare_52 (by decide) hc hF ?_
        refine am_seg s_M_tellShare_16 (y := (75, [(0, .ref 140)], [.int (nI 2), .ref 140], am_D x3.2)) hF t_s_M_tellShare_16 rfl rfl ?_
        exact ok_M_tellShare_75 hF hR hB h
    · refine am_if_eq_f (t := 44) d_X12_tellShare_37 (by decide) hc hF ?_
      refine am_seg s_M_tellShare_17 (y := (75, [(0, .ref 140)], [.int (nI 1), .ref 140], am_D x2.2)) hF t_s_M_tellShare_17 rfl rfl ?_
      exact ok_M_tellShare_75 hF hR hB h
  · refine am_if_eq_f (t := 29) d_X12_tellShare_22 (by decide) hc hF ?_
    refine am_seg s_M_tellShare_18 (y := (75, [(0, .ref 140)], [.int (nI 0), .ref 140], am_D x1.2)) hF t_s_M_tellShare_18 rfl rfl ?_
    exact ok_M_tellShare_75 hF hR hB h
theorem c_M_tellShare {τ τ' : am_T} (h : M_tellShare τ = some τ') : am_C yX12_tellShare cX12_tellShare 1 none 5 112 [.ref 140] (am_D τ) none (am_D τ') :=
  am_enter (by decide +kernel) (Nat.le_of_ble_eq_true rfl) ⟨Nat.le_refl _, Nat.le_refl _⟩ (fun X hF hR hB => ok_M_tellShare hF hR hB h)

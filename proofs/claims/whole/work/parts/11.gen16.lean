def s_M_asked_0 : List am_Q := [(0, .iload_n 1, 0, 0, 0, .null)]
theorem t_s_M_asked_0 : s_M_asked_0.all (am_ok 12 cX12_asked) = true := by decide +kernel
theorem d_X12_asked_1 : decode cX12_asked 1 = .ok (.invokestatic 264, 3) := by decide +kernel
theorem d_X12_asked_4 : decode cX12_asked 4 = .ok (.ifCond .eq 11, 3) := by decide +kernel
def s_M_asked_1 : List am_Q := [(15, .iconst (-1), 0, 0, 0, .int (-1 : Int32))]
theorem t_s_M_asked_1 : s_M_asked_1.all (am_ok 12 cX12_asked) = true := by decide +kernel
theorem d_X12_asked_16 : decode cX12_asked 16 = .ok (.ireturn, 1) := by decide +kernel
def s_M_asked_2 : List am_Q := [(7, .aload_n 0, 0, 0, 0, .null), (8, .iload_n 2, 0, 0, 0, .null)]
theorem t_s_M_asked_2 : s_M_asked_2.all (am_ok 12 cX12_asked) = true := by decide +kernel
theorem d_X12_asked_9 : decode cX12_asked 9 = .ok (.invokevirtual 226, 3) := by decide +kernel
theorem d_X12_asked_12 : decode cX12_asked 12 = .ok (.ifCond .ne 5, 3) := by decide +kernel
def s_M_asked_3 : List am_Q := [(17, .iconst 0, 0, 0, 0, .int (nI 0)), (18, .istore_n 3, 0, 0, 0, .null)]
theorem t_s_M_asked_3 : s_M_asked_3.all (am_ok 12 cX12_asked) = true := by decide +kernel
def s_M_asked_4 : List am_Q := [(19, .iload_n 3, 0, 0, 0, .null), (20, .bipush 8, 0, 0, 0, .int (nI 8))]
theorem t_s_M_asked_4 : s_M_asked_4.all (am_ok 12 cX12_asked) = true := by decide +kernel
theorem d_X12_asked_22 : decode cX12_asked 22 = .ok (.if_icmp .ge 39, 3) := by decide +kernel
def s_M_asked_5 : List am_Q := [(61, .iconst 0, 0, 0, 0, .int (nI 0)), (62, .istore_n 3, 0, 0, 0, .null)]
theorem t_s_M_asked_5 : s_M_asked_5.all (am_ok 12 cX12_asked) = true := by decide +kernel
def s_M_asked_6 : List am_Q := [(63, .iload_n 3, 0, 0, 0, .null), (64, .bipush 8, 0, 0, 0, .int (nI 8))]
theorem t_s_M_asked_6 : s_M_asked_6.all (am_ok 12 cX12_asked) = true := by decide +kernel
theorem d_X12_asked_66 : decode cX12_asked 66 = .ok (.if_icmp .ge 84, 3) := by decide +kernel
def s_M_asked_7 : List am_Q := [(150, .iconst (-1), 0, 0, 0, .int (-1 : Int32))]
theorem t_s_M_asked_7 : s_M_asked_7.all (am_ok 12 cX12_asked) = true := by decide +kernel
theorem d_X12_asked_151 : decode cX12_asked 151 = .ok (.ireturn, 1) := by decide +kernel
def s_M_asked_8 : List am_Q := [(69, .iconst 0, 0, 0, 0, .int (nI 0)), (70, .istore 4, 0, 0, 0, .null), (72, .iconst 0, 0, 0, 0, .int (nI 0)), (73, .istore 5, 0, 0, 0, .null)]
theorem t_s_M_asked_8 : s_M_asked_8.all (am_ok 12 cX12_asked) = true := by decide +kernel
def s_M_asked_9 : List am_Q := [(75, .iload 5, 0, 0, 0, .null), (77, .bipush 8, 0, 0, 0, .int (nI 8))]
theorem t_s_M_asked_9 : s_M_asked_9.all (am_ok 12 cX12_asked) = true := by decide +kernel
theorem d_X12_asked_79 : decode cX12_asked 79 = .ok (.if_icmp .ge 57, 3) := by decide +kernel
def s_M_asked_10 : List am_Q := [(136, .iload 4, 0, 0, 0, .null), (138, .iload_n 1, 0, 0, 0, .null)]
theorem t_s_M_asked_10 : s_M_asked_10.all (am_ok 12 cX12_asked) = true := by decide +kernel
theorem d_X12_asked_139 : decode cX12_asked 139 = .ok (.if_icmp .ne 5, 3) := by decide +kernel
def s_M_asked_11 : List am_Q := [(144, .iinc 3 1, 0, 0, 0, .int (nI 1)), (147, .goto (-84), 63, 0, 0, .null)]
theorem t_s_M_asked_11 : s_M_asked_11.all (am_ok 12 cX12_asked) = true := by decide +kernel
def s_M_asked_12 : List am_Q := [(142, .iload_n 3, 0, 0, 0, .null)]
theorem t_s_M_asked_12 : s_M_asked_12.all (am_ok 12 cX12_asked) = true := by decide +kernel
theorem d_X12_asked_143 : decode cX12_asked 143 = .ok (.ireturn, 1) := by decide +kernel
def s_M_asked_13 : List am_Q := [(82, .iload 4, 0, 0, 0, .null), (84, .aload_n 0, 0, 0, 0, .null), (85, .getfield 35, 12, 24, 176, .null), (88, .iload 5, 0, 0, 0, .null)]
theorem t_s_M_asked_13 : s_M_asked_13.all (am_ok 12 cX12_asked) = true := by decide +kernel
theorem d_X12_asked_90 : decode cX12_asked 90 = .ok (.iaload, 1) := by decide +kernel
def s_M_asked_14 : List am_Q := [(91, .aload_n 0, 0, 0, 0, .null), (92, .getfield 35, 12, 24, 176, .null), (95, .iload_n 3, 0, 0, 0, .null)]
theorem t_s_M_asked_14 : s_M_asked_14.all (am_ok 12 cX12_asked) = true := by decide +kernel
theorem d_X12_asked_96 : decode cX12_asked 96 = .ok (.iaload, 1) := by decide +kernel
theorem d_X12_asked_97 : decode cX12_asked 97 = .ok (.if_icmp .gt 25, 3) := by decide +kernel
def s_M_asked_15 : List am_Q := [(122, .iconst 1, 0, 0, 0, .int (nI 1)), (123, .goto 4, 127, 0, 0, .null), (127, .iadd, 0, 0, 0, .null), (128, .istore 4, 0, 0, 0, .null), (130, .iinc 5 1, 0, 0, 0, .int (nI 1)), (133, .goto (-58), 75, 0, 0, .null)]
theorem t_s_M_asked_15 : s_M_asked_15.all (am_ok 12 cX12_asked) = true := by decide +kernel
def s_M_asked_16 : List am_Q := [(100, .aload_n 0, 0, 0, 0, .null), (101, .getfield 35, 12, 24, 176, .null), (104, .iload 5, 0, 0, 0, .null)]
theorem t_s_M_asked_16 : s_M_asked_16.all (am_ok 12 cX12_asked) = true := by decide +kernel
theorem d_X12_asked_106 : decode cX12_asked 106 = .ok (.iaload, 1) := by decide +kernel
def s_M_asked_17 : List am_Q := [(107, .aload_n 0, 0, 0, 0, .null), (108, .getfield 35, 12, 24, 176, .null), (111, .iload_n 3, 0, 0, 0, .null)]
theorem t_s_M_asked_17 : s_M_asked_17.all (am_ok 12 cX12_asked) = true := by decide +kernel
theorem d_X12_asked_112 : decode cX12_asked 112 = .ok (.iaload, 1) := by decide +kernel
theorem d_X12_asked_113 : decode cX12_asked 113 = .ok (.if_icmp .ne 13, 3) := by decide +kernel
def s_M_asked_18 : List am_Q := [(126, .iconst 0, 0, 0, 0, .int (nI 0)), (127, .iadd, 0, 0, 0, .null), (128, .istore 4, 0, 0, 0, .null), (130, .iinc 5 1, 0, 0, 0, .int (nI 1)), (133, .goto (-58), 75, 0, 0, .null)]
theorem t_s_M_asked_18 : s_M_asked_18.all (am_ok 12 cX12_asked) = true := by decide +kernel
def s_M_asked_19 : List am_Q := [(116, .iload 5, 0, 0, 0, .null), (118, .iload_n 3, 0, 0, 0, .null)]
theorem t_s_M_asked_19 : s_M_asked_19.all (am_ok 12 cX12_asked) = true := by decide +kernel
theorem d_X12_asked_119 : decode cX12_asked 119 = .ok (.if_icmp .ge 7, 3) := by decide +kernel
def s_M_asked_20 : List am_Q := [(126, .iconst 0, 0, 0, 0, .int (nI 0)), (127, .iadd, 0, 0, 0, .null), (128, .istore 4, 0, 0, 0, .null), (130, .iinc 5 1, 0, 0, 0, .int (nI 1)), (133, .goto (-58), 75, 0, 0, .null)]
theorem t_s_M_asked_20 : s_M_asked_20.all (am_ok 12 cX12_asked) = true := by decide +kernel
def s_M_asked_21 : List am_Q := [(122, .iconst 1, 0, 0, 0, .int (nI 1)), (123, .goto 4, 127, 0, 0, .null), (127, .iadd, 0, 0, 0, .null), (128, .istore 4, 0, 0, 0, .null), (130, .iinc 5 1, 0, 0, 0, .int (nI 1)), (133, .goto (-58), 75, 0, 0, .null)]
theorem t_s_M_asked_21 : s_M_asked_21.all (am_ok 12 cX12_asked) = true := by decide +kernel
def s_M_asked_22 : List am_Q := [(25, .aload_n 0, 0, 0, 0, .null), (26, .iload_n 3, 0, 0, 0, .null), (27, .iload_n 2, 0, 0, 0, .null)]
theorem t_s_M_asked_22 : s_M_asked_22.all (am_ok 12 cX12_asked) = true := by decide +kernel
theorem d_X12_asked_28 : decode cX12_asked 28 = .ok (.invokevirtual 275, 3) := by decide +kernel
def s_M_asked_23 : List am_Q := [(31, .istore 4, 0, 0, 0, .null), (33, .aload_n 0, 0, 0, 0, .null), (34, .getfield 35, 12, 24, 176, .null), (37, .iload_n 3, 0, 0, 0, .null), (38, .iload 4, 0, 0, 0, .null), (40, .aload_n 0, 0, 0, 0, .null), (41, .iload_n 3, 0, 0, 0, .null), (42, .iload_n 2, 0, 0, 0, .null)]
theorem t_s_M_asked_23 : s_M_asked_23.all (am_ok 12 cX12_asked) = true := by decide +kernel
theorem d_X12_asked_43 : decode cX12_asked 43 = .ok (.invokevirtual 270, 3) := by decide +kernel
def s_M_asked_24 : List am_Q := [(46, .isub, 0, 0, 0, .null), (47, .aload_n 0, 0, 0, 0, .null), (48, .iload_n 3, 0, 0, 0, .null), (49, .iload_n 2, 0, 0, 0, .null)]
theorem t_s_M_asked_24 : s_M_asked_24.all (am_ok 12 cX12_asked) = true := by decide +kernel
theorem d_X12_asked_50 : decode cX12_asked 50 = .ok (.invokevirtual 278, 3) := by decide +kernel
def s_M_asked_25 : List am_Q := [(53, .iadd, 0, 0, 0, .null)]
theorem t_s_M_asked_25 : s_M_asked_25.all (am_ok 12 cX12_asked) = true := by decide +kernel
theorem d_X12_asked_54 : decode cX12_asked 54 = .ok (.iastore, 1) := by decide +kernel
def s_M_asked_26 : List am_Q := [(55, .iinc 3 1, 0, 0, 0, .int (nI 1)), (58, .goto (-39), 19, 0, 0, .null)]
theorem t_s_M_asked_26 : s_M_asked_26.all (am_ok 12 cX12_asked) = true := by decide +kernel
def s_M_asked_27 : List am_Q := [(15, .iconst (-1), 0, 0, 0, .int (-1 : Int32))]
theorem t_s_M_asked_27 : s_M_asked_27.all (am_ok 12 cX12_asked) = true := by decide +kernel
def M_asked_75 (k63 : am_T → Int32 → Int32 → Option (Int32 × am_T)) : Nat → am_T → Int32 → Int32 → Int32 → Int32 → Option (Int32 × am_T)
  | 0, _, _, _, _, _ => none
  | n + 1, τ, a1, a3, a4, a5 =>
    if (nI 8) ≤ a5 then
  (if a4 = a1 then
  (some (a3, τ))
else
  (k63 τ a1 (a3 + (nI 1))))
else
  (am_g (am_in a5 8) (am_g (am_in a3 8) (if (τ.1 149 (a3.toNatClampNeg)) < (τ.1 149 (a5.toNatClampNeg)) then
  ((M_asked_75 k63 n) τ a1 a3 (a4 + (nI 1)) (a5 + (nI 1)))
else
  (am_g (am_in a5 8) (am_g (am_in a3 8) (if (τ.1 149 (a5.toNatClampNeg)) = (τ.1 149 (a3.toNatClampNeg)) then
  (if a3 ≤ a5 then
  ((M_asked_75 k63 n) τ a1 a3 (a4 + (nI 0)) (a5 + (nI 1)))
else
  ((M_asked_75 k63 n) τ a1 a3 (a4 + (nI 1)) (a5 + (nI 1))))
else
  ((M_asked_75 k63 n) τ a1 a3 (a4 + (nI 0)) (a5 + (nI 1)))))))))
set_option maxRecDepth 20000 in
theorem ok_M_asked_75 {X : am_X} {v : Int32} {τ' : am_T} (hF : am_F X "ShareHouseModel" cX12_asked 6) (hR : am_R X 6 146) (hB : am_B X (some .int) (some (.int v)) (am_D τ')) {k63 : am_T → Int32 → Int32 → Option (Int32 × am_T)} (hk63 : ∀ (τ : am_T) (a1 : Int32) (a3 : Int32), k63 τ a1 a3 = some (v, τ') → am_W X 6 (63, [(0, .ref 140), (1, .int a1), (3, .int a3)], [], am_D τ)) : ∀ (n : Nat) (τ : am_T) (a1 : Int32) (a3 : Int32) (a4 : Int32) (a5 : Int32), M_asked_75 k63 n τ a1 a3 a4 a5 = some (v, τ') → am_W X 6 (75, [(0, .ref 140), (1, .int a1), (3, .int a3), (4, .int a4), (5, .int a5)], [], am_D τ) := by
  intro n
  induction n with
  | zero => intro τ a1 a3 a4 a5 h; unfold M_asked_75 at h; cases h
  | succ n ih =>
    intro τ a1 a3 a4 a5 h
    unfold M_asked_75 at h
    refine am_seg s_M_asked_9 (y := (79, [(0, .ref 140), (1, .int a1), (3, .int a3), (4, .int a4), (5, .int a5)], [.int (nI 8), .int a5], am_D τ)) hF t_s_M_asked_9 rfl rfl ?_
    refine am_ite h (fun hc h => ?_) (fun hc h => ?_)
    · refine am_icmp_ge_t (t := 136) d_X12_asked_79 (by decide) hc hF ?_
      refine am_seg s_M_asked_10 (y := (139, [(0, .ref 140), (1, .int a1), (3, .int a3), (4, .int a4), (5, .int a5)], [.int a1, .int a4], am_D τ)) hF t_s_M_asked_10 rfl rfl ?_
      refine am_ite h (fun hc h => ?_) (fun hc h => ?_)
      · refine am_icmp_ne_f (t := 144) d_X12_asked_139 (by decide) hc hF ?_
        refine am_seg s_M_asked_12 (y := (143, [(0, .ref 140), (1, .int a1), (3, .int a3), (4, .int a4), (5, .int a5)], [.int a3], am_D τ)) hF t_s_M_asked_12 rfl rfl ?_
        obtain ⟨rfl, rfl⟩ := am_pair h
        exact am_iret d_X12_asked_143 hF hB
      · refine am_icmp_ne_t (t := 144) d_X12_asked_139 (by decide) hc hF ?_
        refine am_seg s_M_asked_11 (y := (63, [(3, .int (a3 + (nI 1))), (0, .ref 140), (1, .int a1), (4, .int a4), (5, .int a5)], [], am_D τ)) hF t_s_M_asked_11 rfl rfl ?_
        refine am_pick [1, 2, 0] rfl ?_
        exact hk63 _ _ _ h
    · refine am_icmp_ge_f (t := 136) d_X12_asked_79 (by decide) hc hF ?_
      refine am_seg s_M_asked_13 (y := (90, [(0, .ref 140), (1, .int a1), (3, .int a3), (4, .int a4), (5, .int a5)], [.int a5, .ref 149, .int a4], am_D τ)) hF t_s_M_asked_13 rfl rfl ?_
      refine am_gd h (fun hi h => ?_)
      refine am_iald (n := 8) (j := (a5.toNatClampNeg)) d_X12_asked_90 (Nat.le_of_ble_eq_true rfl) (Nat.le_of_ble_eq_true rfl) rfl hi rfl hF ?_
      refine am_seg s_M_asked_14 (y := (96, [(0, .ref 140), (1, .int a1), (3, .int a3), (4, .int a4), (5, .int a5)], [.int a3, .ref 149, .int (τ.1 149 (a5.toNatClampNeg)), .int a4], am_D τ)) hF t_s_M_asked_14 rfl rfl ?_
      refine am_gd h (fun hi h => ?_)
      refine am_iald (n := 8) (j := (a3.toNatClampNeg)) d_X12_asked_96 (Nat.le_of_ble_eq_true rfl) (Nat.le_of_ble_eq_true rfl) rfl hi rfl hF ?_
      refine am_ite h (fun hc h => ?_) (fun hc h => ?_)
      · refine am_icmp_gt_t (t := 122) d_X12_asked_97 (by decide) hc hF ?_
        refine am_seg s_M_asked_15 (y := (75, [(5, .int (a5 + (nI 1))), (4, .int (a4 + (nI 1))), (0, .ref 140), (1, .int a1), (3, .int a3)], [], am_D τ)) hF t_s_M_asked_15 rfl rfl ?_
        refine am_pick [2, 3, 4, 1, 0] rfl ?_
        exact ih _ _ _ _ _ h
      · refine am_icmp_gt_f (t := 122) d_X12_asked_97 (by decide) hc hF ?_
        refine am_seg s_M_asked_16 (y := (106, [(0, .ref 140), (1, .int a1), (3, .int a3), (4, .int a4), (5, .int a5)], [.int a5, .ref 149, .int a4], am_D τ)) hF t_s_M_asked_16 rfl rfl ?_
        refine am_gd h (fun hi h => ?_)
        refine am_iald (n := 8) (j := (a5.toNatClampNeg)) d_X12_asked_106 (Nat.le_of_ble_eq_true rfl) (Nat.le_of_ble_eq_true rfl) rfl hi rfl hF ?_
        refine am_seg s_M_asked_17 (y := (112, [(0, .ref 140), (1, .int a1), (3, .int a3), (4, .int a4), (5, .int a5)], [.int a3, .ref 149, .int (τ.1 149 (a5.toNatClampNeg)), .int a4], am_D τ)) hF t_s_M_asked_17 rfl rfl ?_
        refine am_gd h (fun hi h => ?_)
        refine am_iald (n := 8) (j := (a3.toNatClampNeg)) d_X12_asked_112 (Nat.le_of_ble_eq_true rfl) (Nat.le_of_ble_eq_true rfl) rfl hi rfl hF ?_
        refine am_ite h (fun hc h => ?_) (fun hc h => ?_)
        · refine am_icmp_ne_f (t := 126) d_X12_asked_113 (by decide) hc hF ?_
          refine am_seg s_M_asked_19 (y := (119, [(0, .ref 140), (1, .int a1), (3, .int a3), (4, .int a4), (5, .int a5)], [.int a3, .int a5, .int a4], am_D τ)) hF t_s_M_asked_19 rfl rfl ?_
          refine am_ite h (fun hc h => ?_) (fun hc h => ?_)
          · refine am_icmp_ge_t (t := 126) d_X12_asked_119 (by decide) hc hF ?_
            refine am_seg s_M_asked_20 (y := (75, [(5, .int (a5 + (nI 1))), (4, .int (a4 + (nI 0))), (0, .ref 140), (1, .int a1), (3, .int a3)], [], am_D τ)) hF t_s_M_asked_20 rfl rfl ?_
            refine am_pick [2, 3, 4, 1, 0] rfl ?_
            exact ih _ _ _ _ _ h
          · refine am_icmp_ge_f (t := 126) d_X12_asked_119 (by decide) hc hF ?_
            refine am_seg s_M_asked_21 (y := (75, [(5, .int (a5 + (nI 1))), (4, .int (a4 + (nI 1))), (0, .ref 140), (1, .int a1), (3, .int a3)], [], am_D τ)) hF t_s_M_asked_21 rfl rfl ?_
            refine am_pick [2, 3, 4, 1, 0] rfl ?_
            exact ih _ _ _ _ _ h
        · refine am_icmp_ne_t (t := 126) d_X12_asked_113 (by decide) hc hF ?_
          refine am_seg s_M_asked_18 (y := (75, [(5, .int (a5 + (nI 1))), (4, .int (a4 + (nI 0))), (0, .ref 140), (1, .int a1), (3, .int a3)], [], am_D τ)) hF t_s_M_asked_18 rfl rfl ?_
          refine am_pick [2, 3, 4, 1, 0] rfl ?_
          exact ih _ _ _ _ _ h
def M_asked_63 : Nat → am_T → Int32 → Int32 → Option (Int32 × am_T)
  | 0, _, _, _ => none
  | n + 1, τ, a1, a3 =>
    if (nI 8) ≤ a3 then
  (some ((-1 : Int32), τ))
else
  (M_asked_75 (M_asked_63 n) 5000 τ a1 a3 (nI 0) (nI 0))
set_option maxRecDepth 20000 in
theorem ok_M_asked_63 {X : am_X} {v : Int32} {τ' : am_T} (hF : am_F X "ShareHouseModel" cX12_asked 6) (hR : am_R X 6 146) (hB : am_B X (some .int) (some (.int v)) (am_D τ')) : ∀ (n : Nat) (τ : am_T) (a1 : Int32) (a3 : Int32), M_asked_63 n τ a1 a3 = some (v, τ') → am_W X 6 (63, [(0, .ref 140), (1, .int a1), (3, .int a3)], [], am_D τ) := by
  intro n
  induction n with
  | zero => intro τ a1 a3 h; unfold M_asked_63 at h; cases h
  | succ n ih =>
    intro τ a1 a3 h
    unfold M_asked_63 at h
    refine am_seg s_M_asked_6 (y := (66, [(0, .ref 140), (1, .int a1), (3, .int a3)], [.int (nI 8), .int a3], am_D τ)) hF t_s_M_asked_6 rfl rfl ?_
    refine am_ite h (fun hc h => ?_) (fun hc h => ?_)
    · refine am_icmp_ge_t (t := 150) d_X12_asked_66 (by decide) hc hF ?_
      refine am_seg s_M_asked_7 (y := (151, [(0, .ref 140), (1, .int a1), (3, .int a3)], [.int (-1 : Int32)], am_D τ)) hF t_s_M_asked_7 rfl rfl ?_
      obtain ⟨rfl, rfl⟩ := am_pair h
      exact am_iret d_X12_asked_151 hF hB
    · refine am_icmp_ge_f (t := 150) d_X12_asked_66 (by decide) hc hF ?_
      refine am_seg s_M_asked_8 (y := (75, [(5, .int (nI 0)), (4, .int (nI 0)), (0, .ref 140), (1, .int a1), (3, .int a3)], [], am_D τ)) hF t_s_M_asked_8 rfl rfl ?_
      refine am_pick [2, 3, 4, 1, 0] rfl ?_
      exact ok_M_asked_75 hF hR hB ih _ _ _ _ _ _ h
def M_asked_19 : Nat → am_T → Int32 → Int32 → Int32 → Option (Int32 × am_T)
  | 0, _, _, _, _ => none
  | n + 1, τ, a1, a2, a3 =>
    if (nI 8) ≤ a3 then
  (M_asked_63 5000 τ a1 (nI 0))
else
  ((M_findBill τ a3 a2).bind (fun x3 =>
  (M_paid x3.2 a3 a2).bind (fun x4 =>
  (M_interest x4.2 a3 a2).bind (fun x5 =>
  am_g (am_in a3 8) ((M_asked_19 n) (am_si x5.2 149 (a3.toNatClampNeg) ((x3.1 - x4.1) + x5.1)) a1 a2 (a3 + (nI 1)))))))
set_option maxRecDepth 20000 in
theorem ok_M_asked_19 {X : am_X} {v : Int32} {τ' : am_T} (hF : am_F X "ShareHouseModel" cX12_asked 6) (hR : am_R X 6 146) (hB : am_B X (some .int) (some (.int v)) (am_D τ')) : ∀ (n : Nat) (τ : am_T) (a1 : Int32) (a2 : Int32) (a3 : Int32), M_asked_19 n τ a1 a2 a3 = some (v, τ') → am_W X 6 (19, [(0, .ref 140), (1, .int a1), (2, .int a2), (3, .int a3)], [], am_D τ) := by
  intro n
  induction n with
  | zero => intro τ a1 a2 a3 h; unfold M_asked_19 at h; cases h
  | succ n ih =>
    intro τ a1 a2 a3 h
    unfold M_asked_19 at h
    refine am_seg s_M_asked_4 (y := (22, [(0, .ref 140), (1, .int a1), (2, .int a2), (3, .int a3)], [.int (nI 8), .int a3], am_D τ)) hF t_s_M_asked_4 rfl rfl ?_
    refine am_ite h (fun hc h => ?_) (fun hc h => ?_)
    · refine am_icmp_ge_t (t := 61) d_X12_asked_22 (by decide) hc hF ?_
      refine am_seg s_M_asked_5 (y := (63, [(3, .int (nI 0)), (0, .ref 140), (1, .int a1), (2, .int a2)], [], am_D τ)) hF t_s_M_asked_5 rfl rfl ?_
      refine am_pick [1, 2, 0] rfl ?_
      exact ok_M_asked_63 hF hR hB _ _ _ _ h
    · refine am_icmp_ge_f (t := 61) d_X12_asked_22 (by decide) hc hF ?_
      refine am_seg s_M_asked_22 (y := (28, [(0, .ref 140), (1, .int a1), (2, .int a2), (3, .int a3)], [.int a2, .int a3, .ref 140], am_D τ)) hF t_s_M_asked_22 rfl rfl ?_
      refine am_bd h (fun x3 hx h => ?_)
      refine am_callV (As := [.int a3, .int a2]) (r := (some (.int x3.1))) (st := []) (σ' := am_D x3.2) (ci := 12) hF hR d_X12_asked_28 (c_M_findBill (τ' := x3.2) hx) (Nat.le_refl _) (Nat.le_refl _) wl_M_275 wi_yX12_findBill we_yX12_findBill wn_ShareHouseModel wc_yX12_findBill (Nat.le_of_ble_eq_true rfl) (Nat.le_of_ble_eq_true rfl) rfl rfl wy_yX12_findBill rfl ⟨by decide, by decide⟩ (Nat.le_of_ble_eq_true rfl) ?_
      refine am_seg s_M_asked_23 (y := (43, [(4, .int x3.1), (0, .ref 140), (1, .int a1), (2, .int a2), (3, .int a3)], [.int a2, .int a3, .ref 140, .int x3.1, .int a3, .ref 149], am_D x3.2)) hF t_s_M_asked_23 rfl rfl ?_
      refine am_bd h (fun x4 hx h => ?_)
      refine am_callV (As := [.int a3, .int a2]) (r := (some (.int x4.1))) (st := [.int x3.1, .int a3, .ref 149]) (σ' := am_D x4.2) (ci := 12) hF hR d_X12_asked_43 (c_M_paid (τ' := x4.2) hx) (Nat.le_refl _) (Nat.le_refl _) wl_M_270 wi_yX12_paid we_yX12_paid wn_ShareHouseModel wc_yX12_paid (Nat.le_of_ble_eq_true rfl) (Nat.le_of_ble_eq_true rfl) rfl rfl wy_yX12_paid rfl ⟨by decide, by decide⟩ (Nat.le_of_ble_eq_true rfl) ?_
      refine am_seg s_M_asked_24 (y := (50, [(4, .int x3.1), (0, .ref 140), (1, .int a1), (2, .int a2), (3, .int a3)], [.int a2, .int a3, .ref 140, .int (x3.1 - x4.1), .int a3, .ref 149], am_D x4.2)) hF t_s_M_asked_24 rfl rfl ?_
      refine am_bd h (fun x5 hx h => ?_)
      refine am_callV (As := [.int a3, .int a2]) (r := (some (.int x5.1))) (st := [.int (x3.1 - x4.1), .int a3, .ref 149]) (σ' := am_D x5.2) (ci := 12) hF hR d_X12_asked_50 (c_M_interest (τ' := x5.2) hx) (Nat.le_refl _) (Nat.le_refl _) wl_M_278 wi_yX12_interest we_yX12_interest wn_ShareHouseModel wc_yX12_interest (Nat.le_of_ble_eq_true rfl) (Nat.le_of_ble_eq_true rfl) rfl rfl wy_yX12_interest rfl ⟨by decide, by decide⟩ (Nat.le_of_ble_eq_true rfl) ?_
      refine am_seg s_M_asked_25 (y := (54, [(4, .int x3.1), (0, .ref 140), (1, .int a1), (2, .int a2), (3, .int a3)], [.int ((x3.1 - x4.1) + x5.1), .int a3, .ref 149], am_D x5.2)) hF t_s_M_asked_25 rfl rfl ?_
      refine am_gd h (fun hi h => ?_)
      refine am_iast (n := 8) (j := (a3.toNatClampNeg)) d_X12_asked_54 (Nat.le_of_ble_eq_true rfl) (Nat.le_of_ble_eq_true rfl) rfl hi rfl hF ?_
      refine am_seg s_M_asked_26 (y := (19, [(3, .int (a3 + (nI 1))), (4, .int x3.1), (0, .ref 140), (1, .int a1), (2, .int a2)], [], am_D (am_si x5.2 149 (a3.toNatClampNeg) ((x3.1 - x4.1) + x5.1)))) hF t_s_M_asked_26 rfl rfl ?_
      refine am_pick [2, 3, 4, 0] rfl ?_
      exact ih _ _ _ _ h
def M_asked (τ : am_T) (a1 : Int32) (a2 : Int32) : Option (Int32 × am_T) :=
  (M_isOwner τ a1).bind (fun x1 =>
  if x1.1 = 0 then
  (some ((-1 : Int32), x1.2))
else
  ((M_isKnownDay x1.2 a2).bind (fun x2 =>
  if x2.1 = 0 then
  (some ((-1 : Int32), x2.2))
else
  (M_asked_19 5000 x2.2 a1 a2 (nI 0)))))
set_option maxRecDepth 20000 in
theorem ok_M_asked {X : am_X} {a1 : Int32} {a2 : Int32} {v : Int32} {τ τ' : am_T} (hF : am_F X "ShareHouseModel" cX12_asked 6) (hR : am_R X 6 146) (hB : am_B X (some .int) (some (.int v)) (am_D τ')) (h : M_asked τ a1 a2 = some (v, τ')) : am_W X 6 (0, [(0, .ref 140), (1, .int a1), (2, .int a2)], [], am_D τ) := by
  unfold M_asked at h
  refine am_seg s_M_asked_0 (y := (1, [(0, .ref 140), (1, .int a1), (2, .int a2)], [.int a1], am_D τ)) hF t_s_M_asked_0 rfl rfl ?_
  refine am_bd h (fun x1 hx h => ?_)
  refine am_callS (As := [.int a1]) (r := (some (.int x1.1))) (st := []) (σ' := am_D x1.2) hF hR d_X12_asked_1 (c_M_isOwner (τ' := x1.2) hx) (Nat.le_refl _) (Nat.le_refl _) wl_M_264 ws_yX12_isOwner wn_ShareHouseModel wc_yX12_isOwner wy_yX12_isOwner rfl ⟨by decide, by decide⟩ (Nat.le_of_ble_eq_true rfl) ?_
  refine am_ite h (fun hc h => ?_) (fun hc h => ?_)
  · refine am_if_eq_t (t := 15) d_X12_asked_4 (by decide) hc hF ?_
    refine am_seg s_M_asked_1 (y := (16, [(0, .ref 140), (1, .int a1), (2, .int a2)], [.int (-1 : Int32)], am_D x1.2)) hF t_s_M_asked_1 rfl rfl ?_
    obtain ⟨rfl, rfl⟩ := am_pair h
    exact am_iret d_X12_asked_16 hF hB
  · refine am_if_eq_f (t := 15) d_X12_asked_4 (by decide) hc hF ?_
    refine am_seg s_M_asked_2 (y := (9, [(0, .ref 140), (1, .int a1), (2, .int a2)], [.int a2, .ref 140], am_D x1.2)) hF t_s_M_asked_2 rfl rfl ?_
    refine am_bd h (fun x2 hx h => ?_)
    refine am_callV (As := [.int a2]) (r := (some (.int x2.1))) (st := []) (σ' := am_D x2.2) (ci := 12) hF hR d_X12_asked_9 (c_M_isKnownDay (τ' := x2.2) hx) (Nat.le_refl _) (Nat.le_refl _) wl_M_226 wi_yX12_isKnownDay we_yX12_isKnownDay wn_ShareHouseModel wc_yX12_isKnownDay (Nat.le_of_ble_eq_true rfl) (Nat.le_of_ble_eq_true rfl) rfl rfl wy_yX12_isKnownDay rfl ⟨by decide, by decide⟩ (Nat.le_of_ble_eq_true rfl) ?_
    refine am_ite h (fun hc h => ?_) (fun hc h => ?_)
    · refine am_if_ne_f (t := 17) d_X12_asked_12 (by decide) hc hF ?_
      refine am_seg s_M_asked_27 (y := (16, [(0, .ref 140), (1, .int a1), (2, .int a2)], [.int (-1 : Int32)], am_D x2.2)) hF t_s_M_asked_27 rfl rfl ?_
      obtain ⟨rfl, rfl⟩ := am_pair h
      exact am_iret d_X12_asked_16 hF hB
    · refine am_if_ne_t (t := 17) d_X12_asked_12 (by decide) hc hF ?_
      refine am_seg s_M_asked_3 (y := (19, [(3, .int (nI 0)), (0, .ref 140), (1, .int a1), (2, .int a2)], [], am_D x2.2)) hF t_s_M_asked_3 rfl rfl ?_
      refine am_pick [1, 2, 3, 0] rfl ?_
      exact ok_M_asked_19 hF hR hB _ _ _ _ _ h
theorem c_M_asked {a1 : Int32} {a2 : Int32} {v : Int32} {τ τ' : am_T} (h : M_asked τ a1 a2 = some (v, τ')) : am_C yX12_asked cX12_asked 6 (some .int) 6 146 [.ref 140, .int a1, .int a2] (am_D τ) (some (.int v)) (am_D τ') :=
  am_enter (by decide +kernel) (Nat.le_of_ble_eq_true rfl) ⟨Nat.le_refl _, Nat.le_refl _⟩ (fun X hF hR hB => ok_M_asked hF hR hB h)
def s_M_work_0 : List am_Q := [(0, .iload_n 1, 0, 0, 0, .null)]
theorem t_s_M_work_0 : s_M_work_0.all (am_ok 12 cX12_work) = true := by decide +kernel
theorem d_X12_work_1 : decode cX12_work 1 = .ok (.invokestatic 203, 3) := by decide +kernel
theorem d_X12_work_4 : decode cX12_work 4 = .ok (.ifCond .eq 13, 3) := by decide +kernel
def s_M_work_1 : List am_Q := [(17, .iconst (-1), 0, 0, 0, .int (-1 : Int32))]
theorem t_s_M_work_1 : s_M_work_1.all (am_ok 12 cX12_work) = true := by decide +kernel
theorem d_X12_work_18 : decode cX12_work 18 = .ok (.ireturn, 1) := by decide +kernel
def s_M_work_2 : List am_Q := [(7, .iload_n 2, 0, 0, 0, .null), (8, .iconst 1, 0, 0, 0, .int (nI 1)), (9, .ldc 222, 0, 0, 30, .int (nI 99999))]
theorem t_s_M_work_2 : s_M_work_2.all (am_ok 12 cX12_work) = true := by decide +kernel
theorem d_X12_work_11 : decode cX12_work 11 = .ok (.invokestatic 51, 3) := by decide +kernel
theorem d_X12_work_14 : decode cX12_work 14 = .ok (.ifCond .ne 5, 3) := by decide +kernel
def s_M_work_3 : List am_Q := [(19, .aload_n 0, 0, 0, 0, .null), (20, .getfield 7, 12, 0, 152, .null), (23, .bipush 6, 0, 0, 0, .int (nI 6))]
theorem t_s_M_work_3 : s_M_work_3.all (am_ok 12 cX12_work) = true := by decide +kernel
theorem d_X12_work_25 : decode cX12_work 25 = .ok (.iaload, 1) := by decide +kernel
def s_M_work_4 : List am_Q := [(26, .bipush 6, 0, 0, 0, .int (nI 6))]
theorem t_s_M_work_4 : s_M_work_4.all (am_ok 12 cX12_work) = true := by decide +kernel
theorem d_X12_work_28 : decode cX12_work 28 = .ok (.if_icmp .ne 6, 3) := by decide +kernel
def s_M_work_5 : List am_Q := [(34, .sipush 940, 0, 0, 0, .int (nI 940)), (37, .bipush 10, 0, 0, 0, .int (nI 10)), (39, .aload_n 0, 0, 0, 0, .null), (40, .getfield 7, 12, 0, 152, .null), (43, .bipush 6, 0, 0, 0, .int (nI 6))]
theorem t_s_M_work_5 : s_M_work_5.all (am_ok 12 cX12_work) = true := by decide +kernel
theorem d_X12_work_45 : decode cX12_work 45 = .ok (.iaload, 1) := by decide +kernel
def s_M_work_6 : List am_Q := [(46, .imul, 0, 0, 0, .null), (47, .iadd, 0, 0, 0, .null), (48, .istore_n 3, 0, 0, 0, .null), (49, .iconst 0, 0, 0, 0, .int (nI 0)), (50, .istore 4, 0, 0, 0, .null)]
theorem t_s_M_work_6 : s_M_work_6.all (am_ok 12 cX12_work) = true := by decide +kernel
def s_M_work_7 : List am_Q := [(52, .iload 4, 0, 0, 0, .null), (54, .bipush 10, 0, 0, 0, .int (nI 10))]
theorem t_s_M_work_7 : s_M_work_7.all (am_ok 12 cX12_work) = true := by decide +kernel
theorem d_X12_work_56 : decode cX12_work 56 = .ok (.if_icmp .ge 19, 3) := by decide +kernel
def s_M_work_8 : List am_Q := [(75, .aload_n 0, 0, 0, 0, .null), (76, .getfield 7, 12, 0, 152, .null), (79, .iload_n 3, 0, 0, 0, .null), (80, .iload_n 1, 0, 0, 0, .null)]
theorem t_s_M_work_8 : s_M_work_8.all (am_ok 12 cX12_work) = true := by decide +kernel
theorem d_X12_work_81 : decode cX12_work 81 = .ok (.iastore, 1) := by decide +kernel
def s_M_work_9 : List am_Q := [(82, .aload_n 0, 0, 0, 0, .null), (83, .getfield 7, 12, 0, 152, .null), (86, .iload_n 3, 0, 0, 0, .null), (87, .iconst 1, 0, 0, 0, .int (nI 1)), (88, .iadd, 0, 0, 0, .null), (89, .iload_n 2, 0, 0, 0, .null)]
theorem t_s_M_work_9 : s_M_work_9.all (am_ok 12 cX12_work) = true := by decide +kernel
theorem d_X12_work_90 : decode cX12_work 90 = .ok (.iastore, 1) := by decide +kernel
def s_M_work_10 : List am_Q := [(91, .aload_n 0, 0, 0, 0, .null), (92, .getfield 7, 12, 0, 152, .null), (95, .bipush 6, 0, 0, 0, .int (nI 6)), (97, .dup2, 0, 0, 0, .null)]
theorem t_s_M_work_10 : s_M_work_10.all (am_ok 12 cX12_work) = true := by decide +kernel
theorem d_X12_work_98 : decode cX12_work 98 = .ok (.iaload, 1) := by decide +kernel
def s_M_work_11 : List am_Q := [(99, .iconst 1, 0, 0, 0, .int (nI 1)), (100, .iadd, 0, 0, 0, .null)]
theorem t_s_M_work_11 : s_M_work_11.all (am_ok 12 cX12_work) = true := by decide +kernel
theorem d_X12_work_101 : decode cX12_work 101 = .ok (.iastore, 1) := by decide +kernel
def s_M_work_12 : List am_Q := [(102, .aload_n 0, 0, 0, 0, .null), (103, .getfield 7, 12, 0, 152, .null), (106, .bipush 6, 0, 0, 0, .int (nI 6))]
theorem t_s_M_work_12 : s_M_work_12.all (am_ok 12 cX12_work) = true := by decide +kernel
theorem d_X12_work_108 : decode cX12_work 108 = .ok (.iaload, 1) := by decide +kernel
def s_M_work_13 : List am_Q := [(109, .iconst 1, 0, 0, 0, .int (nI 1)), (110, .isub, 0, 0, 0, .null)]
theorem t_s_M_work_13 : s_M_work_13.all (am_ok 12 cX12_work) = true := by decide +kernel
theorem d_X12_work_111 : decode cX12_work 111 = .ok (.ireturn, 1) := by decide +kernel
def s_M_work_14 : List am_Q := [(59, .aload_n 0, 0, 0, 0, .null), (60, .getfield 7, 12, 0, 152, .null), (63, .iload_n 3, 0, 0, 0, .null), (64, .iload 4, 0, 0, 0, .null), (66, .iadd, 0, 0, 0, .null), (67, .iconst 0, 0, 0, 0, .int (nI 0))]
theorem t_s_M_work_14 : s_M_work_14.all (am_ok 12 cX12_work) = true := by decide +kernel
theorem d_X12_work_68 : decode cX12_work 68 = .ok (.iastore, 1) := by decide +kernel
def s_M_work_15 : List am_Q := [(69, .iinc 4 1, 0, 0, 0, .int (nI 1)), (72, .goto (-20), 52, 0, 0, .null)]
theorem t_s_M_work_15 : s_M_work_15.all (am_ok 12 cX12_work) = true := by decide +kernel
def s_M_work_16 : List am_Q := [(31, .bipush (-2), 0, 0, 0, .int (-2 : Int32))]
theorem t_s_M_work_16 : s_M_work_16.all (am_ok 12 cX12_work) = true := by decide +kernel
theorem d_X12_work_33 : decode cX12_work 33 = .ok (.ireturn, 1) := by decide +kernel
def s_M_work_17 : List am_Q := [(17, .iconst (-1), 0, 0, 0, .int (-1 : Int32))]
theorem t_s_M_work_17 : s_M_work_17.all (am_ok 12 cX12_work) = true := by decide +kernel
def M_work_52 : Nat → am_T → Int32 → Int32 → Int32 → Int32 → Option (Int32 × am_T)
  | 0, _, _, _, _, _ => none
  | n + 1, τ, a1, a2, a3, a4 =>
    if (nI 10) ≤ a4 then
  (am_g (am_in a3 1060) (am_g (am_in (a3 + (nI 1)) 1060) (some ((((am_si (am_si (am_si τ 141 (a3.toNatClampNeg) a1) 141 ((a3 + (nI 1)).toNatClampNeg) a2) 141 6 (((am_si (am_si τ 141 (a3.toNatClampNeg) a1) 141 ((a3 + (nI 1)).toNatClampNeg) a2).1 141 6) + (nI 1))).1 141 6) - (nI 1)), (am_si (am_si (am_si τ 141 (a3.toNatClampNeg) a1) 141 ((a3 + (nI 1)).toNatClampNeg) a2) 141 6 (((am_si (am_si τ 141 (a3.toNatClampNeg) a1) 141 ((a3 + (nI 1)).toNatClampNeg) a2).1 141 6) + (nI 1)))))))
else
  (am_g (am_in (a3 + a4) 1060) ((M_work_52 n) (am_si τ 141 ((a3 + a4).toNatClampNeg) (nI 0)) a1 a2 a3 (a4 + (nI 1))))
set_option maxRecDepth 20000 in
theorem ok_M_work_52 {X : am_X} {v : Int32} {τ' : am_T} (hF : am_F X "ShareHouseModel" cX12_work 5) (hR : am_R X 2 42) (hB : am_B X (some .int) (some (.int v)) (am_D τ')) : ∀ (n : Nat) (τ : am_T) (a1 : Int32) (a2 : Int32) (a3 : Int32) (a4 : Int32), M_work_52 n τ a1 a2 a3 a4 = some (v, τ') → am_W X 5 (52, [(0, .ref 140), (1, .int a1), (2, .int a2), (3, .int a3), (4, .int a4)], [], am_D τ) := by
  intro n
  induction n with
  | zero => intro τ a1 a2 a3 a4 h; unfold M_work_52 at h; cases h
  | succ n ih =>
    intro τ a1 a2 a3 a4 h
    unfold M_work_52 at h
    refine am_seg s_M_work_7 (y := (56, [(0, .ref 140), (1, .int a1), (2, .int a2), (3, .int a3), (4, .int a4)], [.int (nI 10), .int a4], am_D τ)) hF t_s_M_work_7 rfl rfl ?_
    refine am_ite h (fun hc h => ?_) (fun hc h => ?_)
    · refine am_icmp_ge_t (t := 75) d_X12_work_56 (by decide) hc hF ?_
      refine am_seg s_M_work_8 (y := (81, [(0, .ref 140), (1, .int a1), (2, .int a2), (3, .int a3), (4, .int a4)], [.int a1, .int a3, .ref 141], am_D τ)) hF t_s_M_work_8 rfl rfl ?_
      refine am_gd h (fun hi h => ?_)
      refine am_iast (n := 1060) (j := (a3.toNatClampNeg)) d_X12_work_81 (Nat.le_of_ble_eq_true rfl) (Nat.le_of_ble_eq_true rfl) rfl hi rfl hF ?_
      refine am_seg s_M_work_9 (y := (90, [(0, .ref 140), (1, .int a1), (2, .int a2), (3, .int a3), (4, .int a4)], [.int a2, .int (a3 + (nI 1)), .ref 141], am_D (am_si τ 141 (a3.toNatClampNeg) a1))) hF t_s_M_work_9 rfl rfl ?_
      refine am_gd h (fun hi h => ?_)
      refine am_iast (n := 1060) (j := ((a3 + (nI 1)).toNatClampNeg)) d_X12_work_90 (Nat.le_of_ble_eq_true rfl) (Nat.le_of_ble_eq_true rfl) rfl hi rfl hF ?_
      refine am_seg s_M_work_10 (y := (98, [(0, .ref 140), (1, .int a1), (2, .int a2), (3, .int a3), (4, .int a4)], [.int (nI 6), .ref 141, .int (nI 6), .ref 141], am_D (am_si (am_si τ 141 (a3.toNatClampNeg) a1) 141 ((a3 + (nI 1)).toNatClampNeg) a2))) hF t_s_M_work_10 rfl rfl ?_
      refine am_iald (n := 1060) (j := 6) d_X12_work_98 (Nat.le_of_ble_eq_true rfl) (Nat.le_of_ble_eq_true rfl) rfl (by decide) rfl hF ?_
      refine am_seg s_M_work_11 (y := (101, [(0, .ref 140), (1, .int a1), (2, .int a2), (3, .int a3), (4, .int a4)], [.int (((am_si (am_si τ 141 (a3.toNatClampNeg) a1) 141 ((a3 + (nI 1)).toNatClampNeg) a2).1 141 6) + (nI 1)), .int (nI 6), .ref 141], am_D (am_si (am_si τ 141 (a3.toNatClampNeg) a1) 141 ((a3 + (nI 1)).toNatClampNeg) a2))) hF t_s_M_work_11 rfl rfl ?_
      refine am_iast (n := 1060) (j := 6) d_X12_work_101 (Nat.le_of_ble_eq_true rfl) (Nat.le_of_ble_eq_true rfl) rfl (by decide) rfl hF ?_
      refine am_seg s_M_work_12 (y := (108, [(0, .ref 140), (1, .int a1), (2, .int a2), (3, .int a3), (4, .int a4)], [.int (nI 6), .ref 141], am_D (am_si (am_si (am_si τ 141 (a3.toNatClampNeg) a1) 141 ((a3 + (nI 1)).toNatClampNeg) a2) 141 6 (((am_si (am_si τ 141 (a3.toNatClampNeg) a1) 141 ((a3 + (nI 1)).toNatClampNeg) a2).1 141 6) + (nI 1))))) hF t_s_M_work_12 rfl rfl ?_
      refine am_iald (n := 1060) (j := 6) d_X12_work_108 (Nat.le_of_ble_eq_true rfl) (Nat.le_of_ble_eq_true rfl) rfl (by decide) rfl hF ?_
      refine am_seg s_M_work_13 (y := (111, [(0, .ref 140), (1, .int a1), (2, .int a2), (3, .int a3), (4, .int a4)], [.int (((am_si (am_si (am_si τ 141 (a3.toNatClampNeg) a1) 141 ((a3 + (nI 1)).toNatClampNeg) a2) 141 6 (((am_si (am_si τ 141 (a3.toNatClampNeg) a1) 141 ((a3 + (nI 1)).toNatClampNeg) a2).1 141 6) + (nI 1))).1 141 6) - (nI 1))], am_D (am_si (am_si (am_si τ 141 (a3.toNatClampNeg) a1) 141 ((a3 + (nI 1)).toNatClampNeg) a2) 141 6 (((am_si (am_si τ 141 (a3.toNatClampNeg) a1) 141 ((a3 + (nI 1)).toNatClampNeg) a2).1 141 6) + (nI 1))))) hF t_s_M_work_13 rfl rfl ?_
      obtain ⟨rfl, rfl⟩ := am_pair h
      exact am_iret d_X12_work_111 hF hB
    · refine am_icmp_ge_f (t := 75) d_X12_work_56 (by decide) hc hF ?_
      refine am_seg s_M_work_14 (y := (68, [(0, .ref 140), (1, .int a1), (2, .int a2), (3, .int a3), (4, .int a4)], [.int (nI 0), .int (a3 + a4), .ref 141], am_D τ)) hF t_s_M_work_14 rfl rfl ?_
      refine am_gd h (fun hi h => ?_)
      refine am_iast (n := 1060) (j := ((a3 + a4).toNatClampNeg)) d_X12_work_68 (Nat.le_of_ble_eq_true rfl) (Nat.le_of_ble_eq_true rfl) rfl hi rfl hF ?_
      refine am_seg s_M_work_15 (y := (52, [(4, .int (a4 + (nI 1))), (0, .ref 140), (1, .int a1), (2, .int a2), (3, .int a3)], [], am_D (am_si τ 141 ((a3 + a4).toNatClampNeg) (nI 0)))) hF t_s_M_work_15 rfl rfl ?_
      refine am_pick [1, 2, 3, 4, 0] rfl ?_
      exact ih _ _ _ _ _ h
def M_work (τ : am_T) (a1 : Int32) (a2 : Int32) : Option (Int32 × am_T) :=
  (M_isHead τ a1).bind (fun x1 =>
  if x1.1 = 0 then
  (some ((-1 : Int32), x1.2))
else
  ((M_in x1.2 a2 (nI 1) (nI 99999)).bind (fun x2 =>
  if x2.1 = 0 then
  (some ((-1 : Int32), x2.2))
else
  (if (x2.2.1 141 6) = (nI 6) then
  (some ((-2 : Int32), x2.2))
else
  (M_work_52 5000 x2.2 a1 a2 ((nI 940) + ((nI 10) * (x2.2.1 141 6))) (nI 0))))))
set_option maxRecDepth 20000 in
theorem ok_M_work {X : am_X} {a1 : Int32} {a2 : Int32} {v : Int32} {τ τ' : am_T} (hF : am_F X "ShareHouseModel" cX12_work 5) (hR : am_R X 2 42) (hB : am_B X (some .int) (some (.int v)) (am_D τ')) (h : M_work τ a1 a2 = some (v, τ')) : am_W X 5 (0, [(0, .ref 140), (1, .int a1), (2, .int a2)], [], am_D τ) := by
  unfold M_work at h
  refine am_seg s_M_work_0 (y := (1, [(0, .ref 140), (1, .int a1), (2, .int a2)], [.int a1], am_D τ)) hF t_s_M_work_0 rfl rfl ?_
  refine am_bd h (fun x1 hx h => ?_)
  refine am_callS (As := [.int a1]) (r := (some (.int x1.1))) (st := []) (σ' := am_D x1.2) hF hR d_X12_work_1 (c_M_isHead (τ' := x1.2) hx) (Nat.le_refl _) (Nat.le_refl _) wl_M_203 ws_yX12_isHead wn_ShareHouseModel wc_yX12_isHead wy_yX12_isHead rfl ⟨by decide, by decide⟩ (Nat.le_of_ble_eq_true rfl) ?_
  refine am_ite h (fun hc h => ?_) (fun hc h => ?_)
  · refine am_if_eq_t (t := 17) d_X12_work_4 (by decide) hc hF ?_
    refine am_seg s_M_work_1 (y := (18, [(0, .ref 140), (1, .int a1), (2, .int a2)], [.int (-1 : Int32)], am_D x1.2)) hF t_s_M_work_1 rfl rfl ?_
    obtain ⟨rfl, rfl⟩ := am_pair h
    exact am_iret d_X12_work_18 hF hB
  · refine am_if_eq_f (t := 17) d_X12_work_4 (by decide) hc hF ?_
    refine am_seg s_M_work_2 (y := (11, [(0, .ref 140), (1, .int a1), (2, .int a2)], [.int (nI 99999), .int (nI 1), .int a2], am_D x1.2)) hF t_s_M_work_2 rfl rfl ?_
    refine am_bd h (fun x2 hx h => ?_)
    refine am_callS (As := [.int a2, .int (nI 1), .int (nI 99999)]) (r := (some (.int x2.1))) (st := []) (σ' := am_D x2.2) hF hR d_X12_work_11 (c_M_in (τ' := x2.2) hx) (Nat.le_refl _) (Nat.le_refl _) wl_M_51 ws_yX12_in wn_ShareHouseModel wc_yX12_in wy_yX12_in rfl ⟨by decide, by decide⟩ (Nat.le_of_ble_eq_true rfl) ?_
    refine am_ite h (fun hc h => ?_) (fun hc h => ?_)
    · refine am_if_ne_f (t := 19) d_X12_work_14 (by decide) hc hF ?_
      refine am_seg s_M_work_17 (y := (18, [(0, .ref 140), (1, .int a1), (2, .int a2)], [.int (-1 : Int32)], am_D x2.2)) hF t_s_M_work_17 rfl rfl ?_
      obtain ⟨rfl, rfl⟩ := am_pair h
      exact am_iret d_X12_work_18 hF hB
    · refine am_if_ne_t (t := 19) d_X12_work_14 (by decide) hc hF ?_
      refine am_seg s_M_work_3 (y := (25, [(0, .ref 140), (1, .int a1), (2, .int a2)], [.int (nI 6), .ref 141], am_D x2.2)) hF t_s_M_work_3 rfl rfl ?_
      refine am_iald (n := 1060) (j := 6) d_X12_work_25 (Nat.le_of_ble_eq_true rfl) (Nat.le_of_ble_eq_true rfl) rfl (by decide) rfl hF ?_
      refine am_seg s_M_work_4 (y := (28, [(0, .ref 140), (1, .int a1), (2, .int a2)], [.int (nI 6), .int (x2.2.1 141 6)], am_D x2.2)) hF t_s_M_work_4 rfl rfl ?_
      refine am_ite h (fun hc h => ?_) (fun hc h => ?_)
      · refine am_icmp_ne_f (t := 34) d_X12_work_28 (by decide) hc hF ?_
        refine am_seg s_M_work_16 (y := (33, [(0, .ref 140), (1, .int a1), (2, .int a2)], [.int (-2 : Int32)], am_D x2.2)) hF t_s_M_work_16 rfl rfl ?_
        obtain ⟨rfl, rfl⟩ := am_pair h
        exact am_iret d_X12_work_33 hF hB
      · refine am_icmp_ne_t (t := 34) d_X12_work_28 (by decide) hc hF ?_
        refine am_seg s_M_work_5 (y := (45, [(0, .ref 140), (1, .int a1), (2, .int a2)], [.int (nI 6), .ref 141, .int (nI 10), .int (nI 940)], am_D x2.2)) hF t_s_M_work_5 rfl rfl ?_
        refine am_iald (n := 1060) (j := 6) d_X12_work_45 (Nat.le_of_ble_eq_true rfl) (Nat.le_of_ble_eq_true rfl) rfl (by decide) rfl hF ?_
        refine am_seg s_M_work_6 (y := (52, [(4, .int (nI 0)), (3, .int ((nI 940) + ((nI 10) * (x2.2.1 141 6)))), (0, .ref 140), (1, .int a1), (2, .int a2)], [], am_D x2.2)) hF t_s_M_work_6 rfl rfl ?_
        refine am_pick [2, 3, 4, 1, 0] rfl ?_
        exact ok_M_work_52 hF hR hB _ _ _ _ _ _ h
theorem c_M_work {a1 : Int32} {a2 : Int32} {v : Int32} {τ τ' : am_T} (h : M_work τ a1 a2 = some (v, τ')) : am_C yX12_work cX12_work 5 (some .int) 2 42 [.ref 140, .int a1, .int a2] (am_D τ) (some (.int v)) (am_D τ') :=
  am_enter (by decide +kernel) (Nat.le_of_ble_eq_true rfl) ⟨Nat.le_refl _, Nat.le_refl _⟩ (fun X hF hR hB => ok_M_work hF hR hB h)
def s_M_isWork_0 : List am_Q := [(0, .iload_n 1, 0, 0, 0, .null), (1, .iconst 0, 0, 0, 0, .int (nI 0)), (2, .aload_n 0, 0, 0, 0, .null), (3, .getfield 7, 12, 0, 152, .null), (6, .bipush 6, 0, 0, 0, .int (nI 6))]
theorem t_s_M_isWork_0 : s_M_isWork_0.all (am_ok 12 cX12_isWork) = true := by decide +kernel
theorem d_X12_isWork_8 : decode cX12_isWork 8 = .ok (.iaload, 1) := by decide +kernel
def s_M_isWork_1 : List am_Q := [(9, .iconst 1, 0, 0, 0, .int (nI 1)), (10, .isub, 0, 0, 0, .null)]
theorem t_s_M_isWork_1 : s_M_isWork_1.all (am_ok 12 cX12_isWork) = true := by decide +kernel
theorem d_X12_isWork_11 : decode cX12_isWork 11 = .ok (.invokestatic 51, 3) := by decide +kernel
theorem d_X12_isWork_14 : decode cX12_isWork 14 = .ok (.ireturn, 1) := by decide +kernel
def M_isWork (τ : am_T) (a1 : Int32) : Option (Int32 × am_T) :=
  (M_in τ a1 (nI 0) ((τ.1 141 6) - (nI 1))).bind (fun x1 =>
  am_g (am_z01 x1.1) (some (x1.1, x1.2)))
set_option maxRecDepth 20000 in
theorem ok_M_isWork {X : am_X} {a1 : Int32} {v : Int32} {τ τ' : am_T} (hF : am_F X "ShareHouseModel" cX12_isWork 2) (hR : am_R X 1 22) (hB : am_B X (some .boolean) (some (.int v)) (am_D τ')) (h : M_isWork τ a1 = some (v, τ')) : am_W X 2 (0, [(0, .ref 140), (1, .int a1)], [], am_D τ) := by
  unfold M_isWork at h
  refine am_seg s_M_isWork_0 (y := (8, [(0, .ref 140), (1, .int a1)], [.int (nI 6), .ref 141, .int (nI 0), .int a1], am_D τ)) hF t_s_M_isWork_0 rfl rfl ?_
  refine am_iald (n := 1060) (j := 6) d_X12_isWork_8 (Nat.le_of_ble_eq_true rfl) (Nat.le_of_ble_eq_true rfl) rfl (by decide) rfl hF ?_
  refine am_seg s_M_isWork_1 (y := (11, [(0, .ref 140), (1, .int a1)], [.int ((τ.1 141 6) - (nI 1)), .int (nI 0), .int a1], am_D τ)) hF t_s_M_isWork_1 rfl rfl ?_
  refine am_bd h (fun x1 hx h => ?_)
  refine am_callS (As := [.int a1, .int (nI 0), .int ((τ.1 141 6) - (nI 1))]) (r := (some (.int x1.1))) (st := []) (σ' := am_D x1.2) hF hR d_X12_isWork_11 (c_M_in (τ' := x1.2) hx) (Nat.le_refl _) (Nat.le_refl _) wl_M_51 ws_yX12_in wn_ShareHouseModel wc_yX12_in wy_yX12_in rfl ⟨by decide, by decide⟩ (Nat.le_of_ble_eq_true rfl) ?_
  refine am_gd h (fun hz h => ?_)
  obtain ⟨rfl, rfl⟩ := am_pair h
  exact am_zret d_X12_isWork_14 (am_z01_n hz) hF hB
theorem c_M_isWork {a1 : Int32} {v : Int32} {τ τ' : am_T} (h : M_isWork τ a1 = some (v, τ')) : am_C yX12_isWork cX12_isWork 2 (some .boolean) 1 22 [.ref 140, .int a1] (am_D τ) (some (.int v)) (am_D τ') :=
  am_enter (by decide +kernel) (Nat.le_of_ble_eq_true rfl) ⟨Nat.le_refl _, Nat.le_refl _⟩ (fun X hF hR hB => ok_M_isWork hF hR hB h)
def s_M_workOf_0 : List am_Q := [(0, .aload_n 0, 0, 0, 0, .null), (1, .getfield 7, 12, 0, 152, .null), (4, .sipush 940, 0, 0, 0, .int (nI 940)), (7, .bipush 10, 0, 0, 0, .int (nI 10)), (9, .iload_n 1, 0, 0, 0, .null), (10, .imul, 0, 0, 0, .null), (11, .iadd, 0, 0, 0, .null), (12, .iload_n 2, 0, 0, 0, .null), (13, .iadd, 0, 0, 0, .null)]
theorem t_s_M_workOf_0 : s_M_workOf_0.all (am_ok 12 cX12_workOf) = true := by decide +kernel
theorem d_X12_workOf_14 : decode cX12_workOf 14 = .ok (.iaload, 1) := by decide +kernel
theorem d_X12_workOf_15 : decode cX12_workOf 15 = .ok (.ireturn, 1) := by decide +kernel
def M_workOf (τ : am_T) (a1 : Int32) (a2 : Int32) : Option (Int32 × am_T) :=
  am_g (am_in (((nI 940) + ((nI 10) * a1)) + a2) 1060) (some ((τ.1 141 ((((nI 940) + ((nI 10) * a1)) + a2).toNatClampNeg)), τ))
set_option maxRecDepth 20000 in
theorem ok_M_workOf {X : am_X} {a1 : Int32} {a2 : Int32} {v : Int32} {τ τ' : am_T} (hF : am_F X "ShareHouseModel" cX12_workOf 3) (hR : am_R X 0 0) (hB : am_B X (some .int) (some (.int v)) (am_D τ')) (h : M_workOf τ a1 a2 = some (v, τ')) : am_W X 3 (0, [(0, .ref 140), (1, .int a1), (2, .int a2)], [], am_D τ) := by
  unfold M_workOf at h
  refine am_seg s_M_workOf_0 (y := (14, [(0, .ref 140), (1, .int a1), (2, .int a2)], [.int (((nI 940) + ((nI 10) * a1)) + a2), .ref 141], am_D τ)) hF t_s_M_workOf_0 rfl rfl ?_
  refine am_gd h (fun hi h => ?_)
  refine am_iald (n := 1060) (j := ((((nI 940) + ((nI 10) * a1)) + a2).toNatClampNeg)) d_X12_workOf_14 (Nat.le_of_ble_eq_true rfl) (Nat.le_of_ble_eq_true rfl) rfl hi rfl hF ?_
  obtain ⟨rfl, rfl⟩ := am_pair h
  exact am_iret d_X12_workOf_15 hF hB
theorem c_M_workOf {a1 : Int32} {a2 : Int32} {v : Int32} {τ τ' : am_T} (h : M_workOf τ a1 a2 = some (v, τ')) : am_C yX12_workOf cX12_workOf 3 (some .int) 0 0 [.ref 140, .int a1, .int a2] (am_D τ) (some (.int v)) (am_D τ') :=
  am_enter (by decide +kernel) (Nat.le_of_ble_eq_true rfl) ⟨Nat.le_refl _, Nat.le_refl _⟩ (fun X hF hR hB => ok_M_workOf hF hR hB h)
def s_M_letter_0 : List am_Q := [(0, .aload_n 0, 0, 0, 0, .null), (1, .iload_n 1, 0, 0, 0, .null)]
theorem t_s_M_letter_0 : s_M_letter_0.all (am_ok 12 cX12_letter) = true := by decide +kernel
theorem d_X12_letter_2 : decode cX12_letter 2 = .ok (.invokevirtual 281, 3) := by decide +kernel
theorem d_X12_letter_5 : decode cX12_letter 5 = .ok (.ifCond .ne 5, 3) := by decide +kernel
def s_M_letter_1 : List am_Q := [(10, .aload_n 0, 0, 0, 0, .null), (11, .iload_n 1, 0, 0, 0, .null), (12, .iconst 2, 0, 0, 0, .int (nI 2))]
theorem t_s_M_letter_1 : s_M_letter_1.all (am_ok 12 cX12_letter) = true := by decide +kernel
theorem d_X12_letter_13 : decode cX12_letter 13 = .ok (.invokevirtual 284, 3) := by decide +kernel
def s_M_letter_2 : List am_Q := [(16, .iconst 1, 0, 0, 0, .int (nI 1))]
theorem t_s_M_letter_2 : s_M_letter_2.all (am_ok 12 cX12_letter) = true := by decide +kernel
theorem d_X12_letter_17 : decode cX12_letter 17 = .ok (.if_icmp .ne 6, 3) := by decide +kernel
def s_M_letter_3 : List am_Q := [(23, .aload_n 0, 0, 0, 0, .null), (24, .iload_n 1, 0, 0, 0, .null), (25, .iconst 3, 0, 0, 0, .int (nI 3))]
theorem t_s_M_letter_3 : s_M_letter_3.all (am_ok 12 cX12_letter) = true := by decide +kernel
theorem d_X12_letter_26 : decode cX12_letter 26 = .ok (.invokevirtual 284, 3) := by decide +kernel
def s_M_letter_4 : List am_Q := [(29, .istore_n 2, 0, 0, 0, .null), (30, .iload_n 2, 0, 0, 0, .null), (31, .iconst 2, 0, 0, 0, .int (nI 2))]
theorem t_s_M_letter_4 : s_M_letter_4.all (am_ok 12 cX12_letter) = true := by decide +kernel
theorem d_X12_letter_32 : decode cX12_letter 32 = .ok (.if_icmp .ne 6, 3) := by decide +kernel
def s_M_letter_5 : List am_Q := [(38, .aload_n 0, 0, 0, 0, .null), (39, .getfield 7, 12, 0, 152, .null), (42, .sipush 940, 0, 0, 0, .int (nI 940)), (45, .bipush 10, 0, 0, 0, .int (nI 10)), (47, .iload_n 1, 0, 0, 0, .null), (48, .imul, 0, 0, 0, .null), (49, .iadd, 0, 0, 0, .null), (50, .iconst 4, 0, 0, 0, .int (nI 4)), (51, .iadd, 0, 0, 0, .null), (52, .iload_n 2, 0, 0, 0, .null), (53, .iadd, 0, 0, 0, .null), (54, .aload_n 0, 0, 0, 0, .null), (55, .getfield 7, 12, 0, 152, .null), (58, .iconst 0, 0, 0, 0, .int (nI 0))]
theorem t_s_M_letter_5 : s_M_letter_5.all (am_ok 12 cX12_letter) = true := by decide +kernel
theorem d_X12_letter_59 : decode cX12_letter 59 = .ok (.iaload, 1) := by decide +kernel
theorem d_X12_letter_60 : decode cX12_letter 60 = .ok (.iastore, 1) := by decide +kernel
def s_M_letter_6 : List am_Q := [(61, .aload_n 0, 0, 0, 0, .null), (62, .getfield 7, 12, 0, 152, .null), (65, .sipush 940, 0, 0, 0, .int (nI 940)), (68, .bipush 10, 0, 0, 0, .int (nI 10)), (70, .iload_n 1, 0, 0, 0, .null), (71, .imul, 0, 0, 0, .null), (72, .iadd, 0, 0, 0, .null), (73, .iconst 3, 0, 0, 0, .int (nI 3)), (74, .iadd, 0, 0, 0, .null), (75, .dup2, 0, 0, 0, .null)]
theorem t_s_M_letter_6 : s_M_letter_6.all (am_ok 12 cX12_letter) = true := by decide +kernel
theorem d_X12_letter_76 : decode cX12_letter 76 = .ok (.iaload, 1) := by decide +kernel
def s_M_letter_7 : List am_Q := [(77, .iconst 1, 0, 0, 0, .int (nI 1)), (78, .iadd, 0, 0, 0, .null)]
theorem t_s_M_letter_7 : s_M_letter_7.all (am_ok 12 cX12_letter) = true := by decide +kernel
theorem d_X12_letter_79 : decode cX12_letter 79 = .ok (.iastore, 1) := by decide +kernel
def s_M_letter_8 : List am_Q := [(80, .iload_n 2, 0, 0, 0, .null), (81, .iconst 1, 0, 0, 0, .int (nI 1)), (82, .iadd, 0, 0, 0, .null)]
theorem t_s_M_letter_8 : s_M_letter_8.all (am_ok 12 cX12_letter) = true := by decide +kernel
theorem d_X12_letter_83 : decode cX12_letter 83 = .ok (.ireturn, 1) := by decide +kernel
def s_M_letter_9 : List am_Q := [(35, .bipush (-2), 0, 0, 0, .int (-2 : Int32))]
theorem t_s_M_letter_9 : s_M_letter_9.all (am_ok 12 cX12_letter) = true := by decide +kernel
theorem d_X12_letter_37 : decode cX12_letter 37 = .ok (.ireturn, 1) := by decide +kernel
def s_M_letter_10 : List am_Q := [(20, .bipush (-4), 0, 0, 0, .int (-4 : Int32))]
theorem t_s_M_letter_10 : s_M_letter_10.all (am_ok 12 cX12_letter) = true := by decide +kernel
theorem d_X12_letter_22 : decode cX12_letter 22 = .ok (.ireturn, 1) := by decide +kernel
def s_M_letter_11 : List am_Q := [(8, .iconst (-1), 0, 0, 0, .int (-1 : Int32))]
theorem t_s_M_letter_11 : s_M_letter_11.all (am_ok 12 cX12_letter) = true := by decide +kernel
theorem d_X12_letter_9 : decode cX12_letter 9 = .ok (.ireturn, 1) := by decide +kernel
def M_letter (τ : am_T) (a1 : Int32) : Option (Int32 × am_T) :=
  (M_isWork τ a1).bind (fun x1 =>
  if x1.1 = 0 then
  (some ((-1 : Int32), x1.2))
else
  ((M_workOf x1.2 a1 (nI 2)).bind (fun x2 =>
  if x2.1 = (nI 1) then
  (some ((-4 : Int32), x2.2))
else
  ((M_workOf x2.2 a1 (nI 3)).bind (fun x3 =>
  if x3.1 = (nI 2) then
  (some ((-2 : Int32), x3.2))
else
  (am_g (am_in ((((nI 940) + ((nI 10) * a1)) + (nI 4)) + x3.1) 1060) (am_g (am_in (((nI 940) + ((nI 10) * a1)) + (nI 3)) 1060) (am_g (am_in (((nI 940) + ((nI 10) * a1)) + (nI 3)) 1060) (some ((x3.1 + (nI 1)), (am_si (am_si x3.2 141 (((((nI 940) + ((nI 10) * a1)) + (nI 4)) + x3.1).toNatClampNeg) (x3.2.1 141 0)) 141 ((((nI 940) + ((nI 10) * a1)) + (nI 3)).toNatClampNeg) (((am_si x3.2 141 (((((nI 940) + ((nI 10) * a1)) + (nI 4)) + x3.1).toNatClampNeg) (x3.2.1 141 0)).1 141 ((((nI 940) + ((nI 10) * a1)) + (nI 3)).toNatClampNeg)) + (nI 1)))))))))))))
set_option maxRecDepth 20000 in
theorem ok_M_letter {X : am_X} {a1 : Int32} {v : Int32} {τ τ' : am_T} (hF : am_F X "ShareHouseModel" cX12_letter 3) (hR : am_R X 2 43) (hB : am_B X (some .int) (some (.int v)) (am_D τ')) (h : M_letter τ a1 = some (v, τ')) : am_W X 3 (0, [(0, .ref 140), (1, .int a1)], [], am_D τ) := by
  unfold M_letter at h
  refine am_seg s_M_letter_0 (y := (2, [(0, .ref 140), (1, .int a1)], [.int a1, .ref 140], am_D τ)) hF t_s_M_letter_0 rfl rfl ?_
  refine am_bd h (fun x1 hx h => ?_)
  refine am_callV (As := [.int a1]) (r := (some (.int x1.1))) (st := []) (σ' := am_D x1.2) (ci := 12) hF hR d_X12_letter_2 (c_M_isWork (τ' := x1.2) hx) (Nat.le_refl _) (Nat.le_refl _) wl_M_281 wi_yX12_isWork we_yX12_isWork wn_ShareHouseModel wc_yX12_isWork (Nat.le_of_ble_eq_true rfl) (Nat.le_of_ble_eq_true rfl) rfl rfl wy_yX12_isWork rfl ⟨by decide, by decide⟩ (Nat.le_of_ble_eq_true rfl) ?_
  refine am_ite h (fun hc h => ?_) (fun hc h => ?_)
  · refine am_if_ne_f (t := 10) d_X12_letter_5 (by decide) hc hF ?_
    refine am_seg s_M_letter_11 (y := (9, [(0, .ref 140), (1, .int a1)], [.int (-1 : Int32)], am_D x1.2)) hF t_s_M_letter_11 rfl rfl ?_
    obtain ⟨rfl, rfl⟩ := am_pair h
    exact am_iret d_X12_letter_9 hF hB
  · refine am_if_ne_t (t := 10) d_X12_letter_5 (by decide) hc hF ?_
    refine am_seg s_M_letter_1 (y := (13, [(0, .ref 140), (1, .int a1)], [.int (nI 2), .int a1, .ref 140], am_D x1.2)) hF t_s_M_letter_1 rfl rfl ?_
    refine am_bd h (fun x2 hx h => ?_)
    refine am_callV (As := [.int a1, .int (nI 2)]) (r := (some (.int x2.1))) (st := []) (σ' := am_D x2.2) (ci := 12) hF hR d_X12_letter_13 (c_M_workOf (τ' := x2.2) hx) (Nat.le_refl _) (Nat.le_refl _) wl_M_284 wi_yX12_workOf we_yX12_workOf wn_ShareHouseModel wc_yX12_workOf (Nat.le_of_ble_eq_true rfl) (Nat.le_of_ble_eq_true rfl) rfl rfl wy_yX12_workOf rfl ⟨by decide, by decide⟩ (Nat.le_of_ble_eq_true rfl) ?_
    refine am_seg s_M_letter_2 (y := (17, [(0, .ref 140), (1, .int a1)], [.int (nI 1), .int x2.1], am_D x2.2)) hF t_s_M_letter_2 rfl rfl ?_
    refine am_ite h (fun hc h => ?_) (fun hc h => ?_)
    · refine am_icmp_ne_f (t := 23) d_X12_letter_17 (by decide) hc hF ?_
      refine am_seg s_M_letter_10 (y := (22, [(0, .ref 140), (1, .int a1)], [.int (-4 : Int32)], am_D x2.2)) hF t_s_M_letter_10 rfl rfl ?_
      obtain ⟨rfl, rfl⟩ := am_pair h
      exact am_iret d_X12_letter_22 hF hB
    · refine am_icmp_ne_t (t := 23) d_X12_letter_17 (by decide) hc hF ?_
      refine am_seg s_M_letter_3 (y := (26, [(0, .ref 140), (1, .int a1)], [.int (nI 3), .int a1, .ref 140], am_D x2.2)) hF t_s_M_letter_3 rfl rfl ?_
      refine am_bd h (fun x3 hx h => ?_)
      refine am_callV (As := [.int a1, .int (nI 3)]) (r := (some (.int x3.1))) (st := []) (σ' := am_D x3.2) (ci := 12) hF hR d_X12_letter_26 (c_M_workOf (τ' := x3.2) hx) (Nat.le_refl _) (Nat.le_refl _) wl_M_284 wi_yX12_workOf we_yX12_workOf wn_ShareHouseModel wc_yX12_workOf (Nat.le_of_ble_eq_true rfl) (Nat.le_of_ble_eq_true rfl) rfl rfl wy_yX12_workOf rfl ⟨by decide, by decide⟩ (Nat.le_of_ble_eq_true rfl) ?_
      refine am_seg s_M_letter_4 (y := (32, [(2, .int x3.1), (0, .ref 140), (1, .int a1)], [.int (nI 2), .int x3.1], am_D x3.2)) hF t_s_M_letter_4 rfl rfl ?_
      refine am_ite h (fun hc h => ?_) (fun hc h => ?_)
      · refine am_icmp_ne_f (t := 38) d_X12_letter_32 (by decide) hc hF ?_
        refine am_seg s_M_letter_9 (y := (37, [(2, .int x3.1), (0, .ref 140), (1, .int a1)], [.int (-2 : Int32)], am_D x3.2)) hF t_s_M_letter_9 rfl rfl ?_
        obtain ⟨rfl, rfl⟩ := am_pair h
        exact am_iret d_X12_letter_37 hF hB
      · refine am_icmp_ne_t (t := 38) d_X12_letter_32 (by decide) hc hF ?_
        refine am_seg s_M_letter_5 (y := (59, [(2, .int x3.1), (0, .ref 140), (1, .int a1)], [.int (nI 0), .ref 141, .int ((((nI 940) + ((nI 10) * a1)) + (nI 4)) + x3.1), .ref 141], am_D x3.2)) hF t_s_M_letter_5 rfl rfl ?_
        refine am_iald (n := 1060) (j := 0) d_X12_letter_59 (Nat.le_of_ble_eq_true rfl) (Nat.le_of_ble_eq_true rfl) rfl (by decide) rfl hF ?_
        refine am_gd h (fun hi h => ?_)
        refine am_iast (n := 1060) (j := (((((nI 940) + ((nI 10) * a1)) + (nI 4)) + x3.1).toNatClampNeg)) d_X12_letter_60 (Nat.le_of_ble_eq_true rfl) (Nat.le_of_ble_eq_true rfl) rfl hi rfl hF ?_
        refine am_seg s_M_letter_6 (y := (76, [(2, .int x3.1), (0, .ref 140), (1, .int a1)], [.int (((nI 940) + ((nI 10) * a1)) + (nI 3)), .ref 141, .int (((nI 940) + ((nI 10) * a1)) + (nI 3)), .ref 141], am_D (am_si x3.2 141 (((((nI 940) + ((nI 10) * a1)) + (nI 4)) + x3.1).toNatClampNeg) (x3.2.1 141 0)))) hF t_s_M_letter_6 rfl rfl ?_
        refine am_gd h (fun hi h => ?_)
        refine am_iald (n := 1060) (j := ((((nI 940) + ((nI 10) * a1)) + (nI 3)).toNatClampNeg)) d_X12_letter_76 (Nat.le_of_ble_eq_true rfl) (Nat.le_of_ble_eq_true rfl) rfl hi rfl hF ?_
        refine am_seg s_M_letter_7 (y := (79, [(2, .int x3.1), (0, .ref 140), (1, .int a1)], [.int (((am_si x3.2 141 (((((nI 940) + ((nI 10) * a1)) + (nI 4)) + x3.1).toNatClampNeg) (x3.2.1 141 0)).1 141 ((((nI 940) + ((nI 10) * a1)) + (nI 3)).toNatClampNeg)) + (nI 1)), .int (((nI 940) + ((nI 10) * a1)) + (nI 3)), .ref 141], am_D (am_si x3.2 141 (((((nI 940) + ((nI 10) * a1)) + (nI 4)) + x3.1).toNatClampNeg) (x3.2.1 141 0)))) hF t_s_M_letter_7 rfl rfl ?_
        refine am_gd h (fun hi h => ?_)
        refine am_iast (n := 1060) (j := ((((nI 940) + ((nI 10) * a1)) + (nI 3)).toNatClampNeg)) d_X12_letter_79 (Nat.le_of_ble_eq_true rfl) (Nat.le_of_ble_eq_true rfl) rfl hi rfl hF ?_
        refine am_seg s_M_letter_8 (y := (83, [(2, .int x3.1), (0, .ref 140), (1, .int a1)], [.int (x3.1 + (nI 1))], am_D (am_si (am_si x3.2 141 (((((nI 940) + ((nI 10) * a1)) + (nI 4)) + x3.1).toNatClampNeg) (x3.2.1 141 0)) 141 ((((nI 940) + ((nI 10) * a1)) + (nI 3)).toNatClampNeg) (((am_si x3.2 141 (((((nI 940) + ((nI 10) * a1)) + (nI 4)) + x3.1).toNatClampNeg) (x3.2.1 141 0)).1 141 ((((nI 940) + ((nI 10) * a1)) + (nI 3)).toNatClampNeg)) + (nI 1))))) hF t_s_M_letter_8 rfl rfl ?_
        obtain ⟨rfl, rfl⟩ := am_pair h
        exact am_iret d_X12_letter_83 hF hB
theorem c_M_letter {a1 : Int32} {v : Int32} {τ τ' : am_T} (h : M_letter τ a1 = some (v, τ')) : am_C yX12_letter cX12_letter 3 (some .int) 2 43 [.ref 140, .int a1] (am_D τ) (some (.int v)) (am_D τ') :=
  am_enter (by decide +kernel) (Nat.le_of_ble_eq_true rfl) ⟨Nat.le_refl _, Nat.le_refl _⟩ (fun X hF hR hB => ok_M_letter hF hR hB h)
def s_M_price_0 : List am_Q := [(0, .aload_n 0, 0, 0, 0, .null), (1, .iload_n 1, 0, 0, 0, .null)]
theorem t_s_M_price_0 : s_M_price_0.all (am_ok 12 cX12_price) = true := by decide +kernel
theorem d_X12_price_2 : decode cX12_price 2 = .ok (.invokevirtual 281, 3) := by decide +kernel
theorem d_X12_price_5 : decode cX12_price 5 = .ok (.ifCond .eq 13, 3) := by decide +kernel
def s_M_price_1 : List am_Q := [(18, .iconst (-1), 0, 0, 0, .int (-1 : Int32))]
theorem t_s_M_price_1 : s_M_price_1.all (am_ok 12 cX12_price) = true := by decide +kernel
theorem d_X12_price_19 : decode cX12_price 19 = .ok (.ireturn, 1) := by decide +kernel
def s_M_price_2 : List am_Q := [(8, .iload_n 2, 0, 0, 0, .null), (9, .iconst 1, 0, 0, 0, .int (nI 1)), (10, .ldc 222, 0, 0, 30, .int (nI 99999))]
theorem t_s_M_price_2 : s_M_price_2.all (am_ok 12 cX12_price) = true := by decide +kernel
theorem d_X12_price_12 : decode cX12_price 12 = .ok (.invokestatic 51, 3) := by decide +kernel
theorem d_X12_price_15 : decode cX12_price 15 = .ok (.ifCond .ne 5, 3) := by decide +kernel
def s_M_price_3 : List am_Q := [(20, .aload_n 0, 0, 0, 0, .null), (21, .iload_n 1, 0, 0, 0, .null), (22, .iconst 2, 0, 0, 0, .int (nI 2))]
theorem t_s_M_price_3 : s_M_price_3.all (am_ok 12 cX12_price) = true := by decide +kernel
theorem d_X12_price_23 : decode cX12_price 23 = .ok (.invokevirtual 284, 3) := by decide +kernel
def s_M_price_4 : List am_Q := [(26, .iconst 1, 0, 0, 0, .int (nI 1))]
theorem t_s_M_price_4 : s_M_price_4.all (am_ok 12 cX12_price) = true := by decide +kernel
theorem d_X12_price_27 : decode cX12_price 27 = .ok (.if_icmp .ne 6, 3) := by decide +kernel
def s_M_price_5 : List am_Q := [(33, .sipush 940, 0, 0, 0, .int (nI 940)), (36, .bipush 10, 0, 0, 0, .int (nI 10)), (38, .iload_n 1, 0, 0, 0, .null), (39, .imul, 0, 0, 0, .null), (40, .iadd, 0, 0, 0, .null), (41, .istore_n 3, 0, 0, 0, .null), (42, .aload_n 0, 0, 0, 0, .null), (43, .getfield 7, 12, 0, 152, .null), (46, .iload_n 3, 0, 0, 0, .null), (47, .bipush 6, 0, 0, 0, .int (nI 6)), (49, .iadd, 0, 0, 0, .null)]
theorem t_s_M_price_5 : s_M_price_5.all (am_ok 12 cX12_price) = true := by decide +kernel
theorem d_X12_price_50 : decode cX12_price 50 = .ok (.iaload, 1) := by decide +kernel
def s_M_price_6 : List am_Q := [(51, .iconst 4, 0, 0, 0, .int (nI 4))]
theorem t_s_M_price_6 : s_M_price_6.all (am_ok 12 cX12_price) = true := by decide +kernel
theorem d_X12_price_52 : decode cX12_price 52 = .ok (.if_icmp .ne 6, 3) := by decide +kernel
def s_M_price_7 : List am_Q := [(58, .aload_n 0, 0, 0, 0, .null), (59, .getfield 7, 12, 0, 152, .null), (62, .iload_n 3, 0, 0, 0, .null), (63, .bipush 6, 0, 0, 0, .int (nI 6)), (65, .iadd, 0, 0, 0, .null), (66, .dup2, 0, 0, 0, .null)]
theorem t_s_M_price_7 : s_M_price_7.all (am_ok 12 cX12_price) = true := by decide +kernel
theorem d_X12_price_67 : decode cX12_price 67 = .ok (.iaload, 1) := by decide +kernel
def s_M_price_8 : List am_Q := [(68, .iconst 1, 0, 0, 0, .int (nI 1)), (69, .iadd, 0, 0, 0, .null)]
theorem t_s_M_price_8 : s_M_price_8.all (am_ok 12 cX12_price) = true := by decide +kernel
theorem d_X12_price_70 : decode cX12_price 70 = .ok (.iastore, 1) := by decide +kernel
def s_M_price_9 : List am_Q := [(71, .aload_n 0, 0, 0, 0, .null), (72, .getfield 7, 12, 0, 152, .null), (75, .iload_n 3, 0, 0, 0, .null), (76, .bipush 7, 0, 0, 0, .int (nI 7)), (78, .iadd, 0, 0, 0, .null), (79, .iload_n 2, 0, 0, 0, .null), (80, .aload_n 0, 0, 0, 0, .null), (81, .getfield 7, 12, 0, 152, .null), (84, .iload_n 3, 0, 0, 0, .null), (85, .bipush 7, 0, 0, 0, .int (nI 7)), (87, .iadd, 0, 0, 0, .null)]
theorem t_s_M_price_9 : s_M_price_9.all (am_ok 12 cX12_price) = true := by decide +kernel
theorem d_X12_price_88 : decode cX12_price 88 = .ok (.iaload, 1) := by decide +kernel
theorem d_X12_price_89 : decode cX12_price 89 = .ok (.if_icmp .le 7, 3) := by decide +kernel
def s_M_price_10 : List am_Q := [(96, .aload_n 0, 0, 0, 0, .null), (97, .getfield 7, 12, 0, 152, .null), (100, .iload_n 3, 0, 0, 0, .null), (101, .bipush 7, 0, 0, 0, .int (nI 7)), (103, .iadd, 0, 0, 0, .null)]
theorem t_s_M_price_10 : s_M_price_10.all (am_ok 12 cX12_price) = true := by decide +kernel
theorem d_X12_price_104 : decode cX12_price 104 = .ok (.iaload, 1) := by decide +kernel
theorem d_X12_price_105 : decode cX12_price 105 = .ok (.iastore, 1) := by decide +kernel
def s_M_price_11 : List am_Q := [(106, .aload_n 0, 0, 0, 0, .null), (107, .getfield 7, 12, 0, 152, .null), (110, .iload_n 3, 0, 0, 0, .null), (111, .bipush 6, 0, 0, 0, .int (nI 6)), (113, .iadd, 0, 0, 0, .null)]
theorem t_s_M_price_11 : s_M_price_11.all (am_ok 12 cX12_price) = true := by decide +kernel
theorem d_X12_price_114 : decode cX12_price 114 = .ok (.iaload, 1) := by decide +kernel
theorem d_X12_price_115 : decode cX12_price 115 = .ok (.ireturn, 1) := by decide +kernel
def s_M_price_12 : List am_Q := [(92, .iload_n 2, 0, 0, 0, .null), (93, .goto 12, 105, 0, 0, .null)]
theorem t_s_M_price_12 : s_M_price_12.all (am_ok 12 cX12_price) = true := by decide +kernel
def s_M_price_13 : List am_Q := [(55, .bipush (-2), 0, 0, 0, .int (-2 : Int32))]
theorem t_s_M_price_13 : s_M_price_13.all (am_ok 12 cX12_price) = true := by decide +kernel
theorem d_X12_price_57 : decode cX12_price 57 = .ok (.ireturn, 1) := by decide +kernel
def s_M_price_14 : List am_Q := [(30, .bipush (-4), 0, 0, 0, .int (-4 : Int32))]
theorem t_s_M_price_14 : s_M_price_14.all (am_ok 12 cX12_price) = true := by decide +kernel
theorem d_X12_price_32 : decode cX12_price 32 = .ok (.ireturn, 1) := by decide +kernel
def s_M_price_15 : List am_Q := [(18, .iconst (-1), 0, 0, 0, .int (-1 : Int32))]
theorem t_s_M_price_15 : s_M_price_15.all (am_ok 12 cX12_price) = true := by decide +kernel
def M_price_105 (τ : am_T) (a3 : Int32) (s0 : Int32) (s1 : Int32) : Option (Int32 × am_T) :=
  am_g (am_in s1 1060) (am_g (am_in (a3 + (nI 6)) 1060) (some (((am_si τ 141 (s1.toNatClampNeg) s0).1 141 ((a3 + (nI 6)).toNatClampNeg)), (am_si τ 141 (s1.toNatClampNeg) s0))))
set_option maxRecDepth 20000 in
theorem ok_M_price_105 {X : am_X} {v : Int32} {τ' : am_T} (hF : am_F X "ShareHouseModel" cX12_price 4) (hR : am_R X 2 43) (hB : am_B X (some .int) (some (.int v)) (am_D τ')) {τ : am_T} {a3 : Int32} {s0 : Int32} {s1 : Int32} (h : M_price_105 τ a3 s0 s1 = some (v, τ')) : am_W X 4 (105, [(0, .ref 140), (3, .int a3)], [.int s0, .int s1, .ref 141], am_D τ) := by
  unfold M_price_105 at h
  refine am_gd h (fun hi h => ?_)
  refine am_iast (n := 1060) (j := (s1.toNatClampNeg)) d_X12_price_105 (Nat.le_of_ble_eq_true rfl) (Nat.le_of_ble_eq_true rfl) rfl hi rfl hF ?_
  refine am_seg s_M_price_11 (y := (114, [(0, .ref 140), (3, .int a3)], [.int (a3 + (nI 6)), .ref 141], am_D (am_si τ 141 (s1.toNatClampNeg) s0))) hF t_s_M_price_11 rfl rfl ?_
  refine am_gd h (fun hi h => ?_)
  refine am_iald (n := 1060) (j := ((a3 + (nI 6)).toNatClampNeg)) d_X12_price_114 (Nat.le_of_ble_eq_true rfl) (Nat.le_of_ble_eq_true rfl) rfl hi rfl hF ?_
  obtain ⟨rfl, rfl⟩ := am_pair h
  exact am_iret d_X12_price_115 hF hB
def M_price (τ : am_T) (a1 : Int32) (a2 : Int32) : Option (Int32 × am_T) :=
  (M_isWork τ a1).bind (fun x1 =>
  if x1.1 = 0 then
  (some ((-1 : Int32), x1.2))
else
  ((M_in x1.2 a2 (nI 1) (nI 99999)).bind (fun x2 =>
  if x2.1 = 0 then
  (some ((-1 : Int32), x2.2))
else
  ((M_workOf x2.2 a1 (nI 2)).bind (fun x3 =>
  if x3.1 = (nI 1) then
  (some ((-4 : Int32), x3.2))
else
  (am_g (am_in (((nI 940) + ((nI 10) * a1)) + (nI 6)) 1060) (if (x3.2.1 141 ((((nI 940) + ((nI 10) * a1)) + (nI 6)).toNatClampNeg)) = (nI 4) then
  (some ((-2 : Int32), x3.2))
else
  (am_g (am_in (((nI 940) + ((nI 10) * a1)) + (nI 6)) 1060) (am_g (am_in (((nI 940) + ((nI 10) * a1)) + (nI 6)) 1060) (am_g (am_in (((nI 940) + ((nI 10) * a1)) + (nI 7)) 1060) (if a2 ≤ ((am_si x3.2 141 ((((nI 940) + ((nI 10) * a1)) + (nI 6)).toNatClampNeg) ((x3.2.1 141 ((((nI 940) + ((nI 10) * a1)) + (nI 6)).toNatClampNeg)) + (nI 1))).1 141 ((((nI 940) + ((nI 10) * a1)) + (nI 7)).toNatClampNeg)) then
  (am_g (am_in (((nI 940) + ((nI 10) * a1)) + (nI 7)) 1060) (M_price_105 (am_si x3.2 141 ((((nI 940) + ((nI 10) * a1)) + (nI 6)).toNatClampNeg) ((x3.2.1 141 ((((nI 940) + ((nI 10) * a1)) + (nI 6)).toNatClampNeg)) + (nI 1))) ((nI 940) + ((nI 10) * a1)) ((am_si x3.2 141 ((((nI 940) + ((nI 10) * a1)) + (nI 6)).toNatClampNeg) ((x3.2.1 141 ((((nI 940) + ((nI 10) * a1)) + (nI 6)).toNatClampNeg)) + (nI 1))).1 141 ((((nI 940) + ((nI 10) * a1)) + (nI 7)).toNatClampNeg)) (((nI 940) + ((nI 10) * a1)) + (nI 7))))
else
  (M_price_105 (am_si x3.2 141 ((((nI 940) + ((nI 10) * a1)) + (nI 6)).toNatClampNeg) ((x3.2.1 141 ((((nI 940) + ((nI 10) * a1)) + (nI 6)).toNatClampNeg)) + (nI 1))) ((nI 940) + ((nI 10) * a1)) a2 (((nI 940) + ((nI 10) * a1)) + (nI 7))))))))))))))
set_option maxRecDepth 20000 in
theorem ok_M_price {X : am_X} {a1 : Int32} {a2 : Int32} {v : Int32} {τ τ' : am_T} (hF : am_F X "ShareHouseModel" cX12_price 4) (hR : am_R X 2 43) (hB : am_B X (some .int) (some (.int v)) (am_D τ')) (h : M_price τ a1 a2 = some (v, τ')) : am_W X 4 (0, [(0, .ref 140), (1, .int a1), (2, .int a2)], [], am_D τ) := by
  unfold M_price at h
  refine am_seg s_M_price_0 (y := (2, [(0, .ref 140), (1, .int a1), (2, .int a2)], [.int a1, .ref 140], am_D τ)) hF t_s_M_price_0 rfl rfl ?_
  refine am_bd h (fun x1 hx h => ?_)
  refine am_callV (As := [.int a1]) (r := (some (.int x1.1))) (st := []) (σ' := am_D x1.2) (ci := 12) hF hR d_X12_price_2 (c_M_isWork (τ' := x1.2) hx) (Nat.le_refl _) (Nat.le_refl _) wl_M_281 wi_yX12_isWork we_yX12_isWork wn_ShareHouseModel wc_yX12_isWork (Nat.le_of_ble_eq_true rfl) (Nat.le_of_ble_eq_true rfl) rfl rfl wy_yX12_isWork rfl ⟨by decide, by decide⟩ (Nat.le_of_ble_eq_true rfl) ?_
  refine am_ite h (fun hc h => ?_) (fun hc h => ?_)
  · refine am_if_eq_t (t := 18) d_X12_price_5 (by decide) hc hF ?_
    refine am_seg s_M_price_1 (y := (19, [(0, .ref 140), (1, .int a1), (2, .int a2)], [.int (-1 : Int32)], am_D x1.2)) hF t_s_M_price_1 rfl rfl ?_
    obtain ⟨rfl, rfl⟩ := am_pair h
    exact am_iret d_X12_price_19 hF hB
  · refine am_if_eq_f (t := 18) d_X12_price_5 (by decide) hc hF ?_
    refine am_seg s_M_price_2 (y := (12, [(0, .ref 140), (1, .int a1), (2, .int a2)], [.int (nI 99999), .int (nI 1), .int a2], am_D x1.2)) hF t_s_M_price_2 rfl rfl ?_
    refine am_bd h (fun x2 hx h => ?_)
    refine am_callS (As := [.int a2, .int (nI 1), .int (nI 99999)]) (r := (some (.int x2.1))) (st := []) (σ' := am_D x2.2) hF hR d_X12_price_12 (c_M_in (τ' := x2.2) hx) (Nat.le_refl _) (Nat.le_refl _) wl_M_51 ws_yX12_in wn_ShareHouseModel wc_yX12_in wy_yX12_in rfl ⟨by decide, by decide⟩ (Nat.le_of_ble_eq_true rfl) ?_
    refine am_ite h (fun hc h => ?_) (fun hc h => ?_)
    · refine am_if_ne_f (t := 20) d_X12_price_15 (by decide) hc hF ?_
      refine am_seg s_M_price_15 (y := (19, [(0, .ref 140), (1, .int a1), (2, .int a2)], [.int (-1 : Int32)], am_D x2.2)) hF t_s_M_price_15 rfl rfl ?_
      obtain ⟨rfl, rfl⟩ := am_pair h
      exact am_iret d_X12_price_19 hF hB
    · refine am_if_ne_t (t := 20) d_X12_price_15 (by decide) hc hF ?_
      refine am_seg s_M_price_3 (y := (23, [(0, .ref 140), (1, .int a1), (2, .int a2)], [.int (nI 2), .int a1, .ref 140], am_D x2.2)) hF t_s_M_price_3 rfl rfl ?_
      refine am_bd h (fun x3 hx h => ?_)
      refine am_callV (As := [.int a1, .int (nI 2)]) (r := (some (.int x3.1))) (st := []) (σ' := am_D x3.2) (ci := 12) hF hR d_X12_price_23 (c_M_workOf (τ' := x3.2) hx) (Nat.le_refl _) (Nat.le_refl _) wl_M_284 wi_yX12_workOf we_yX12_workOf wn_ShareHouseModel wc_yX12_workOf (Nat.le_of_ble_eq_true rfl) (Nat.le_of_ble_eq_true rfl) rfl rfl wy_yX12_workOf rfl ⟨by decide, by decide⟩ (Nat.le_of_ble_eq_true rfl) ?_
      refine am_seg s_M_price_4 (y := (27, [(0, .ref 140), (1, .int a1), (2, .int a2)], [.int (nI 1), .int x3.1], am_D x3.2)) hF t_s_M_price_4 rfl rfl ?_
      refine am_ite h (fun hc h => ?_) (fun hc h => ?_)
      · refine am_icmp_ne_f (t := 33) d_X12_price_27 (by decide) hc hF ?_
        refine am_seg s_M_price_14 (y := (32, [(0, .ref 140), (1, .int a1), (2, .int a2)], [.int (-4 : Int32)], am_D x3.2)) hF t_s_M_price_14 rfl rfl ?_
        obtain ⟨rfl, rfl⟩ := am_pair h
        exact am_iret d_X12_price_32 hF hB
      · refine am_icmp_ne_t (t := 33) d_X12_price_27 (by decide) hc hF ?_
        refine am_seg s_M_price_5 (y := (50, [(3, .int ((nI 940) + ((nI 10) * a1))), (0, .ref 140), (1, .int a1), (2, .int a2)], [.int (((nI 940) + ((nI 10) * a1)) + (nI 6)), .ref 141], am_D x3.2)) hF t_s_M_price_5 rfl rfl ?_
        refine am_gd h (fun hi h => ?_)
        refine am_iald (n := 1060) (j := ((((nI 940) + ((nI 10) * a1)) + (nI 6)).toNatClampNeg)) d_X12_price_50 (Nat.le_of_ble_eq_true rfl) (Nat.le_of_ble_eq_true rfl) rfl hi rfl hF ?_
        refine am_seg s_M_price_6 (y := (52, [(3, .int ((nI 940) + ((nI 10) * a1))), (0, .ref 140), (1, .int a1), (2, .int a2)], [.int (nI 4), .int (x3.2.1 141 ((((nI 940) + ((nI 10) * a1)) + (nI 6)).toNatClampNeg))], am_D x3.2)) hF t_s_M_price_6 rfl rfl ?_
        refine am_ite h (fun hc h => ?_) (fun hc h => ?_)
        · refine am_icmp_ne_f (t := 58) d_X12_price_52 (by decide) hc hF ?_
          refine am_seg s_M_price_13 (y := (57, [(3, .int ((nI 940) + ((nI 10) * a1))), (0, .ref 140), (1, .int a1), (2, .int a2)], [.int (-2 : Int32)], am_D x3.2)) hF t_s_M_price_13 rfl rfl ?_
          obtain ⟨rfl, rfl⟩ := am_pair h
          exact am_iret d_X12_price_57 hF hB
        · refine am_icmp_ne_t (t := 58) d_X12_price_52 (by decide) hc hF ?_
          refine am_seg s_M_price_7 (y := (67, [(3, .int ((nI 940) + ((nI 10) * a1))), (0, .ref 140), (1, .int a1), (2, .int a2)], [.int (((nI 940) + ((nI 10) * a1)) + (nI 6)), .ref 141, .int (((nI 940) + ((nI 10) * a1)) + (nI 6)), .ref 141], am_D x3.2)) hF t_s_M_price_7 rfl rfl ?_
          refine am_gd h (fun hi h => ?_)
          refine am_iald (n := 1060) (j := ((((nI 940) + ((nI 10) * a1)) + (nI 6)).toNatClampNeg)) d_X12_price_67 (Nat.le_of_ble_eq_true rfl) (Nat.le_of_ble_eq_true rfl) rfl hi rfl hF ?_
          refine am_seg s_M_price_8 (y := (70, [(3, .int ((nI 940) + ((nI 10) * a1))), (0, .ref 140), (1, .int a1), (2, .int a2)], [.int ((x3.2.1 141 ((((nI 940) + ((nI 10) * a1)) + (nI 6)).toNatClampNeg)) + (nI 1)), .int (((nI 940) + ((nI 10) * a1)) + (nI 6)), .ref 141], am_D x3.2)) hF t_s_M_price_8 rfl rfl ?_
          refine am_gd h (fun hi h => ?_)
          refine am_iast (n := 1060) (j := ((((nI 940) + ((nI 10) * a1)) + (nI 6)).toNatClampNeg)) d_X12_price_70 (Nat.le_of_ble_eq_true rfl) (Nat.le_of_ble_eq_true rfl) rfl hi rfl hF ?_
          refine am_seg s_M_price_9 (y := (88, [(3, .int ((nI 940) + ((nI 10) * a1))), (0, .ref 140), (1, .int a1), (2, .int a2)], [.int (((nI 940) + ((nI 10) * a1)) + (nI 7)), .ref 141, .int a2, .int (((nI 940) + ((nI 10) * a1)) + (nI 7)), .ref 141], am_D (am_si x3.2 141 ((((nI 940) + ((nI 10) * a1)) + (nI 6)).toNatClampNeg) ((x3.2.1 141 ((((nI 940) + ((nI 10) * a1)) + (nI 6)).toNatClampNeg)) + (nI 1))))) hF t_s_M_price_9 rfl rfl ?_
          refine am_gd h (fun hi h => ?_)
          refine am_iald (n := 1060) (j := ((((nI 940) + ((nI 10) * a1)) + (nI 7)).toNatClampNeg)) d_X12_price_88 (Nat.le_of_ble_eq_true rfl) (Nat.le_of_ble_eq_true rfl) rfl hi rfl hF ?_
          refine am_ite h (fun hc h => ?_) (fun hc h => ?_)
          · refine am_icmp_le_t (t := 96) d_X12_price_89 (by decide) hc hF ?_
            refine am_seg s_M_price_10 (y := (104, [(3, .int ((nI 940) + ((nI 10) * a1))), (0, .ref 140), (1, .int a1), (2, .int a2)], [.int (((nI 940) + ((nI 10) * a1)) + (nI 7)), .ref 141, .int (((nI 940) + ((nI 10) * a1)) + (nI 7)), .ref 141], am_D (am_si x3.2 141 ((((nI 940) + ((nI 10) * a1)) + (nI 6)).toNatClampNeg) ((x3.2.1 141 ((((nI 940) + ((nI 10) * a1)) + (nI 6)).toNatClampNeg)) + (nI 1))))) hF t_s_M_price_10 rfl rfl ?_
            refine am_gd h (fun hi h => ?_)
            refine am_iald (n := 1060) (j := ((((nI 940) + ((nI 10) * a1)) + (nI 7)).toNatClampNeg)) d_X12_price_104 (Nat.le_of_ble_eq_true rfl) (Nat.le_of_ble_eq_true rfl) rfl hi rfl hF ?_
            refine am_pick [1, 0] rfl ?_
            exact ok_M_price_105 hF hR hB h
          · refine am_icmp_le_f (t := 96) d_X12_price_89 (by decide) hc hF ?_
            refine am_seg s_M_price_12 (y := (105, [(3, .int ((nI 940) + ((nI 10) * a1))), (0, .ref 140), (1, .int a1), (2, .int a2)], [.int a2, .int (((nI 940) + ((nI 10) * a1)) + (nI 7)), .ref 141], am_D (am_si x3.2 141 ((((nI 940) + ((nI 10) * a1)) + (nI 6)).toNatClampNeg) ((x3.2.1 141 ((((nI 940) + ((nI 10) * a1)) + (nI 6)).toNatClampNeg)) + (nI 1))))) hF t_s_M_price_12 rfl rfl ?_
            refine am_pick [1, 0] rfl ?_
            exact ok_M_price_105 hF hR hB h
theorem c_M_price {a1 : Int32} {a2 : Int32} {v : Int32} {τ τ' : am_T} (h : M_price τ a1 a2 = some (v, τ')) : am_C yX12_price cX12_price 4 (some .int) 2 43 [.ref 140, .int a1, .int a2] (am_D τ) (some (.int v)) (am_D τ') :=
  am_enter (by decide +kernel) (Nat.le_of_ble_eq_true rfl) ⟨Nat.le_refl _, Nat.le_refl _⟩ (fun X hF hR hB => ok_M_price hF hR hB h)
def s_M_cappedBy_0 : List am_Q := [(0, .aload_n 0, 0, 0, 0, .null), (1, .iload_n 1, 0, 0, 0, .null), (2, .iconst 3, 0, 0, 0, .int (nI 3))]
theorem t_s_M_cappedBy_0 : s_M_cappedBy_0.all (am_ok 12 cX12_cappedBy) = true := by decide +kernel
theorem d_X12_cappedBy_3 : decode cX12_cappedBy 3 = .ok (.invokevirtual 284, 3) := by decide +kernel
def s_M_cappedBy_1 : List am_Q := [(6, .iconst 2, 0, 0, 0, .int (nI 2))]
theorem t_s_M_cappedBy_1 : s_M_cappedBy_1.all (am_ok 12 cX12_cappedBy) = true := by decide +kernel
theorem d_X12_cappedBy_7 : decode cX12_cappedBy 7 = .ok (.if_icmp .ge 5, 3) := by decide +kernel
def s_M_cappedBy_2 : List am_Q := [(12, .aload_n 0, 0, 0, 0, .null), (13, .iload_n 1, 0, 0, 0, .null), (14, .iconst 5, 0, 0, 0, .int (nI 5))]
theorem t_s_M_cappedBy_2 : s_M_cappedBy_2.all (am_ok 12 cX12_cappedBy) = true := by decide +kernel
theorem d_X12_cappedBy_15 : decode cX12_cappedBy 15 = .ok (.invokevirtual 284, 3) := by decide +kernel
def s_M_cappedBy_3 : List am_Q := [(18, .aload_n 0, 0, 0, 0, .null), (19, .iload_n 1, 0, 0, 0, .null), (20, .iconst 4, 0, 0, 0, .int (nI 4))]
theorem t_s_M_cappedBy_3 : s_M_cappedBy_3.all (am_ok 12 cX12_cappedBy) = true := by decide +kernel
theorem d_X12_cappedBy_21 : decode cX12_cappedBy 21 = .ok (.invokevirtual 284, 3) := by decide +kernel
def s_M_cappedBy_4 : List am_Q := [(24, .isub, 0, 0, 0, .null), (25, .bipush 30, 0, 0, 0, .int (nI 30))]
theorem t_s_M_cappedBy_4 : s_M_cappedBy_4.all (am_ok 12 cX12_cappedBy) = true := by decide +kernel
theorem d_X12_cappedBy_27 : decode cX12_cappedBy 27 = .ok (.if_icmp .ge 5, 3) := by decide +kernel
def s_M_cappedBy_5 : List am_Q := [(32, .aload_n 0, 0, 0, 0, .null), (33, .getfield 7, 12, 0, 152, .null), (36, .iconst 0, 0, 0, 0, .int (nI 0))]
theorem t_s_M_cappedBy_5 : s_M_cappedBy_5.all (am_ok 12 cX12_cappedBy) = true := by decide +kernel
theorem d_X12_cappedBy_37 : decode cX12_cappedBy 37 = .ok (.iaload, 1) := by decide +kernel
def s_M_cappedBy_6 : List am_Q := [(38, .aload_n 0, 0, 0, 0, .null), (39, .iload_n 1, 0, 0, 0, .null), (40, .iconst 5, 0, 0, 0, .int (nI 5))]
theorem t_s_M_cappedBy_6 : s_M_cappedBy_6.all (am_ok 12 cX12_cappedBy) = true := by decide +kernel
theorem d_X12_cappedBy_41 : decode cX12_cappedBy 41 = .ok (.invokevirtual 284, 3) := by decide +kernel
def s_M_cappedBy_7 : List am_Q := [(44, .isub, 0, 0, 0, .null), (45, .bipush 30, 0, 0, 0, .int (nI 30))]
theorem t_s_M_cappedBy_7 : s_M_cappedBy_7.all (am_ok 12 cX12_cappedBy) = true := by decide +kernel
theorem d_X12_cappedBy_47 : decode cX12_cappedBy 47 = .ok (.if_icmp .ge 5, 3) := by decide +kernel
def s_M_cappedBy_8 : List am_Q := [(52, .aload_n 0, 0, 0, 0, .null), (53, .iload_n 1, 0, 0, 0, .null), (54, .bipush 6, 0, 0, 0, .int (nI 6))]
theorem t_s_M_cappedBy_8 : s_M_cappedBy_8.all (am_ok 12 cX12_cappedBy) = true := by decide +kernel
theorem d_X12_cappedBy_56 : decode cX12_cappedBy 56 = .ok (.invokevirtual 284, 3) := by decide +kernel
def s_M_cappedBy_9 : List am_Q := [(59, .iconst 2, 0, 0, 0, .int (nI 2))]
theorem t_s_M_cappedBy_9 : s_M_cappedBy_9.all (am_ok 12 cX12_cappedBy) = true := by decide +kernel
theorem d_X12_cappedBy_60 : decode cX12_cappedBy 60 = .ok (.if_icmp .ge 5, 3) := by decide +kernel
def s_M_cappedBy_10 : List am_Q := [(65, .aload_n 0, 0, 0, 0, .null), (66, .iload_n 1, 0, 0, 0, .null), (67, .iconst 1, 0, 0, 0, .int (nI 1))]
theorem t_s_M_cappedBy_10 : s_M_cappedBy_10.all (am_ok 12 cX12_cappedBy) = true := by decide +kernel
theorem d_X12_cappedBy_68 : decode cX12_cappedBy 68 = .ok (.invokevirtual 284, 3) := by decide +kernel
def s_M_cappedBy_11 : List am_Q := [(71, .aload_n 0, 0, 0, 0, .null), (72, .iload_n 1, 0, 0, 0, .null), (73, .bipush 7, 0, 0, 0, .int (nI 7))]
theorem t_s_M_cappedBy_11 : s_M_cappedBy_11.all (am_ok 12 cX12_cappedBy) = true := by decide +kernel
theorem d_X12_cappedBy_75 : decode cX12_cappedBy 75 = .ok (.invokevirtual 284, 3) := by decide +kernel
theorem d_X12_cappedBy_78 : decode cX12_cappedBy 78 = .ok (.if_icmp .le 7, 3) := by decide +kernel
def s_M_cappedBy_12 : List am_Q := [(85, .iconst 0, 0, 0, 0, .int (nI 0))]
theorem t_s_M_cappedBy_12 : s_M_cappedBy_12.all (am_ok 12 cX12_cappedBy) = true := by decide +kernel
theorem d_X12_cappedBy_86 : decode cX12_cappedBy 86 = .ok (.ireturn, 1) := by decide +kernel
def s_M_cappedBy_13 : List am_Q := [(81, .iconst 5, 0, 0, 0, .int (nI 5)), (82, .goto 4, 86, 0, 0, .null)]
theorem t_s_M_cappedBy_13 : s_M_cappedBy_13.all (am_ok 12 cX12_cappedBy) = true := by decide +kernel
def s_M_cappedBy_14 : List am_Q := [(63, .iconst 4, 0, 0, 0, .int (nI 4))]
theorem t_s_M_cappedBy_14 : s_M_cappedBy_14.all (am_ok 12 cX12_cappedBy) = true := by decide +kernel
theorem d_X12_cappedBy_64 : decode cX12_cappedBy 64 = .ok (.ireturn, 1) := by decide +kernel
def s_M_cappedBy_15 : List am_Q := [(50, .iconst 3, 0, 0, 0, .int (nI 3))]
theorem t_s_M_cappedBy_15 : s_M_cappedBy_15.all (am_ok 12 cX12_cappedBy) = true := by decide +kernel
theorem d_X12_cappedBy_51 : decode cX12_cappedBy 51 = .ok (.ireturn, 1) := by decide +kernel
def s_M_cappedBy_16 : List am_Q := [(30, .iconst 2, 0, 0, 0, .int (nI 2))]
theorem t_s_M_cappedBy_16 : s_M_cappedBy_16.all (am_ok 12 cX12_cappedBy) = true := by decide +kernel
theorem d_X12_cappedBy_31 : decode cX12_cappedBy 31 = .ok (.ireturn, 1) := by decide +kernel
def s_M_cappedBy_17 : List am_Q := [(10, .iconst 1, 0, 0, 0, .int (nI 1))]
theorem t_s_M_cappedBy_17 : s_M_cappedBy_17.all (am_ok 12 cX12_cappedBy) = true := by decide +kernel
theorem d_X12_cappedBy_11 : decode cX12_cappedBy 11 = .ok (.ireturn, 1) := by decide +kernel
def M_cappedBy (τ : am_T) (a1 : Int32) : Option (Int32 × am_T) :=
  (M_workOf τ a1 (nI 3)).bind (fun x1 =>
  if (nI 2) ≤ x1.1 then
  ((M_workOf x1.2 a1 (nI 5)).bind (fun x2 =>
  (M_workOf x2.2 a1 (nI 4)).bind (fun x3 =>
  if (nI 30) ≤ (x2.1 - x3.1) then
  ((M_workOf x3.2 a1 (nI 5)).bind (fun x4 =>
  if (nI 30) ≤ ((x3.2.1 141 0) - x4.1) then
  ((M_workOf x4.2 a1 (nI 6)).bind (fun x5 =>
  if (nI 2) ≤ x5.1 then
  ((M_workOf x5.2 a1 (nI 1)).bind (fun x6 =>
  (M_workOf x6.2 a1 (nI 7)).bind (fun x7 =>
  if x6.1 ≤ x7.1 then
  (some ((nI 0), x7.2))
else
  (some ((nI 5), x7.2)))))
else
  (some ((nI 4), x5.2))))
else
  (some ((nI 3), x4.2))))
else
  (some ((nI 2), x3.2)))))
else
  (some ((nI 1), x1.2)))
set_option maxRecDepth 20000 in
theorem ok_M_cappedBy {X : am_X} {a1 : Int32} {v : Int32} {τ τ' : am_T} (hF : am_F X "ShareHouseModel" cX12_cappedBy 2) (hR : am_R X 1 22) (hB : am_B X (some .int) (some (.int v)) (am_D τ')) (h : M_cappedBy τ a1 = some (v, τ')) : am_W X 2 (0, [(0, .ref 140), (1, .int a1)], [], am_D τ) := by
  unfold M_cappedBy at h
  refine am_seg s_M_cappedBy_0 (y := (3, [(0, .ref 140), (1, .int a1)], [.int (nI 3), .int a1, .ref 140], am_D τ)) hF t_s_M_cappedBy_0 rfl rfl ?_
  refine am_bd h (fun x1 hx h => ?_)
  refine am_callV (As := [.int a1, .int (nI 3)]) (r := (some (.int x1.1))) (st := []) (σ' := am_D x1.2) (ci := 12) hF hR d_X12_cappedBy_3 (c_M_workOf (τ' := x1.2) hx) (Nat.le_refl _) (Nat.le_refl _) wl_M_284 wi_yX12_workOf we_yX12_workOf wn_ShareHouseModel wc_yX12_workOf (Nat.le_of_ble_eq_true rfl) (Nat.le_of_ble_eq_true rfl) rfl rfl wy_yX12_workOf rfl ⟨by decide, by decide⟩ (Nat.le_of_ble_eq_true rfl) ?_
  refine am_seg s_M_cappedBy_1 (y := (7, [(0, .ref 140), (1, .int a1)], [.int (nI 2), .int x1.1], am_D x1.2)) hF t_s_M_cappedBy_1 rfl rfl ?_
  refine am_ite h (fun hc h => ?_) (fun hc h => ?_)
  · refine am_icmp_ge_t (t := 12) d_X12_cappedBy_7 (by decide) hc hF ?_
    refine am_seg s_M_cappedBy_2 (y := (15, [(0, .ref 140), (1, .int a1)], [.int (nI 5), .int a1, .ref 140], am_D x1.2)) hF t_s_M_cappedBy_2 rfl rfl ?_
    refine am_bd h (fun x2 hx h => ?_)
    refine am_callV (As := [.int a1, .int (nI 5)]) (r := (some (.int x2.1))) (st := []) (σ' := am_D x2.2) (ci := 12) hF hR d_X12_cappedBy_15 (c_M_workOf (τ' := x2.2) hx) (Nat.le_refl _) (Nat.le_refl _) wl_M_284 wi_yX12_workOf we_yX12_workOf wn_ShareHouseModel wc_yX12_workOf (Nat.le_of_ble_eq_true rfl) (Nat.le_of_ble_eq_true rfl) rfl rfl wy_yX12_workOf rfl ⟨by decide, by decide⟩ (Nat.le_of_ble_eq_true rfl) ?_
    refine am_seg s_M_cappedBy_3 (y := (21, [(0, .ref 140), (1, .int a1)], [.int (nI 4), .int a1, .ref 140, .int x2.1], am_D x2.2)) hF t_s_M_cappedBy_3 rfl rfl ?_
    refine am_bd h (fun x3 hx h => ?_)
    refine am_callV (As := [.int a1, .int (nI 4)]) (r := (some (.int x3.1))) (st := [.int x2.1]) (σ' := am_D x3.2) (ci := 12) hF hR d_X12_cappedBy_21 (c_M_workOf (τ' := x3.2) hx) (Nat.le_refl _) (Nat.le_refl _) wl_M_284 wi_yX12_workOf we_yX12_workOf wn_ShareHouseModel wc_yX12_workOf (Nat.le_of_ble_eq_true rfl) (Nat.le_of_ble_eq_true rfl) rfl rfl wy_yX12_workOf rfl ⟨by decide, by decide⟩ (Nat.le_of_ble_eq_true rfl) ?_
    refine am_seg s_M_cappedBy_4 (y := (27, [(0, .ref 140), (1, .int a1)], [.int (nI 30), .int (x2.1 - x3.1)], am_D x3.2)) hF t_s_M_cappedBy_4 rfl rfl ?_
    refine am_ite h (fun hc h => ?_) (fun hc h => ?_)
    · refine am_icmp_ge_t (t := 32) d_X12_cappedBy_27 (by decide) hc hF ?_
      refine am_seg s_M_cappedBy_5 (y := (37, [(0, .ref 140), (1, .int a1)], [.int (nI 0), .ref 141], am_D x3.2)) hF t_s_M_cappedBy_5 rfl rfl ?_
      refine am_iald (n := 1060) (j := 0) d_X12_cappedBy_37 (Nat.le_of_ble_eq_true rfl) (Nat.le_of_ble_eq_true rfl) rfl (by decide) rfl hF ?_
      refine am_seg s_M_cappedBy_6 (y := (41, [(0, .ref 140), (1, .int a1)], [.int (nI 5), .int a1, .ref 140, .int (x3.2.1 141 0)], am_D x3.2)) hF t_s_M_cappedBy_6 rfl rfl ?_
      refine am_bd h (fun x4 hx h => ?_)
      refine am_callV (As := [.int a1, .int (nI 5)]) (r := (some (.int x4.1))) (st := [.int (x3.2.1 141 0)]) (σ' := am_D x4.2) (ci := 12) hF hR d_X12_cappedBy_41 (c_M_workOf (τ' := x4.2) hx) (Nat.le_refl _) (Nat.le_refl _) wl_M_284 wi_yX12_workOf we_yX12_workOf wn_ShareHouseModel wc_yX12_workOf (Nat.le_of_ble_eq_true rfl) (Nat.le_of_ble_eq_true rfl) rfl rfl wy_yX12_workOf rfl ⟨by decide, by decide⟩ (Nat.le_of_ble_eq_true rfl) ?_
      refine am_seg s_M_cappedBy_7 (y := (47, [(0, .ref 140), (1, .int a1)], [.int (nI 30), .int ((x3.2.1 141 0) - x4.1)], am_D x4.2)) hF t_s_M_cappedBy_7 rfl rfl ?_
      refine am_ite h (fun hc h => ?_) (fun hc h => ?_)
      · refine am_icmp_ge_t (t := 52) d_X12_cappedBy_47 (by decide) hc hF ?_
        refine am_seg s_M_cappedBy_8 (y := (56, [(0, .ref 140), (1, .int a1)], [.int (nI 6), .int a1, .ref 140], am_D x4.2)) hF t_s_M_cappedBy_8 rfl rfl ?_
        refine am_bd h (fun x5 hx h => ?_)
        refine am_callV (As := [.int a1, .int (nI 6)]) (r := (some (.int x5.1))) (st := []) (σ' := am_D x5.2) (ci := 12) hF hR d_X12_cappedBy_56 (c_M_workOf (τ' := x5.2) hx) (Nat.le_refl _) (Nat.le_refl _) wl_M_284 wi_yX12_workOf we_yX12_workOf wn_ShareHouseModel wc_yX12_workOf (Nat.le_of_ble_eq_true rfl) (Nat.le_of_ble_eq_true rfl) rfl rfl wy_yX12_workOf rfl ⟨by decide, by decide⟩ (Nat.le_of_ble_eq_true rfl) ?_
        refine am_seg s_M_cappedBy_9 (y := (60, [(0, .ref 140), (1, .int a1)], [.int (nI 2), .int x5.1], am_D x5.2)) hF t_s_M_cappedBy_9 rfl rfl ?_
        refine am_ite h (fun hc h => ?_) (fun hc h => ?_)
        · refine am_icmp_ge_t (t := 65) d_X12_cappedBy_60 (by decide) hc hF ?_
          refine am_seg s_M_cappedBy_10 (y := (68, [(0, .ref 140), (1, .int a1)], [.int (nI 1), .int a1, .ref 140], am_D x5.2)) hF t_s_M_cappedBy_10 rfl rfl ?_
          refine am_bd h (fun x6 hx h => ?_)
          refine am_callV (As := [.int a1, .int (nI 1)]) (r := (some (.int x6.1))) (st := []) (σ' := am_D x6.2) (ci := 12) hF hR d_X12_cappedBy_68 (c_M_workOf (τ' := x6.2) hx) (Nat.le_refl _) (Nat.le_refl _) wl_M_284 wi_yX12_workOf we_yX12_workOf wn_ShareHouseModel wc_yX12_workOf (Nat.le_of_ble_eq_true rfl) (Nat.le_of_ble_eq_true rfl) rfl rfl wy_yX12_workOf rfl ⟨by decide, by decide⟩ (Nat.le_of_ble_eq_true rfl) ?_
          refine am_seg s_M_cappedBy_11 (y := (75, [(0, .ref 140), (1, .int a1)], [.int (nI 7), .int a1, .ref 140, .int x6.1], am_D x6.2)) hF t_s_M_cappedBy_11 rfl rfl ?_
          refine am_bd h (fun x7 hx h => ?_)
          refine am_callV (As := [.int a1, .int (nI 7)]) (r := (some (.int x7.1))) (st := [.int x6.1]) (σ' := am_D x7.2) (ci := 12) hF hR d_X12_cappedBy_75 (c_M_workOf (τ' := x7.2) hx) (Nat.le_refl _) (Nat.le_refl _) wl_M_284 wi_yX12_workOf we_yX12_workOf wn_ShareHouseModel wc_yX12_workOf (Nat.le_of_ble_eq_true rfl) (Nat.le_of_ble_eq_true rfl) rfl rfl wy_yX12_workOf rfl ⟨by decide, by decide⟩ (Nat.le_of_ble_eq_true rfl) ?_
          refine am_ite h (fun hc h => ?_) (fun hc h => ?_)
          · refine am_icmp_le_t (t := 85) d_X12_cappedBy_78 (by decide) hc hF ?_
            refine am_seg s_M_cappedBy_12 (y := (86, [(0, .ref 140), (1, .int a1)], [.int (nI 0)], am_D x7.2)) hF t_s_M_cappedBy_12 rfl rfl ?_
            obtain ⟨rfl, rfl⟩ := am_pair h
            exact am_iret d_X12_cappedBy_86 hF hB
          · refine am_icmp_le_f (t := 85) d_X12_cappedBy_78 (by decide) hc hF ?_
            refine am_seg s_M_cappedBy_13 (y := (86, [(0, .ref 140), (1, .int a1)], [.int (nI 5)], am_D x7.2)) hF t_s_M_cappedBy_13 rfl rfl ?_
            obtain ⟨rfl, rfl⟩ := am_pair h
            exact am_iret d_X12_cappedBy_86 hF hB
        · refine am_icmp_ge_f (t := 65) d_X12_cappedBy_60 (by decide) hc hF ?_
          refine am_seg s_M_cappedBy_14 (y := (64, [(0, .ref 140), (1, .int a1)], [.int (nI 4)], am_D x5.2)) hF t_s_M_cappedBy_14 rfl rfl ?_
          obtain ⟨rfl, rfl⟩ := am_pair h
          exact am_iret d_X12_cappedBy_64 hF hB
      · refine am_icmp_ge_f (t := 52) d_X12_cappedBy_47 (by decide) hc hF ?_
        refine am_seg s_M_cappedBy_15 (y := (51, [(0, .ref 140), (1, .int a1)], [.int (nI 3)], am_D x4.2)) hF t_s_M_cappedBy_15 rfl rfl ?_
        obtain ⟨rfl, rfl⟩ := am_pair h
        exact am_iret d_X12_cappedBy_51 hF hB
    · refine am_icmp_ge_f (t := 32) d_X12_cappedBy_27 (by decide) hc hF ?_
      refine am_seg s_M_cappedBy_16 (y := (31, [(0, .ref 140), (1, .int a1)], [.int (nI 2)], am_D x3.2)) hF t_s_M_cappedBy_16 rfl rfl ?_
      obtain ⟨rfl, rfl⟩ := am_pair h
      exact am_iret d_X12_cappedBy_31 hF hB
  · refine am_icmp_ge_f (t := 12) d_X12_cappedBy_7 (by decide) hc hF ?_
    refine am_seg s_M_cappedBy_17 (y := (11, [(0, .ref 140), (1, .int a1)], [.int (nI 1)], am_D x1.2)) hF t_s_M_cappedBy_17 rfl rfl ?_
    obtain ⟨rfl, rfl⟩ := am_pair h
    exact am_iret d_X12_cappedBy_11 hF hB
theorem c_M_cappedBy {a1 : Int32} {v : Int32} {τ τ' : am_T} (h : M_cappedBy τ a1 = some (v, τ')) : am_C yX12_cappedBy cX12_cappedBy 2 (some .int) 1 22 [.ref 140, .int a1] (am_D τ) (some (.int v)) (am_D τ') :=
  am_enter (by decide +kernel) (Nat.le_of_ble_eq_true rfl) ⟨Nat.le_refl _, Nat.le_refl _⟩ (fun X hF hR hB => ok_M_cappedBy hF hR hB h)
def s_M_done_0 : List am_Q := [(0, .aload_n 0, 0, 0, 0, .null), (1, .iload_n 1, 0, 0, 0, .null)]
theorem t_s_M_done_0 : s_M_done_0.all (am_ok 12 cX12_done) = true := by decide +kernel
theorem d_X12_done_2 : decode cX12_done 2 = .ok (.invokevirtual 281, 3) := by decide +kernel
theorem d_X12_done_5 : decode cX12_done 5 = .ok (.ifCond .ne 5, 3) := by decide +kernel
def s_M_done_1 : List am_Q := [(10, .aload_n 0, 0, 0, 0, .null), (11, .iload_n 1, 0, 0, 0, .null), (12, .iconst 2, 0, 0, 0, .int (nI 2))]
theorem t_s_M_done_1 : s_M_done_1.all (am_ok 12 cX12_done) = true := by decide +kernel
theorem d_X12_done_13 : decode cX12_done 13 = .ok (.invokevirtual 284, 3) := by decide +kernel
def s_M_done_2 : List am_Q := [(16, .iconst 1, 0, 0, 0, .int (nI 1))]
theorem t_s_M_done_2 : s_M_done_2.all (am_ok 12 cX12_done) = true := by decide +kernel
theorem d_X12_done_17 : decode cX12_done 17 = .ok (.if_icmp .ne 6, 3) := by decide +kernel
def s_M_done_3 : List am_Q := [(23, .aload_n 0, 0, 0, 0, .null), (24, .getfield 7, 12, 0, 152, .null), (27, .iconst 2, 0, 0, 0, .int (nI 2))]
theorem t_s_M_done_3 : s_M_done_3.all (am_ok 12 cX12_done) = true := by decide +kernel
theorem d_X12_done_28 : decode cX12_done 28 = .ok (.iaload, 1) := by decide +kernel
def s_M_done_4 : List am_Q := [(29, .bipush 20, 0, 0, 0, .int (nI 20))]
theorem t_s_M_done_4 : s_M_done_4.all (am_ok 12 cX12_done) = true := by decide +kernel
theorem d_X12_done_31 : decode cX12_done 31 = .ok (.if_icmp .ne 6, 3) := by decide +kernel
def s_M_done_5 : List am_Q := [(37, .aload_n 0, 0, 0, 0, .null), (38, .getfield 7, 12, 0, 152, .null), (41, .sipush 940, 0, 0, 0, .int (nI 940)), (44, .bipush 10, 0, 0, 0, .int (nI 10)), (46, .iload_n 1, 0, 0, 0, .null), (47, .imul, 0, 0, 0, .null), (48, .iadd, 0, 0, 0, .null), (49, .iconst 2, 0, 0, 0, .int (nI 2)), (50, .iadd, 0, 0, 0, .null), (51, .iconst 1, 0, 0, 0, .int (nI 1))]
theorem t_s_M_done_5 : s_M_done_5.all (am_ok 12 cX12_done) = true := by decide +kernel
theorem d_X12_done_52 : decode cX12_done 52 = .ok (.iastore, 1) := by decide +kernel
def s_M_done_6 : List am_Q := [(53, .aload_n 0, 0, 0, 0, .null), (54, .aload_n 0, 0, 0, 0, .null), (55, .iload_n 1, 0, 0, 0, .null), (56, .iconst 0, 0, 0, 0, .int (nI 0))]
theorem t_s_M_done_6 : s_M_done_6.all (am_ok 12 cX12_done) = true := by decide +kernel
theorem d_X12_done_57 : decode cX12_done 57 = .ok (.invokevirtual 284, 3) := by decide +kernel
def s_M_done_7 : List am_Q := [(60, .aload_n 0, 0, 0, 0, .null), (61, .getfield 7, 12, 0, 152, .null), (64, .iconst 0, 0, 0, 0, .int (nI 0))]
theorem t_s_M_done_7 : s_M_done_7.all (am_ok 12 cX12_done) = true := by decide +kernel
theorem d_X12_done_65 : decode cX12_done 65 = .ok (.iaload, 1) := by decide +kernel
def s_M_done_8 : List am_Q := [(66, .aload_n 0, 0, 0, 0, .null), (67, .iload_n 1, 0, 0, 0, .null), (68, .iconst 1, 0, 0, 0, .int (nI 1))]
theorem t_s_M_done_8 : s_M_done_8.all (am_ok 12 cX12_done) = true := by decide +kernel
theorem d_X12_done_69 : decode cX12_done 69 = .ok (.invokevirtual 284, 3) := by decide +kernel
def s_M_done_9 : List am_Q := [(72, .aload_n 0, 0, 0, 0, .null), (73, .iload_n 1, 0, 0, 0, .null)]
theorem t_s_M_done_9 : s_M_done_9.all (am_ok 12 cX12_done) = true := by decide +kernel
theorem d_X12_done_74 : decode cX12_done 74 = .ok (.invokevirtual 287, 3) := by decide +kernel
theorem d_X12_done_77 : decode cX12_done 77 = .ok (.ifCond .le 7, 3) := by decide +kernel
def s_M_done_10 : List am_Q := [(84, .iconst 0, 0, 0, 0, .int (nI 0))]
theorem t_s_M_done_10 : s_M_done_10.all (am_ok 12 cX12_done) = true := by decide +kernel
theorem d_X12_done_85 : decode cX12_done 85 = .ok (.invokevirtual 229, 3) := by decide +kernel
theorem d_X12_done_88 : decode cX12_done 88 = .ok (.ireturn, 1) := by decide +kernel
def s_M_done_11 : List am_Q := [(80, .iconst 1, 0, 0, 0, .int (nI 1)), (81, .goto 4, 85, 0, 0, .null)]
theorem t_s_M_done_11 : s_M_done_11.all (am_ok 12 cX12_done) = true := by decide +kernel
def s_M_done_12 : List am_Q := [(34, .bipush (-2), 0, 0, 0, .int (-2 : Int32))]
theorem t_s_M_done_12 : s_M_done_12.all (am_ok 12 cX12_done) = true := by decide +kernel
theorem d_X12_done_36 : decode cX12_done 36 = .ok (.ireturn, 1) := by decide +kernel
def s_M_done_13 : List am_Q := [(20, .bipush (-4), 0, 0, 0, .int (-4 : Int32))]
theorem t_s_M_done_13 : s_M_done_13.all (am_ok 12 cX12_done) = true := by decide +kernel
theorem d_X12_done_22 : decode cX12_done 22 = .ok (.ireturn, 1) := by decide +kernel
def s_M_done_14 : List am_Q := [(8, .iconst (-1), 0, 0, 0, .int (-1 : Int32))]
theorem t_s_M_done_14 : s_M_done_14.all (am_ok 12 cX12_done) = true := by decide +kernel
theorem d_X12_done_9 : decode cX12_done 9 = .ok (.ireturn, 1) := by decide +kernel
def M_done (τ : am_T) (a1 : Int32) : Option (Int32 × am_T) :=
  (M_isWork τ a1).bind (fun x1 =>
  if x1.1 = 0 then
  (some ((-1 : Int32), x1.2))
else
  ((M_workOf x1.2 a1 (nI 2)).bind (fun x2 =>
  if x2.1 = (nI 1) then
  (some ((-4 : Int32), x2.2))
else
  (if (x2.2.1 141 2) = (nI 20) then
  (some ((-2 : Int32), x2.2))
else
  (am_g (am_in (((nI 940) + ((nI 10) * a1)) + (nI 2)) 1060) ((M_workOf (am_si x2.2 141 ((((nI 940) + ((nI 10) * a1)) + (nI 2)).toNatClampNeg) (nI 1)) a1 (nI 0)).bind (fun x3 =>
  (M_workOf x3.2 a1 (nI 1)).bind (fun x4 =>
  (M_cappedBy x4.2 a1).bind (fun x5 =>
  if x5.1 ≤ 0 then
  ((M_addCost x5.2 x3.1 (x3.2.1 141 0) x4.1 (nI 0)).bind (fun x6 =>
  some (x6.1, x6.2)))
else
  ((M_addCost x5.2 x3.1 (x3.2.1 141 0) x4.1 (nI 1)).bind (fun x7 =>
  some (x7.1, x7.2))))))))))))
set_option maxRecDepth 20000 in
theorem ok_M_done {X : am_X} {a1 : Int32} {v : Int32} {τ τ' : am_T} (hF : am_F X "ShareHouseModel" cX12_done 2) (hR : am_R X 2 43) (hB : am_B X (some .int) (some (.int v)) (am_D τ')) (h : M_done τ a1 = some (v, τ')) : am_W X 2 (0, [(0, .ref 140), (1, .int a1)], [], am_D τ) := by
  unfold M_done at h
  refine am_seg s_M_done_0 (y := (2, [(0, .ref 140), (1, .int a1)], [.int a1, .ref 140], am_D τ)) hF t_s_M_done_0 rfl rfl ?_
  refine am_bd h (fun x1 hx h => ?_)
  refine am_callV (As := [.int a1]) (r := (some (.int x1.1))) (st := []) (σ' := am_D x1.2) (ci := 12) hF hR d_X12_done_2 (c_M_isWork (τ' := x1.2) hx) (Nat.le_refl _) (Nat.le_refl _) wl_M_281 wi_yX12_isWork we_yX12_isWork wn_ShareHouseModel wc_yX12_isWork (Nat.le_of_ble_eq_true rfl) (Nat.le_of_ble_eq_true rfl) rfl rfl wy_yX12_isWork rfl ⟨by decide, by decide⟩ (Nat.le_of_ble_eq_true rfl) ?_
  refine am_ite h (fun hc h => ?_) (fun hc h => ?_)
  · refine am_if_ne_f (t := 10) d_X12_done_5 (by decide) hc hF ?_
    refine am_seg s_M_done_14 (y := (9, [(0, .ref 140), (1, .int a1)], [.int (-1 : Int32)], am_D x1.2)) hF t_s_M_done_14 rfl rfl ?_
    obtain ⟨rfl, rfl⟩ := am_pair h
    exact am_iret d_X12_done_9 hF hB
  · refine am_if_ne_t (t := 10) d_X12_done_5 (by decide) hc hF ?_
    refine am_seg s_M_done_1 (y := (13, [(0, .ref 140), (1, .int a1)], [.int (nI 2), .int a1, .ref 140], am_D x1.2)) hF t_s_M_done_1 rfl rfl ?_
    refine am_bd h (fun x2 hx h => ?_)
    refine am_callV (As := [.int a1, .int (nI 2)]) (r := (some (.int x2.1))) (st := []) (σ' := am_D x2.2) (ci := 12) hF hR d_X12_done_13 (c_M_workOf (τ' := x2.2) hx) (Nat.le_refl _) (Nat.le_refl _) wl_M_284 wi_yX12_workOf we_yX12_workOf wn_ShareHouseModel wc_yX12_workOf (Nat.le_of_ble_eq_true rfl) (Nat.le_of_ble_eq_true rfl) rfl rfl wy_yX12_workOf rfl ⟨by decide, by decide⟩ (Nat.le_of_ble_eq_true rfl) ?_
    refine am_seg s_M_done_2 (y := (17, [(0, .ref 140), (1, .int a1)], [.int (nI 1), .int x2.1], am_D x2.2)) hF t_s_M_done_2 rfl rfl ?_
    refine am_ite h (fun hc h => ?_) (fun hc h => ?_)
    · refine am_icmp_ne_f (t := 23) d_X12_done_17 (by decide) hc hF ?_
      refine am_seg s_M_done_13 (y := (22, [(0, .ref 140), (1, .int a1)], [.int (-4 : Int32)], am_D x2.2)) hF t_s_M_done_13 rfl rfl ?_
      obtain ⟨rfl, rfl⟩ := am_pair h
      exact am_iret d_X12_done_22 hF hB
    · refine am_icmp_ne_t (t := 23) d_X12_done_17 (by decide) hc hF ?_
      refine am_seg s_M_done_3 (y := (28, [(0, .ref 140), (1, .int a1)], [.int (nI 2), .ref 141], am_D x2.2)) hF t_s_M_done_3 rfl rfl ?_
      refine am_iald (n := 1060) (j := 2) d_X12_done_28 (Nat.le_of_ble_eq_true rfl) (Nat.le_of_ble_eq_true rfl) rfl (by decide) rfl hF ?_
      refine am_seg s_M_done_4 (y := (31, [(0, .ref 140), (1, .int a1)], [.int (nI 20), .int (x2.2.1 141 2)], am_D x2.2)) hF t_s_M_done_4 rfl rfl ?_
      refine am_ite h (fun hc h => ?_) (fun hc h => ?_)
      · refine am_icmp_ne_f (t := 37) d_X12_done_31 (by decide) hc hF ?_
        refine am_seg s_M_done_12 (y := (36, [(0, .ref 140), (1, .int a1)], [.int (-2 : Int32)], am_D x2.2)) hF t_s_M_done_12 rfl rfl ?_
        obtain ⟨rfl, rfl⟩ := am_pair h
        exact am_iret d_X12_done_36 hF hB
      · refine am_icmp_ne_t (t := 37) d_X12_done_31 (by decide) hc hF ?_
        refine am_seg s_M_done_5 (y := (52, [(0, .ref 140), (1, .int a1)], [.int (nI 1), .int (((nI 940) + ((nI 10) * a1)) + (nI 2)), .ref 141], am_D x2.2)) hF t_s_M_done_5 rfl rfl ?_
        refine am_gd h (fun hi h => ?_)
        refine am_iast (n := 1060) (j := ((((nI 940) + ((nI 10) * a1)) + (nI 2)).toNatClampNeg)) d_X12_done_52 (Nat.le_of_ble_eq_true rfl) (Nat.le_of_ble_eq_true rfl) rfl hi rfl hF ?_
        refine am_seg s_M_done_6 (y := (57, [(0, .ref 140), (1, .int a1)], [.int (nI 0), .int a1, .ref 140, .ref 140], am_D (am_si x2.2 141 ((((nI 940) + ((nI 10) * a1)) + (nI 2)).toNatClampNeg) (nI 1)))) hF t_s_M_done_6 rfl rfl ?_
        refine am_bd h (fun x3 hx h => ?_)
        refine am_callV (As := [.int a1, .int (nI 0)]) (r := (some (.int x3.1))) (st := [.ref 140]) (σ' := am_D x3.2) (ci := 12) hF hR d_X12_done_57 (c_M_workOf (τ' := x3.2) hx) (Nat.le_refl _) (Nat.le_refl _) wl_M_284 wi_yX12_workOf we_yX12_workOf wn_ShareHouseModel wc_yX12_workOf (Nat.le_of_ble_eq_true rfl) (Nat.le_of_ble_eq_true rfl) rfl rfl wy_yX12_workOf rfl ⟨by decide, by decide⟩ (Nat.le_of_ble_eq_true rfl) ?_
        refine am_seg s_M_done_7 (y := (65, [(0, .ref 140), (1, .int a1)], [.int (nI 0), .ref 141, .int x3.1, .ref 140], am_D x3.2)) hF t_s_M_done_7 rfl rfl ?_
        refine am_iald (n := 1060) (j := 0) d_X12_done_65 (Nat.le_of_ble_eq_true rfl) (Nat.le_of_ble_eq_true rfl) rfl (by decide) rfl hF ?_
        refine am_seg s_M_done_8 (y := (69, [(0, .ref 140), (1, .int a1)], [.int (nI 1), .int a1, .ref 140, .int (x3.2.1 141 0), .int x3.1, .ref 140], am_D x3.2)) hF t_s_M_done_8 rfl rfl ?_
        refine am_bd h (fun x4 hx h => ?_)
        refine am_callV (As := [.int a1, .int (nI 1)]) (r := (some (.int x4.1))) (st := [.int (x3.2.1 141 0), .int x3.1, .ref 140]) (σ' := am_D x4.2) (ci := 12) hF hR d_X12_done_69 (c_M_workOf (τ' := x4.2) hx) (Nat.le_refl _) (Nat.le_refl _) wl_M_284 wi_yX12_workOf we_yX12_workOf wn_ShareHouseModel wc_yX12_workOf (Nat.le_of_ble_eq_true rfl) (Nat.le_of_ble_eq_true rfl) rfl rfl wy_yX12_workOf rfl ⟨by decide, by decide⟩ (Nat.le_of_ble_eq_true rfl) ?_
        refine am_seg s_M_done_9 (y := (74, [(0, .ref 140), (1, .int a1)], [.int a1, .ref 140, .int x4.1, .int (x3.2.1 141 0), .int x3.1, .ref 140], am_D x4.2)) hF t_s_M_done_9 rfl rfl ?_
        refine am_bd h (fun x5 hx h => ?_)
        refine am_callV (As := [.int a1]) (r := (some (.int x5.1))) (st := [.int x4.1, .int (x3.2.1 141 0), .int x3.1, .ref 140]) (σ' := am_D x5.2) (ci := 12) hF hR d_X12_done_74 (c_M_cappedBy (τ' := x5.2) hx) (Nat.le_refl _) (Nat.le_refl _) wl_M_287 wi_yX12_cappedBy we_yX12_cappedBy wn_ShareHouseModel wc_yX12_cappedBy (Nat.le_of_ble_eq_true rfl) (Nat.le_of_ble_eq_true rfl) rfl rfl wy_yX12_cappedBy rfl ⟨by decide, by decide⟩ (Nat.le_of_ble_eq_true rfl) ?_
        refine am_ite h (fun hc h => ?_) (fun hc h => ?_)
        · refine am_if_le_t (t := 84) d_X12_done_77 (by decide) hc hF ?_
          refine am_seg s_M_done_10 (y := (85, [(0, .ref 140), (1, .int a1)], [.int (nI 0), .int x4.1, .int (x3.2.1 141 0), .int x3.1, .ref 140], am_D x5.2)) hF t_s_M_done_10 rfl rfl ?_
          refine am_bd h (fun x6 hx h => ?_)
          refine am_callV (As := [.int x3.1, .int (x3.2.1 141 0), .int x4.1, .int (nI 0)]) (r := (some (.int x6.1))) (st := []) (σ' := am_D x6.2) (ci := 12) hF hR d_X12_done_85 (c_M_addCost (τ' := x6.2) hx) (Nat.le_refl _) (Nat.le_refl _) wl_M_229 wi_yX12_addCost we_yX12_addCost wn_ShareHouseModel wc_yX12_addCost (Nat.le_of_ble_eq_true rfl) (Nat.le_of_ble_eq_true rfl) rfl rfl wy_yX12_addCost rfl ⟨by decide, by decide⟩ (Nat.le_of_ble_eq_true rfl) ?_
          obtain ⟨rfl, rfl⟩ := am_pair h
          exact am_iret d_X12_done_88 hF hB
        · refine am_if_le_f (t := 84) d_X12_done_77 (by decide) hc hF ?_
          refine am_seg s_M_done_11 (y := (85, [(0, .ref 140), (1, .int a1)], [.int (nI 1), .int x4.1, .int (x3.2.1 141 0), .int x3.1, .ref 140], am_D x5.2)) hF t_s_M_done_11 rfl rfl ?_
          refine am_bd h (fun x7 hx h => ?_)
          refine am_callV (As := [.int x3.1, .int (x3.2.1 141 0), .int x4.1, .int (nI 1)]) (r := (some (.int x7.1))) (st := []) (σ' := am_D x7.2) (ci := 12) hF hR d_X12_done_85 (c_M_addCost (τ' := x7.2) hx) (Nat.le_refl _) (Nat.le_refl _) wl_M_229 wi_yX12_addCost we_yX12_addCost wn_ShareHouseModel wc_yX12_addCost (Nat.le_of_ble_eq_true rfl) (Nat.le_of_ble_eq_true rfl) rfl rfl wy_yX12_addCost rfl ⟨by decide, by decide⟩ (Nat.le_of_ble_eq_true rfl) ?_
          obtain ⟨rfl, rfl⟩ := am_pair h
          exact am_iret d_X12_done_88 hF hB
theorem c_M_done {a1 : Int32} {v : Int32} {τ τ' : am_T} (h : M_done τ a1 = some (v, τ')) : am_C yX12_done cX12_done 2 (some .int) 2 43 [.ref 140, .int a1] (am_D τ) (some (.int v)) (am_D τ') :=
  am_enter (by decide +kernel) (Nat.le_of_ble_eq_true rfl) ⟨Nat.le_refl _, Nat.le_refl _⟩ (fun X hF hR hB => ok_M_done hF hR hB h)
def s_M_capped_0 : List am_Q := [(0, .aload_n 0, 0, 0, 0, .null), (1, .iload_n 1, 0, 0, 0, .null)]
theorem t_s_M_capped_0 : s_M_capped_0.all (am_ok 12 cX12_capped) = true := by decide +kernel
theorem d_X12_capped_2 : decode cX12_capped 2 = .ok (.invokevirtual 281, 3) := by decide +kernel
theorem d_X12_capped_5 : decode cX12_capped 5 = .ok (.ifCond .ne 7, 3) := by decide +kernel
def s_M_capped_1 : List am_Q := [(12, .aload_n 0, 0, 0, 0, .null), (13, .iload_n 1, 0, 0, 0, .null), (14, .iconst 2, 0, 0, 0, .int (nI 2))]
theorem t_s_M_capped_1 : s_M_capped_1.all (am_ok 12 cX12_capped) = true := by decide +kernel
theorem d_X12_capped_15 : decode cX12_capped 15 = .ok (.invokevirtual 284, 3) := by decide +kernel
def s_M_capped_2 : List am_Q := [(18, .iconst 1, 0, 0, 0, .int (nI 1))]
theorem t_s_M_capped_2 : s_M_capped_2.all (am_ok 12 cX12_capped) = true := by decide +kernel
theorem d_X12_capped_19 : decode cX12_capped 19 = .ok (.if_icmp .ne 8, 3) := by decide +kernel
def s_M_capped_3 : List am_Q := [(27, .aload_n 0, 0, 0, 0, .null), (28, .iload_n 1, 0, 0, 0, .null)]
theorem t_s_M_capped_3 : s_M_capped_3.all (am_ok 12 cX12_capped) = true := by decide +kernel
theorem d_X12_capped_29 : decode cX12_capped 29 = .ok (.invokevirtual 287, 3) := by decide +kernel
theorem d_X12_capped_32 : decode cX12_capped 32 = .ok (.ireturn, 1) := by decide +kernel
def s_M_capped_4 : List am_Q := [(22, .bipush (-4), 0, 0, 0, .int (-4 : Int32)), (24, .goto 8, 32, 0, 0, .null)]
theorem t_s_M_capped_4 : s_M_capped_4.all (am_ok 12 cX12_capped) = true := by decide +kernel
def s_M_capped_5 : List am_Q := [(8, .iconst (-1), 0, 0, 0, .int (-1 : Int32)), (9, .goto 23, 32, 0, 0, .null)]
theorem t_s_M_capped_5 : s_M_capped_5.all (am_ok 12 cX12_capped) = true := by decide +kernel
def M_capped (τ : am_T) (a1 : Int32) : Option (Int32 × am_T) :=
  (M_isWork τ a1).bind (fun x1 =>
  if x1.1 = 0 then
  (some ((-1 : Int32), x1.2))
else
  ((M_workOf x1.2 a1 (nI 2)).bind (fun x2 =>
  if x2.1 = (nI 1) then
  (some ((-4 : Int32), x2.2))
else
  ((M_cappedBy x2.2 a1).bind (fun x3 =>
  some (x3.1, x3.2))))))
set_option maxRecDepth 20000 in
theorem ok_M_capped {X : am_X} {a1 : Int32} {v : Int32} {τ τ' : am_T} (hF : am_F X "ShareHouseModel" cX12_capped 2) (hR : am_R X 2 43) (hB : am_B X (some .int) (some (.int v)) (am_D τ')) (h : M_capped τ a1 = some (v, τ')) : am_W X 2 (0, [(0, .ref 140), (1, .int a1)], [], am_D τ) := by
  unfold M_capped at h
  refine am_seg s_M_capped_0 (y := (2, [(0, .ref 140), (1, .int a1)], [.int a1, .ref 140], am_D τ)) hF t_s_M_capped_0 rfl rfl ?_
  refine am_bd h (fun x1 hx h => ?_)
  refine am_callV (As := [.int a1]) (r := (some (.int x1.1))) (st := []) (σ' := am_D x1.2) (ci := 12) hF hR d_X12_capped_2 (c_M_isWork (τ' := x1.2) hx) (Nat.le_refl _) (Nat.le_refl _) wl_M_281 wi_yX12_isWork we_yX12_isWork wn_ShareHouseModel wc_yX12_isWork (Nat.le_of_ble_eq_true rfl) (Nat.le_of_ble_eq_true rfl) rfl rfl wy_yX12_isWork rfl ⟨by decide, by decide⟩ (Nat.le_of_ble_eq_true rfl) ?_
  refine am_ite h (fun hc h => ?_) (fun hc h => ?_)
  · refine am_if_ne_f (t := 12) d_X12_capped_5 (by decide) hc hF ?_
    refine am_seg s_M_capped_5 (y := (32, [(0, .ref 140), (1, .int a1)], [.int (-1 : Int32)], am_D x1.2)) hF t_s_M_capped_5 rfl rfl ?_
    obtain ⟨rfl, rfl⟩ := am_pair h
    exact am_iret d_X12_capped_32 hF hB
  · refine am_if_ne_t (t := 12) d_X12_capped_5 (by decide) hc hF ?_
    refine am_seg s_M_capped_1 (y := (15, [(0, .ref 140), (1, .int a1)], [.int (nI 2), .int a1, .ref 140], am_D x1.2)) hF t_s_M_capped_1 rfl rfl ?_
    refine am_bd h (fun x2 hx h => ?_)
    refine am_callV (As := [.int a1, .int (nI 2)]) (r := (some (.int x2.1))) (st := []) (σ' := am_D x2.2) (ci := 12) hF hR d_X12_capped_15 (c_M_workOf (τ' := x2.2) hx) (Nat.le_refl _) (Nat.le_refl _) wl_M_284 wi_yX12_workOf we_yX12_workOf wn_ShareHouseModel wc_yX12_workOf (Nat.le_of_ble_eq_true rfl) (Nat.le_of_ble_eq_true rfl) rfl rfl wy_yX12_workOf rfl ⟨by decide, by decide⟩ (Nat.le_of_ble_eq_true rfl) ?_
    refine am_seg s_M_capped_2 (y := (19, [(0, .ref 140), (1, .int a1)], [.int (nI 1), .int x2.1], am_D x2.2)) hF t_s_M_capped_2 rfl rfl ?_
    refine am_ite h (fun hc h => ?_) (fun hc h => ?_)
    · refine am_icmp_ne_f (t := 27) d_X12_capped_19 (by decide) hc hF ?_
      refine am_seg s_M_capped_4 (y := (32, [(0, .ref 140), (1, .int a1)], [.int (-4 : Int32)], am_D x2.2)) hF t_s_M_capped_4 rfl rfl ?_
      obtain ⟨rfl, rfl⟩ := am_pair h
      exact am_iret d_X12_capped_32 hF hB
    · refine am_icmp_ne_t (t := 27) d_X12_capped_19 (by decide) hc hF ?_
      refine am_seg s_M_capped_3 (y := (29, [(0, .ref 140), (1, .int a1)], [.int a1, .ref 140], am_D x2.2)) hF t_s_M_capped_3 rfl rfl ?_
      refine am_bd h (fun x3 hx h => ?_)
      refine am_callV (As := [.int a1]) (r := (some (.int x3.1))) (st := []) (σ' := am_D x3.2) (ci := 12) hF hR d_X12_capped_29 (c_M_cappedBy (τ' := x3.2) hx) (Nat.le_refl _) (Nat.le_refl _) wl_M_287 wi_yX12_cappedBy we_yX12_cappedBy wn_ShareHouseModel wc_yX12_cappedBy (Nat.le_of_ble_eq_true rfl) (Nat.le_of_ble_eq_true rfl) rfl rfl wy_yX12_cappedBy rfl ⟨by decide, by decide⟩ (Nat.le_of_ble_eq_true rfl) ?_
      obtain ⟨rfl, rfl⟩ := am_pair h
      exact am_iret d_X12_capped_32 hF hB
theorem c_M_capped {a1 : Int32} {v : Int32} {τ τ' : am_T} (h : M_capped τ a1 = some (v, τ')) : am_C yX12_capped cX12_capped 2 (some .int) 2 43 [.ref 140, .int a1] (am_D τ) (some (.int v)) (am_D τ') :=
  am_enter (by decide +kernel) (Nat.le_of_ble_eq_true rfl) ⟨Nat.le_refl _, Nat.le_refl _⟩ (fun X hF hR hB => ok_M_capped hF hR hB h)

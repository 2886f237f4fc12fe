def s_Ac_howManyAhead_0 : List am_Q := [(0, .iconst 0, 0, 0, 0, .int (nI 0)), (1, .istore_n 2, 0, 0, 0, .null), (2, .iconst 0, 0, 0, 0, .int (nI 0)), (3, .istore_n 3, 0, 0, 0, .null)]
theorem t_s_Ac_howManyAhead_0 : s_Ac_howManyAhead_0.all (am_ok 0 cX0_howManyAhead) = true := by decide +kernel
def s_Ac_howManyAhead_1 : List am_Q := [(4, .iload_n 3, 0, 0, 0, .null), (5, .bipush 8, 0, 0, 0, .int (nI 8))]
theorem t_s_Ac_howManyAhead_1 : s_Ac_howManyAhead_1.all (am_ok 0 cX0_howManyAhead) = true := by decide +kernel
theorem d_X0_howManyAhead_7 : decode cX0_howManyAhead 7 = .ok (.if_icmp .ge 47, 3) := by decide +kernel
def s_Ac_howManyAhead_2 : List am_Q := [(54, .iload_n 2, 0, 0, 0, .null)]
theorem t_s_Ac_howManyAhead_2 : s_Ac_howManyAhead_2.all (am_ok 0 cX0_howManyAhead) = true := by decide +kernel
theorem d_X0_howManyAhead_55 : decode cX0_howManyAhead 55 = .ok (.ireturn, 1) := by decide +kernel
def s_Ac_howManyAhead_3 : List am_Q := [(10, .aload_n 0, 0, 0, 0, .null), (11, .getfield 20, 0, 2, 143, .null), (14, .iload_n 3, 0, 0, 0, .null)]
theorem t_s_Ac_howManyAhead_3 : s_Ac_howManyAhead_3.all (am_ok 0 cX0_howManyAhead) = true := by decide +kernel
theorem d_X0_howManyAhead_15 : decode cX0_howManyAhead 15 = .ok (.iaload, 1) := by decide +kernel
def s_Ac_howManyAhead_4 : List am_Q := [(16, .aload_n 0, 0, 0, 0, .null), (17, .getfield 20, 0, 2, 143, .null), (20, .iload_n 1, 0, 0, 0, .null)]
theorem t_s_Ac_howManyAhead_4 : s_Ac_howManyAhead_4.all (am_ok 0 cX0_howManyAhead) = true := by decide +kernel
theorem d_X0_howManyAhead_21 : decode cX0_howManyAhead 21 = .ok (.iaload, 1) := by decide +kernel
theorem d_X0_howManyAhead_22 : decode cX0_howManyAhead 22 = .ok (.if_icmp .gt 23, 3) := by decide +kernel
def s_Ac_howManyAhead_5 : List am_Q := [(45, .iinc 2 1, 0, 0, 0, .int (nI 1)), (48, .iinc 3 1, 0, 0, 0, .int (nI 1)), (51, .goto (-47), 4, 0, 0, .null)]
theorem t_s_Ac_howManyAhead_5 : s_Ac_howManyAhead_5.all (am_ok 0 cX0_howManyAhead) = true := by decide +kernel
def s_Ac_howManyAhead_6 : List am_Q := [(25, .aload_n 0, 0, 0, 0, .null), (26, .getfield 20, 0, 2, 143, .null), (29, .iload_n 3, 0, 0, 0, .null)]
theorem t_s_Ac_howManyAhead_6 : s_Ac_howManyAhead_6.all (am_ok 0 cX0_howManyAhead) = true := by decide +kernel
theorem d_X0_howManyAhead_30 : decode cX0_howManyAhead 30 = .ok (.iaload, 1) := by decide +kernel
def s_Ac_howManyAhead_7 : List am_Q := [(31, .aload_n 0, 0, 0, 0, .null), (32, .getfield 20, 0, 2, 143, .null), (35, .iload_n 1, 0, 0, 0, .null)]
theorem t_s_Ac_howManyAhead_7 : s_Ac_howManyAhead_7.all (am_ok 0 cX0_howManyAhead) = true := by decide +kernel
theorem d_X0_howManyAhead_36 : decode cX0_howManyAhead 36 = .ok (.iaload, 1) := by decide +kernel
theorem d_X0_howManyAhead_37 : decode cX0_howManyAhead 37 = .ok (.if_icmp .ne 11, 3) := by decide +kernel
def s_Ac_howManyAhead_8 : List am_Q := [(48, .iinc 3 1, 0, 0, 0, .int (nI 1)), (51, .goto (-47), 4, 0, 0, .null)]
theorem t_s_Ac_howManyAhead_8 : s_Ac_howManyAhead_8.all (am_ok 0 cX0_howManyAhead) = true := by decide +kernel
def s_Ac_howManyAhead_9 : List am_Q := [(40, .iload_n 3, 0, 0, 0, .null), (41, .iload_n 1, 0, 0, 0, .null)]
theorem t_s_Ac_howManyAhead_9 : s_Ac_howManyAhead_9.all (am_ok 0 cX0_howManyAhead) = true := by decide +kernel
theorem d_X0_howManyAhead_42 : decode cX0_howManyAhead 42 = .ok (.if_icmp .ge 6, 3) := by decide +kernel
def s_Ac_howManyAhead_10 : List am_Q := [(48, .iinc 3 1, 0, 0, 0, .int (nI 1)), (51, .goto (-47), 4, 0, 0, .null)]
theorem t_s_Ac_howManyAhead_10 : s_Ac_howManyAhead_10.all (am_ok 0 cX0_howManyAhead) = true := by decide +kernel
def s_Ac_howManyAhead_11 : List am_Q := [(45, .iinc 2 1, 0, 0, 0, .int (nI 1)), (48, .iinc 3 1, 0, 0, 0, .int (nI 1)), (51, .goto (-47), 4, 0, 0, .null)]
theorem t_s_Ac_howManyAhead_11 : s_Ac_howManyAhead_11.all (am_ok 0 cX0_howManyAhead) = true := by decide +kernel
def Ac_howManyAhead_4 : Nat → am_T → Int32 → Int32 → Int32 → Option (Int32 × am_T)
  | 0, _, _, _, _ => none
  | n + 1, τ, a1, a2, a3 =>
    if (nI 8) ≤ a3 then
  (some (a2, τ))
else
  (am_g (am_in a3 8) (am_g (am_in a1 8) (if (τ.1 138 (a1.toNatClampNeg)) < (τ.1 138 (a3.toNatClampNeg)) then
  ((Ac_howManyAhead_4 n) τ a1 (a2 + (nI 1)) (a3 + (nI 1)))
else
  (am_g (am_in a3 8) (am_g (am_in a1 8) (if (τ.1 138 (a3.toNatClampNeg)) = (τ.1 138 (a1.toNatClampNeg)) then
  (if a1 ≤ a3 then
  ((Ac_howManyAhead_4 n) τ a1 a2 (a3 + (nI 1)))
else
  ((Ac_howManyAhead_4 n) τ a1 (a2 + (nI 1)) (a3 + (nI 1))))
else
  ((Ac_howManyAhead_4 n) τ a1 a2 (a3 + (nI 1)))))))))
set_option maxRecDepth 20000 in
theorem ok_Ac_howManyAhead_4 {X : am_X} {v : Int32} {τ' : am_T} (hF : am_F X "ShareHouse$Accounts" cX0_howManyAhead 4) (hR : am_R X 0 0) (hB : am_B X (some .int) (some (.int v)) (am_D τ')) : ∀ (n : Nat) (τ : am_T) (a1 : Int32) (a2 : Int32) (a3 : Int32), Ac_howManyAhead_4 n τ a1 a2 a3 = some (v, τ') → am_W X 4 (4, [(0, .ref 127), (1, .int a1), (2, .int a2), (3, .int a3)], [], am_D τ) := by
  intro n
  induction n with
  | zero => intro τ a1 a2 a3 h; unfold Ac_howManyAhead_4 at h; cases h
  | succ n ih =>
    intro τ a1 a2 a3 h
    unfold Ac_howManyAhead_4 at h
    refine am_seg s_Ac_howManyAhead_1 (y := (7, [(0, .ref 127), (1, .int a1), (2, .int a2), (3, .int a3)], [.int (nI 8), .int a3], am_D τ)) hF t_s_Ac_howManyAhead_1 rfl rfl ?_
    refine am_ite h (fun hc h => ?_) (fun hc h => ?_)
    · refine am_icmp_ge_t (t := 54) d_X0_howManyAhead_7 (by decide) hc hF ?_
      refine am_seg s_Ac_howManyAhead_2 (y := (55, [(0, .ref 127), (1, .int a1), (2, .int a2), (3, .int a3)], [.int a2], am_D τ)) hF t_s_Ac_howManyAhead_2 rfl rfl ?_
      obtain ⟨rfl, rfl⟩ := am_pair h
      exact am_iret d_X0_howManyAhead_55 hF hB
    · refine am_icmp_ge_f (t := 54) d_X0_howManyAhead_7 (by decide) hc hF ?_
      refine am_seg s_Ac_howManyAhead_3 (y := (15, [(0, .ref 127), (1, .int a1), (2, .int a2), (3, .int a3)], [.int a3, .ref 138], am_D τ)) hF t_s_Ac_howManyAhead_3 rfl rfl ?_
      refine am_gd h (fun hi h => ?_)
      refine am_iald (n := 8) (j := (a3.toNatClampNeg)) d_X0_howManyAhead_15 (Nat.le_of_ble_eq_true rfl) (Nat.le_of_ble_eq_true rfl) rfl hi rfl hF ?_
      refine am_seg s_Ac_howManyAhead_4 (y := (21, [(0, .ref 127), (1, .int a1), (2, .int a2), (3, .int a3)], [.int a1, .ref 138, .int (τ.1 138 (a3.toNatClampNeg))], am_D τ)) hF t_s_Ac_howManyAhead_4 rfl rfl ?_
      refine am_gd h (fun hi h => ?_)
      refine am_iald (n := 8) (j := (a1.toNatClampNeg)) d_X0_howManyAhead_21 (Nat.le_of_ble_eq_true rfl) (Nat.le_of_ble_eq_true rfl) rfl hi rfl hF ?_
      refine am_ite h (fun hc h => ?_) (fun hc h => ?_)
      · refine am_icmp_gt_t (t := 45) d_X0_howManyAhead_22 (by decide) hc hF ?_
        refine am_seg s_Ac_howManyAhead_5 (y := (4, [(3, .int (a3 + (nI 1))), (2, .int (a2 + (nI 1))), (0, .ref 127), (1, .int a1)], [], am_D τ)) hF t_s_Ac_howManyAhead_5 rfl rfl ?_
        refine am_pick [2, 3, 1, 0] rfl ?_
        exact ih _ _ _ _ h
      · refine am_icmp_gt_f (t := 45) d_X0_howManyAhead_22 (by decide) hc hF ?_
        refine am_seg s_Ac_howManyAhead_6 (y := (30, [(0, .ref 127), (1, .int a1), (2, .int a2), (3, .int a3)], [.int a3, .ref 138], am_D τ)) hF t_s_Ac_howManyAhead_6 rfl rfl ?_
        refine am_gd h (fun hi h => ?_)
        refine am_iald (n := 8) (j := (a3.toNatClampNeg)) d_X0_howManyAhead_30 (Nat.le_of_ble_eq_true rfl) (Nat.le_of_ble_eq_true rfl) rfl hi rfl hF ?_
        refine am_seg s_Ac_howManyAhead_7 (y := (36, [(0, .ref 127), (1, .int a1), (2, .int a2), (3, .int a3)], [.int a1, .ref 138, .int (τ.1 138 (a3.toNatClampNeg))], am_D τ)) hF t_s_Ac_howManyAhead_7 rfl rfl ?_
        refine am_gd h (fun hi h => ?_)
        refine am_iald (n := 8) (j := (a1.toNatClampNeg)) d_X0_howManyAhead_36 (Nat.le_of_ble_eq_true rfl) (Nat.le_of_ble_eq_true rfl) rfl hi rfl hF ?_
        refine am_ite h (fun hc h => ?_) (fun hc h => ?_)
        · refine am_icmp_ne_f (t := 48) d_X0_howManyAhead_37 (by decide) hc hF ?_
          refine am_seg s_Ac_howManyAhead_9 (y := (42, [(0, .ref 127), (1, .int a1), (2, .int a2), (3, .int a3)], [.int a1, .int a3], am_D τ)) hF t_s_Ac_howManyAhead_9 rfl rfl ?_
          refine am_ite h (fun hc h => ?_) (fun hc h => ?_)
          · refine am_icmp_ge_t (t := 48) d_X0_howManyAhead_42 (by decide) hc hF ?_
            refine am_seg s_Ac_howManyAhead_10 (y := (4, [(3, .int (a3 + (nI 1))), (0, .ref 127), (1, .int a1), (2, .int a2)], [], am_D τ)) hF t_s_Ac_howManyAhead_10 rfl rfl ?_
            refine am_pick [1, 2, 3, 0] rfl ?_
            exact ih _ _ _ _ h
          · refine am_icmp_ge_f (t := 48) d_X0_howManyAhead_42 (by decide) hc hF ?_
            refine am_seg s_Ac_howManyAhead_11 (y := (4, [(3, .int (a3 + (nI 1))), (2, .int (a2 + (nI 1))), (0, .ref 127), (1, .int a1)], [], am_D τ)) hF t_s_Ac_howManyAhead_11 rfl rfl ?_
            refine am_pick [2, 3, 1, 0] rfl ?_
            exact ih _ _ _ _ h
        · refine am_icmp_ne_t (t := 48) d_X0_howManyAhead_37 (by decide) hc hF ?_
          refine am_seg s_Ac_howManyAhead_8 (y := (4, [(3, .int (a3 + (nI 1))), (0, .ref 127), (1, .int a1), (2, .int a2)], [], am_D τ)) hF t_s_Ac_howManyAhead_8 rfl rfl ?_
          refine am_pick [1, 2, 3, 0] rfl ?_
          exact ih _ _ _ _ h
def Ac_howManyAhead (τ : am_T) (a1 : Int32) : Option (Int32 × am_T) :=
  Ac_howManyAhead_4 5000 τ a1 (nI 0) (nI 0)
set_option maxRecDepth 20000 in
theorem ok_Ac_howManyAhead {X : am_X} {a1 : Int32} {v : Int32} {τ τ' : am_T} (hF : am_F X "ShareHouse$Accounts" cX0_howManyAhead 4) (hR : am_R X 0 0) (hB : am_B X (some .int) (some (.int v)) (am_D τ')) (h : Ac_howManyAhead τ a1 = some (v, τ')) : am_W X 4 (0, [(0, .ref 127), (1, .int a1)], [], am_D τ) := by
  unfold Ac_howManyAhead at h
  refine am_seg s_Ac_howManyAhead_0 (y := (4, [(3, .int (nI 0)), (2, .int (nI 0)), (0, .ref 127), (1, .int a1)], [], am_D τ)) hF t_s_Ac_howManyAhead_0 rfl rfl ?_
  refine am_pick [2, 3, 1, 0] rfl ?_
  exact ok_Ac_howManyAhead_4 hF hR hB _ _ _ _ _ h
theorem c_Ac_howManyAhead {a1 : Int32} {v : Int32} {τ τ' : am_T} (h : Ac_howManyAhead τ a1 = some (v, τ')) : am_C yX0_howManyAhead cX0_howManyAhead 4 (some .int) 0 0 [.ref 127, .int a1] (am_D τ) (some (.int v)) (am_D τ') :=
  am_enter (by decide +kernel) (Nat.le_of_ble_eq_true rfl) ⟨Nat.le_refl _, Nat.le_refl _⟩ (fun X hF hR hB => ok_Ac_howManyAhead hF hR hB h)
def s_Ac_askedAt_0 : List am_Q := [(0, .iconst 0, 0, 0, 0, .int (nI 0)), (1, .istore 4, 0, 0, 0, .null)]
theorem t_s_Ac_askedAt_0 : s_Ac_askedAt_0.all (am_ok 0 cX0_askedAt) = true := by decide +kernel
def s_Ac_askedAt_1 : List am_Q := [(3, .iload 4, 0, 0, 0, .null), (5, .bipush 8, 0, 0, 0, .int (nI 8))]
theorem t_s_Ac_askedAt_1 : s_Ac_askedAt_1.all (am_ok 0 cX0_askedAt) = true := by decide +kernel
theorem d_X0_askedAt_7 : decode cX0_askedAt 7 = .ok (.if_icmp .ge 33, 3) := by decide +kernel
def s_Ac_askedAt_2 : List am_Q := [(40, .iconst 0, 0, 0, 0, .int (nI 0)), (41, .istore 4, 0, 0, 0, .null), (43, .iconst 0, 0, 0, 0, .int (nI 0)), (44, .istore 5, 0, 0, 0, .null)]
theorem t_s_Ac_askedAt_2 : s_Ac_askedAt_2.all (am_ok 0 cX0_askedAt) = true := by decide +kernel
def s_Ac_askedAt_3 : List am_Q := [(46, .iload 5, 0, 0, 0, .null), (48, .bipush 8, 0, 0, 0, .int (nI 8))]
theorem t_s_Ac_askedAt_3 : s_Ac_askedAt_3.all (am_ok 0 cX0_askedAt) = true := by decide +kernel
theorem d_X0_askedAt_50 : decode cX0_askedAt 50 = .ok (.if_icmp .ge 23, 3) := by decide +kernel
def s_Ac_askedAt_4 : List am_Q := [(73, .iload 4, 0, 0, 0, .null)]
theorem t_s_Ac_askedAt_4 : s_Ac_askedAt_4.all (am_ok 0 cX0_askedAt) = true := by decide +kernel
theorem d_X0_askedAt_75 : decode cX0_askedAt 75 = .ok (.ireturn, 1) := by decide +kernel
def s_Ac_askedAt_5 : List am_Q := [(53, .aload_n 0, 0, 0, 0, .null), (54, .iload 5, 0, 0, 0, .null)]
theorem t_s_Ac_askedAt_5 : s_Ac_askedAt_5.all (am_ok 0 cX0_askedAt) = true := by decide +kernel
theorem d_X0_askedAt_56 : decode cX0_askedAt 56 = .ok (.invokevirtual 132, 3) := by decide +kernel
def s_Ac_askedAt_6 : List am_Q := [(59, .iload_n 2, 0, 0, 0, .null)]
theorem t_s_Ac_askedAt_6 : s_Ac_askedAt_6.all (am_ok 0 cX0_askedAt) = true := by decide +kernel
theorem d_X0_askedAt_60 : decode cX0_askedAt 60 = .ok (.if_icmp .ne 7, 3) := by decide +kernel
def s_Ac_askedAt_7 : List am_Q := [(67, .iinc 5 1, 0, 0, 0, .int (nI 1)), (70, .goto (-24), 46, 0, 0, .null)]
theorem t_s_Ac_askedAt_7 : s_Ac_askedAt_7.all (am_ok 0 cX0_askedAt) = true := by decide +kernel
def s_Ac_askedAt_8 : List am_Q := [(63, .iload 5, 0, 0, 0, .null), (65, .istore 4, 0, 0, 0, .null), (67, .iinc 5 1, 0, 0, 0, .int (nI 1)), (70, .goto (-24), 46, 0, 0, .null)]
theorem t_s_Ac_askedAt_8 : s_Ac_askedAt_8.all (am_ok 0 cX0_askedAt) = true := by decide +kernel
def s_Ac_askedAt_9 : List am_Q := [(10, .aload_n 0, 0, 0, 0, .null), (11, .getfield 20, 0, 2, 143, .null), (14, .iload 4, 0, 0, 0, .null), (16, .aload_n 0, 0, 0, 0, .null), (17, .aload_n 1, 0, 0, 0, .null), (18, .iload 4, 0, 0, 0, .null), (20, .iload_n 3, 0, 0, 0, .null)]
theorem t_s_Ac_askedAt_9 : s_Ac_askedAt_9.all (am_ok 0 cX0_askedAt) = true := by decide +kernel
theorem d_X0_askedAt_21 : decode cX0_askedAt 21 = .ok (.invokevirtual 125, 3) := by decide +kernel
def s_Ac_askedAt_10 : List am_Q := [(24, .aload_n 0, 0, 0, 0, .null), (25, .aload_n 1, 0, 0, 0, .null), (26, .iload 4, 0, 0, 0, .null), (28, .iload_n 3, 0, 0, 0, .null)]
theorem t_s_Ac_askedAt_10 : s_Ac_askedAt_10.all (am_ok 0 cX0_askedAt) = true := by decide +kernel
theorem d_X0_askedAt_29 : decode cX0_askedAt 29 = .ok (.invokevirtual 129, 3) := by decide +kernel
def s_Ac_askedAt_11 : List am_Q := [(32, .iadd, 0, 0, 0, .null)]
theorem t_s_Ac_askedAt_11 : s_Ac_askedAt_11.all (am_ok 0 cX0_askedAt) = true := by decide +kernel
theorem d_X0_askedAt_33 : decode cX0_askedAt 33 = .ok (.iastore, 1) := by decide +kernel
def s_Ac_askedAt_12 : List am_Q := [(34, .iinc 4 1, 0, 0, 0, .int (nI 1)), (37, .goto (-34), 3, 0, 0, .null)]
theorem t_s_Ac_askedAt_12 : s_Ac_askedAt_12.all (am_ok 0 cX0_askedAt) = true := by decide +kernel
def Ac_askedAt_46 : Nat → am_T → Int32 → Int32 → Int32 → Option (Int32 × am_T)
  | 0, _, _, _, _ => none
  | n + 1, τ, a2, a4, a5 =>
    if (nI 8) ≤ a5 then
  (some (a4, τ))
else
  ((Ac_howManyAhead τ a5).bind (fun x1 =>
  if x1.1 = a2 then
  ((Ac_askedAt_46 n) x1.2 a2 a5 (a5 + (nI 1)))
else
  ((Ac_askedAt_46 n) x1.2 a2 a4 (a5 + (nI 1)))))
set_option maxRecDepth 20000 in
theorem ok_Ac_askedAt_46 {X : am_X} {v : Int32} {τ' : am_T} (hF : am_F X "ShareHouse$Accounts" cX0_askedAt 6) (hR : am_R X 3 77) (hB : am_B X (some .int) (some (.int v)) (am_D τ')) : ∀ (n : Nat) (τ : am_T) (a2 : Int32) (a4 : Int32) (a5 : Int32), Ac_askedAt_46 n τ a2 a4 a5 = some (v, τ') → am_W X 6 (46, [(0, .ref 127), (2, .int a2), (4, .int a4), (5, .int a5)], [], am_D τ) := by
  intro n
  induction n with
  | zero => intro τ a2 a4 a5 h; unfold Ac_askedAt_46 at h; cases h
  | succ n ih =>
    intro τ a2 a4 a5 h
    unfold Ac_askedAt_46 at h
    refine am_seg s_Ac_askedAt_3 (y := (50, [(0, .ref 127), (2, .int a2), (4, .int a4), (5, .int a5)], [.int (nI 8), .int a5], am_D τ)) hF t_s_Ac_askedAt_3 rfl rfl ?_
    refine am_ite h (fun hc h => ?_) (fun hc h => ?_)
    · refine am_icmp_ge_t (t := 73) d_X0_askedAt_50 (by decide) hc hF ?_
      refine am_seg s_Ac_askedAt_4 (y := (75, [(0, .ref 127), (2, .int a2), (4, .int a4), (5, .int a5)], [.int a4], am_D τ)) hF t_s_Ac_askedAt_4 rfl rfl ?_
      obtain ⟨rfl, rfl⟩ := am_pair h
      exact am_iret d_X0_askedAt_75 hF hB
    · refine am_icmp_ge_f (t := 73) d_X0_askedAt_50 (by decide) hc hF ?_
      refine am_seg s_Ac_askedAt_5 (y := (56, [(0, .ref 127), (2, .int a2), (4, .int a4), (5, .int a5)], [.int a5, .ref 127], am_D τ)) hF t_s_Ac_askedAt_5 rfl rfl ?_
      refine am_bd h (fun x1 hx h => ?_)
      refine am_callV (As := [.int a5]) (r := (some (.int x1.1))) (st := []) (σ' := am_D x1.2) (ci := 0) hF hR d_X0_askedAt_56 (c_Ac_howManyAhead (τ' := x1.2) hx) (Nat.le_refl _) (Nat.le_refl _) wl_Ac_132 wi_yX0_howManyAhead we_yX0_howManyAhead wn_ShareHouse_Accounts wc_yX0_howManyAhead (Nat.le_of_ble_eq_true rfl) (Nat.le_of_ble_eq_true rfl) rfl rfl wy_yX0_howManyAhead rfl ⟨by decide, by decide⟩ (Nat.le_of_ble_eq_true rfl) ?_
      refine am_seg s_Ac_askedAt_6 (y := (60, [(0, .ref 127), (2, .int a2), (4, .int a4), (5, .int a5)], [.int a2, .int x1.1], am_D x1.2)) hF t_s_Ac_askedAt_6 rfl rfl ?_
      refine am_ite h (fun hc h => ?_) (fun hc h => ?_)
      · refine am_icmp_ne_f (t := 67) d_X0_askedAt_60 (by decide) hc hF ?_
        refine am_seg s_Ac_askedAt_8 (y := (46, [(5, .int (a5 + (nI 1))), (4, .int a5), (0, .ref 127), (2, .int a2)], [], am_D x1.2)) hF t_s_Ac_askedAt_8 rfl rfl ?_
        refine am_pick [2, 3, 1, 0] rfl ?_
        exact ih _ _ _ _ h
      · refine am_icmp_ne_t (t := 67) d_X0_askedAt_60 (by decide) hc hF ?_
        refine am_seg s_Ac_askedAt_7 (y := (46, [(5, .int (a5 + (nI 1))), (0, .ref 127), (2, .int a2), (4, .int a4)], [], am_D x1.2)) hF t_s_Ac_askedAt_7 rfl rfl ?_
        refine am_pick [1, 2, 3, 0] rfl ?_
        exact ih _ _ _ _ h
def Ac_askedAt_3 : Nat → am_T → Int32 → Int32 → Int32 → Option (Int32 × am_T)
  | 0, _, _, _, _ => none
  | n + 1, τ, a2, a3, a4 =>
    if (nI 8) ≤ a4 then
  (Ac_askedAt_46 5000 τ a2 (nI 0) (nI 0))
else
  ((Ac_balanceOf τ a4 a3).bind (fun x2 =>
  (Ac_interestOf x2.2 a4 a3).bind (fun x3 =>
  am_g (am_in a4 8) ((Ac_askedAt_3 n) (am_si x3.2 138 (a4.toNatClampNeg) (x2.1 + x3.1)) a2 a3 (a4 + (nI 1))))))
set_option maxRecDepth 20000 in
theorem ok_Ac_askedAt_3 {X : am_X} {v : Int32} {τ' : am_T} (hF : am_F X "ShareHouse$Accounts" cX0_askedAt 6) (hR : am_R X 3 77) (hB : am_B X (some .int) (some (.int v)) (am_D τ')) : ∀ (n : Nat) (τ : am_T) (a2 : Int32) (a3 : Int32) (a4 : Int32), Ac_askedAt_3 n τ a2 a3 a4 = some (v, τ') → am_W X 6 (3, [(0, .ref 127), (1, .ref 1), (2, .int a2), (3, .int a3), (4, .int a4)], [], am_D τ) := by
  intro n
  induction n with
  | zero => intro τ a2 a3 a4 h; unfold Ac_askedAt_3 at h; cases h
  | succ n ih =>
    intro τ a2 a3 a4 h
    unfold Ac_askedAt_3 at h
    refine am_seg s_Ac_askedAt_1 (y := (7, [(0, .ref 127), (1, .ref 1), (2, .int a2), (3, .int a3), (4, .int a4)], [.int (nI 8), .int a4], am_D τ)) hF t_s_Ac_askedAt_1 rfl rfl ?_
    refine am_ite h (fun hc h => ?_) (fun hc h => ?_)
    · refine am_icmp_ge_t (t := 40) d_X0_askedAt_7 (by decide) hc hF ?_
      refine am_seg s_Ac_askedAt_2 (y := (46, [(5, .int (nI 0)), (4, .int (nI 0)), (0, .ref 127), (1, .ref 1), (2, .int a2), (3, .int a3)], [], am_D τ)) hF t_s_Ac_askedAt_2 rfl rfl ?_
      refine am_pick [2, 4, 1, 0] rfl ?_
      exact ok_Ac_askedAt_46 hF hR hB _ _ _ _ _ h
    · refine am_icmp_ge_f (t := 40) d_X0_askedAt_7 (by decide) hc hF ?_
      refine am_seg s_Ac_askedAt_9 (y := (21, [(0, .ref 127), (1, .ref 1), (2, .int a2), (3, .int a3), (4, .int a4)], [.int a3, .int a4, .ref 1, .ref 127, .int a4, .ref 138], am_D τ)) hF t_s_Ac_askedAt_9 rfl rfl ?_
      refine am_bd h (fun x2 hx h => ?_)
      refine am_callV (As := [.ref 1, .int a4, .int a3]) (r := (some (.int x2.1))) (st := [.int a4, .ref 138]) (σ' := am_D x2.2) (ci := 0) hF hR d_X0_askedAt_21 (c_Ac_balanceOf (τ' := x2.2) hx) (Nat.le_refl _) (Nat.le_refl _) wl_Ac_125 wi_yX0_balanceOf we_yX0_balanceOf wn_ShareHouse_Accounts wc_yX0_balanceOf (Nat.le_of_ble_eq_true rfl) (Nat.le_of_ble_eq_true rfl) rfl rfl wy_yX0_balanceOf rfl ⟨by decide, by decide⟩ (Nat.le_of_ble_eq_true rfl) ?_
      refine am_seg s_Ac_askedAt_10 (y := (29, [(0, .ref 127), (1, .ref 1), (2, .int a2), (3, .int a3), (4, .int a4)], [.int a3, .int a4, .ref 1, .ref 127, .int x2.1, .int a4, .ref 138], am_D x2.2)) hF t_s_Ac_askedAt_10 rfl rfl ?_
      refine am_bd h (fun x3 hx h => ?_)
      refine am_callV (As := [.ref 1, .int a4, .int a3]) (r := (some (.int x3.1))) (st := [.int x2.1, .int a4, .ref 138]) (σ' := am_D x3.2) (ci := 0) hF hR d_X0_askedAt_29 (c_Ac_interestOf (τ' := x3.2) hx) (Nat.le_refl _) (Nat.le_refl _) wl_Ac_129 wi_yX0_interestOf we_yX0_interestOf wn_ShareHouse_Accounts wc_yX0_interestOf (Nat.le_of_ble_eq_true rfl) (Nat.le_of_ble_eq_true rfl) rfl rfl wy_yX0_interestOf rfl ⟨by decide, by decide⟩ (Nat.le_of_ble_eq_true rfl) ?_
      refine am_seg s_Ac_askedAt_11 (y := (33, [(0, .ref 127), (1, .ref 1), (2, .int a2), (3, .int a3), (4, .int a4)], [.int (x2.1 + x3.1), .int a4, .ref 138], am_D x3.2)) hF t_s_Ac_askedAt_11 rfl rfl ?_
      refine am_gd h (fun hi h => ?_)
      refine am_iast (n := 8) (j := (a4.toNatClampNeg)) d_X0_askedAt_33 (Nat.le_of_ble_eq_true rfl) (Nat.le_of_ble_eq_true rfl) rfl hi rfl hF ?_
      refine am_seg s_Ac_askedAt_12 (y := (3, [(4, .int (a4 + (nI 1))), (0, .ref 127), (1, .ref 1), (2, .int a2), (3, .int a3)], [], am_D (am_si x3.2 138 (a4.toNatClampNeg) (x2.1 + x3.1)))) hF t_s_Ac_askedAt_12 rfl rfl ?_
      refine am_pick [1, 2, 3, 4, 0] rfl ?_
      exact ih _ _ _ _ h
def Ac_askedAt (τ : am_T) (a2 : Int32) (a3 : Int32) : Option (Int32 × am_T) :=
  Ac_askedAt_3 5000 τ a2 a3 (nI 0)
set_option maxRecDepth 20000 in
theorem ok_Ac_askedAt {X : am_X} {a2 : Int32} {a3 : Int32} {v : Int32} {τ τ' : am_T} (hF : am_F X "ShareHouse$Accounts" cX0_askedAt 6) (hR : am_R X 3 77) (hB : am_B X (some .int) (some (.int v)) (am_D τ')) (h : Ac_askedAt τ a2 a3 = some (v, τ')) : am_W X 6 (0, [(0, .ref 127), (1, .ref 1), (2, .int a2), (3, .int a3)], [], am_D τ) := by
  unfold Ac_askedAt at h
  refine am_seg s_Ac_askedAt_0 (y := (3, [(4, .int (nI 0)), (0, .ref 127), (1, .ref 1), (2, .int a2), (3, .int a3)], [], am_D τ)) hF t_s_Ac_askedAt_0 rfl rfl ?_
  refine am_pick [1, 2, 3, 4, 0] rfl ?_
  exact ok_Ac_askedAt_3 hF hR hB _ _ _ _ _ h
theorem c_Ac_askedAt {a2 : Int32} {a3 : Int32} {v : Int32} {τ τ' : am_T} (h : Ac_askedAt τ a2 a3 = some (v, τ')) : am_C yX0_askedAt cX0_askedAt 6 (some .int) 3 77 [.ref 127, .ref 1, .int a2, .int a3] (am_D τ) (some (.int v)) (am_D τ') :=
  am_enter (by decide +kernel) (Nat.le_of_ble_eq_true rfl) ⟨Nat.le_refl _, Nat.le_refl _⟩ (fun X hF hR hB => ok_Ac_askedAt hF hR hB h)
def s_X_asked_0 : List am_Q := [(0, .iload_n 1, 0, 0, 0, .null), (1, .iconst 0, 0, 0, 0, .int (nI 0)), (2, .bipush 7, 0, 0, 0, .int (nI 7))]
theorem t_s_X_asked_0 : s_X_asked_0.all (am_ok 11 cX11_asked) = true := by decide +kernel
theorem d_X11_asked_4 : decode cX11_asked 4 = .ok (.invokestatic 47, 3) := by decide +kernel
theorem d_X11_asked_7 : decode cX11_asked 7 = .ok (.ifCond .eq 11, 3) := by decide +kernel
def s_X_asked_1 : List am_Q := [(18, .iconst (-1), 0, 0, 0, .int (-1 : Int32))]
theorem t_s_X_asked_1 : s_X_asked_1.all (am_ok 11 cX11_asked) = true := by decide +kernel
theorem d_X11_asked_19 : decode cX11_asked 19 = .ok (.ireturn, 1) := by decide +kernel
def s_X_asked_2 : List am_Q := [(10, .aload_n 0, 0, 0, 0, .null), (11, .iload_n 2, 0, 0, 0, .null)]
theorem t_s_X_asked_2 : s_X_asked_2.all (am_ok 11 cX11_asked) = true := by decide +kernel
theorem d_X11_asked_12 : decode cX11_asked 12 = .ok (.invokevirtual 153, 3) := by decide +kernel
theorem d_X11_asked_15 : decode cX11_asked 15 = .ok (.ifCond .ne 5, 3) := by decide +kernel
def s_X_asked_3 : List am_Q := [(20, .aload_n 0, 0, 0, 0, .null), (21, .getfield 43, 11, 6, 151, .null), (24, .aload_n 0, 0, 0, 0, .null), (25, .getfield 10, 11, 0, 145, .null), (28, .aload_n 0, 0, 0, 0, .null), (29, .getfield 36, 11, 5, 150, .null), (32, .iload_n 2, 0, 0, 0, .null)]
theorem t_s_X_asked_3 : s_X_asked_3.all (am_ok 11 cX11_asked) = true := by decide +kernel
theorem d_X11_asked_33 : decode cX11_asked 33 = .ok (.invokevirtual 232, 3) := by decide +kernel
def s_X_asked_4 : List am_Q := [(36, .aload_n 0, 0, 0, 0, .null), (37, .getfield 43, 11, 6, 151, .null), (40, .aload_n 0, 0, 0, 0, .null), (41, .getfield 10, 11, 0, 145, .null), (44, .iload_n 1, 0, 0, 0, .null), (45, .iload_n 2, 0, 0, 0, .null)]
theorem t_s_X_asked_4 : s_X_asked_4.all (am_ok 11 cX11_asked) = true := by decide +kernel
theorem d_X11_asked_46 : decode cX11_asked 46 = .ok (.invokevirtual 246, 3) := by decide +kernel
theorem d_X11_asked_49 : decode cX11_asked 49 = .ok (.ireturn, 1) := by decide +kernel
def s_X_asked_5 : List am_Q := [(18, .iconst (-1), 0, 0, 0, .int (-1 : Int32))]
theorem t_s_X_asked_5 : s_X_asked_5.all (am_ok 11 cX11_asked) = true := by decide +kernel
def X_asked (τ : am_T) (a1 : Int32) (a2 : Int32) : Option (Int32 × am_T) :=
  (X_within τ a1 (nI 0) (nI 7)).bind (fun x1 =>
  if x1.1 = 0 then
  (some ((-1 : Int32), x1.2))
else
  ((X_isPast x1.2 a2).bind (fun x2 =>
  if x2.1 = 0 then
  (some ((-1 : Int32), x2.2))
else
  ((Ac_reckon x2.2 a2).bind (fun x3 =>
  (Ac_askedAt x3 a1 a2).bind (fun x4 =>
  some (x4.1, x4.2)))))))
set_option maxRecDepth 20000 in
theorem ok_X_asked {X : am_X} {a1 : Int32} {a2 : Int32} {v : Int32} {τ τ' : am_T} (hF : am_F X "ShareHouse" cX11_asked 3) (hR : am_R X 6 159) (hB : am_B X (some .int) (some (.int v)) (am_D τ')) (h : X_asked τ a1 a2 = some (v, τ')) : am_W X 3 (0, [(0, .ref 0), (1, .int a1), (2, .int a2)], [], am_D τ) := by
  unfold X_asked at h
  refine am_seg s_X_asked_0 (y := (4, [(0, .ref 0), (1, .int a1), (2, .int a2)], [.int (nI 7), .int (nI 0), .int a1], am_D τ)) hF t_s_X_asked_0 rfl rfl ?_
  refine am_bd h (fun x1 hx h => ?_)
  refine am_callS (As := [.int a1, .int (nI 0), .int (nI 7)]) (r := (some (.int x1.1))) (st := []) (σ' := am_D x1.2) hF hR d_X11_asked_4 (c_X_within (τ' := x1.2) hx) (Nat.le_refl _) (Nat.le_refl _) wl_X_47 ws_yX11_within wn_ShareHouse wc_yX11_within wy_yX11_within rfl ⟨by decide, by decide⟩ (Nat.le_of_ble_eq_true rfl) ?_
  refine am_ite h (fun hc h => ?_) (fun hc h => ?_)
  · refine am_if_eq_t (t := 18) d_X11_asked_7 (by decide) hc hF ?_
    refine am_seg s_X_asked_1 (y := (19, [(0, .ref 0), (1, .int a1), (2, .int a2)], [.int (-1 : Int32)], am_D x1.2)) hF t_s_X_asked_1 rfl rfl ?_
    obtain ⟨rfl, rfl⟩ := am_pair h
    exact am_iret d_X11_asked_19 hF hB
  · refine am_if_eq_f (t := 18) d_X11_asked_7 (by decide) hc hF ?_
    refine am_seg s_X_asked_2 (y := (12, [(0, .ref 0), (1, .int a1), (2, .int a2)], [.int a2, .ref 0], am_D x1.2)) hF t_s_X_asked_2 rfl rfl ?_
    refine am_bd h (fun x2 hx h => ?_)
    refine am_callV (As := [.int a2]) (r := (some (.int x2.1))) (st := []) (σ' := am_D x2.2) (ci := 11) hF hR d_X11_asked_12 (c_X_isPast (τ' := x2.2) hx) (Nat.le_refl _) (Nat.le_refl _) wl_X_153 wi_yX11_isPast we_yX11_isPast wn_ShareHouse wc_yX11_isPast (Nat.le_of_ble_eq_true rfl) (Nat.le_of_ble_eq_true rfl) rfl rfl wy_yX11_isPast rfl ⟨by decide, by decide⟩ (Nat.le_of_ble_eq_true rfl) ?_
    refine am_ite h (fun hc h => ?_) (fun hc h => ?_)
    · refine am_if_ne_f (t := 20) d_X11_asked_15 (by decide) hc hF ?_
      refine am_seg s_X_asked_5 (y := (19, [(0, .ref 0), (1, .int a1), (2, .int a2)], [.int (-1 : Int32)], am_D x2.2)) hF t_s_X_asked_5 rfl rfl ?_
      obtain ⟨rfl, rfl⟩ := am_pair h
      exact am_iret d_X11_asked_19 hF hB
    · refine am_if_ne_t (t := 20) d_X11_asked_15 (by decide) hc hF ?_
      refine am_seg s_X_asked_3 (y := (33, [(0, .ref 0), (1, .int a1), (2, .int a2)], [.int a2, .ref 121, .ref 1, .ref 127], am_D x2.2)) hF t_s_X_asked_3 rfl rfl ?_
      refine am_bd h (fun x3 hx h => ?_)
      refine am_callV (As := [.ref 1, .ref 121, .int a2]) (r := none) (st := []) (σ' := am_D x3) (ci := 0) hF hR d_X11_asked_33 (c_Ac_reckon (τ' := x3) hx) (Nat.le_refl _) (Nat.le_refl _) wl_X_232 wi_yX0_reckon we_yX0_reckon wn_ShareHouse_Accounts wc_yX0_reckon (Nat.le_of_ble_eq_true rfl) (Nat.le_of_ble_eq_true rfl) rfl rfl wy_yX0_reckon rfl ⟨by decide, by decide⟩ (Nat.le_of_ble_eq_true rfl) ?_
      refine am_seg s_X_asked_4 (y := (46, [(0, .ref 0), (1, .int a1), (2, .int a2)], [.int a2, .int a1, .ref 1, .ref 127], am_D x3)) hF t_s_X_asked_4 rfl rfl ?_
      refine am_bd h (fun x4 hx h => ?_)
      refine am_callV (As := [.ref 1, .int a1, .int a2]) (r := (some (.int x4.1))) (st := []) (σ' := am_D x4.2) (ci := 0) hF hR d_X11_asked_46 (c_Ac_askedAt (τ' := x4.2) hx) (Nat.le_refl _) (Nat.le_refl _) wl_X_246 wi_yX0_askedAt we_yX0_askedAt wn_ShareHouse_Accounts wc_yX0_askedAt (Nat.le_of_ble_eq_true rfl) (Nat.le_of_ble_eq_true rfl) rfl rfl wy_yX0_askedAt rfl ⟨by decide, by decide⟩ (Nat.le_of_ble_eq_true rfl) ?_
      obtain ⟨rfl, rfl⟩ := am_pair h
      exact am_iret d_X11_asked_49 hF hB
theorem c_X_asked {a1 : Int32} {a2 : Int32} {v : Int32} {τ τ' : am_T} (h : X_asked τ a1 a2 = some (v, τ')) : am_C yX11_asked cX11_asked 3 (some .int) 6 159 [.ref 0, .int a1, .int a2] (am_D τ) (some (.int v)) (am_D τ') :=
  am_enter (by decide +kernel) (Nat.le_of_ble_eq_true rfl) ⟨Nat.le_refl _, Nat.le_refl _⟩ (fun X hF hR hB => ok_X_asked hF hR hB h)
def s_Wo_add_0 : List am_Q := [(0, .aload_n 0, 0, 0, 0, .null), (1, .getfield 50, 10, 8, 65, .null), (4, .bipush 6, 0, 0, 0, .int (nI 6))]
theorem t_s_Wo_add_0 : s_Wo_add_0.all (am_ok 10 cX10_add) = true := by decide +kernel
theorem d_X10_add_6 : decode cX10_add 6 = .ok (.if_icmp .lt 6, 3) := by decide +kernel
def s_Wo_add_1 : List am_Q := [(12, .aload_n 0, 0, 0, 0, .null), (13, .getfield 11, 10, 0, 54, .null), (16, .aload_n 0, 0, 0, 0, .null), (17, .getfield 50, 10, 8, 65, .null), (20, .iload_n 1, 0, 0, 0, .null)]
theorem t_s_Wo_add_1 : s_Wo_add_1.all (am_ok 10 cX10_add) = true := by decide +kernel
theorem d_X10_add_21 : decode cX10_add 21 = .ok (.iastore, 1) := by decide +kernel
def s_Wo_add_2 : List am_Q := [(22, .aload_n 0, 0, 0, 0, .null), (23, .getfield 15, 10, 1, 56, .null), (26, .aload_n 0, 0, 0, 0, .null), (27, .getfield 50, 10, 8, 65, .null), (30, .iload_n 2, 0, 0, 0, .null)]
theorem t_s_Wo_add_2 : s_Wo_add_2.all (am_ok 10 cX10_add) = true := by decide +kernel
theorem d_X10_add_31 : decode cX10_add 31 = .ok (.iastore, 1) := by decide +kernel
def s_Wo_add_3 : List am_Q := [(32, .aload_n 0, 0, 0, 0, .null), (33, .dup, 0, 0, 0, .null), (34, .getfield 50, 10, 8, 65, .null), (37, .iconst 1, 0, 0, 0, .int (nI 1)), (38, .iadd, 0, 0, 0, .null), (39, .putfield 50, 10, 8, 65, .null), (42, .aload_n 0, 0, 0, 0, .null), (43, .getfield 50, 10, 8, 65, .null), (46, .iconst 1, 0, 0, 0, .int (nI 1)), (47, .isub, 0, 0, 0, .null)]
theorem t_s_Wo_add_3 : s_Wo_add_3.all (am_ok 10 cX10_add) = true := by decide +kernel
theorem d_X10_add_48 : decode cX10_add 48 = .ok (.ireturn, 1) := by decide +kernel
def s_Wo_add_4 : List am_Q := [(9, .bipush (-2), 0, 0, 0, .int (-2 : Int32))]
theorem t_s_Wo_add_4 : s_Wo_add_4.all (am_ok 10 cX10_add) = true := by decide +kernel
theorem d_X10_add_11 : decode cX10_add 11 = .ok (.ireturn, 1) := by decide +kernel
def Wo_add (τ : am_T) (a1 : Int32) (a2 : Int32) : Option (Int32 × am_T) :=
  if (τ.1 41 8) < (nI 6) then
  (am_g (am_in (τ.1 41 8) 6) (am_g (am_in ((am_si τ 42 ((τ.1 41 8).toNatClampNeg) a1).1 41 8) 6) (some ((((am_si (am_si (am_si τ 42 ((τ.1 41 8).toNatClampNeg) a1) 43 (((am_si τ 42 ((τ.1 41 8).toNatClampNeg) a1).1 41 8).toNatClampNeg) a2) 41 8 (((am_si (am_si τ 42 ((τ.1 41 8).toNatClampNeg) a1) 43 (((am_si τ 42 ((τ.1 41 8).toNatClampNeg) a1).1 41 8).toNatClampNeg) a2).1 41 8) + (nI 1))).1 41 8) - (nI 1)), (am_si (am_si (am_si τ 42 ((τ.1 41 8).toNatClampNeg) a1) 43 (((am_si τ 42 ((τ.1 41 8).toNatClampNeg) a1).1 41 8).toNatClampNeg) a2) 41 8 (((am_si (am_si τ 42 ((τ.1 41 8).toNatClampNeg) a1) 43 (((am_si τ 42 ((τ.1 41 8).toNatClampNeg) a1).1 41 8).toNatClampNeg) a2).1 41 8) + (nI 1)))))))
else
  (some ((-2 : Int32), τ))
set_option maxRecDepth 20000 in
theorem ok_Wo_add {X : am_X} {a1 : Int32} {a2 : Int32} {v : Int32} {τ τ' : am_T} (hF : am_F X "ShareHouse$Works" cX10_add 3) (hR : am_R X 0 0) (hB : am_B X (some .int) (some (.int v)) (am_D τ')) (h : Wo_add τ a1 a2 = some (v, τ')) : am_W X 3 (0, [(0, .ref 41), (1, .int a1), (2, .int a2)], [], am_D τ) := by
  unfold Wo_add at h
  refine am_seg s_Wo_add_0 (y := (6, [(0, .ref 41), (1, .int a1), (2, .int a2)], [.int (nI 6), .int (τ.1 41 8)], am_D τ)) hF t_s_Wo_add_0 rfl rfl ?_
  refine am_ite h (fun hc h => ?_) (fun hc h => ?_)
  · refine am_icmp_lt_t (t := 12) d_X10_add_6 (by decide) hc hF ?_
    refine am_seg s_Wo_add_1 (y := (21, [(0, .ref 41), (1, .int a1), (2, .int a2)], [.int a1, .int (τ.1 41 8), .ref 42], am_D τ)) hF t_s_Wo_add_1 rfl rfl ?_
    refine am_gd h (fun hi h => ?_)
    refine am_iast (n := 6) (j := ((τ.1 41 8).toNatClampNeg)) d_X10_add_21 (Nat.le_of_ble_eq_true rfl) (Nat.le_of_ble_eq_true rfl) rfl hi rfl hF ?_
    refine am_seg s_Wo_add_2 (y := (31, [(0, .ref 41), (1, .int a1), (2, .int a2)], [.int a2, .int ((am_si τ 42 ((τ.1 41 8).toNatClampNeg) a1).1 41 8), .ref 43], am_D (am_si τ 42 ((τ.1 41 8).toNatClampNeg) a1))) hF t_s_Wo_add_2 rfl rfl ?_
    refine am_gd h (fun hi h => ?_)
    refine am_iast (n := 6) (j := (((am_si τ 42 ((τ.1 41 8).toNatClampNeg) a1).1 41 8).toNatClampNeg)) d_X10_add_31 (Nat.le_of_ble_eq_true rfl) (Nat.le_of_ble_eq_true rfl) rfl hi rfl hF ?_
    refine am_seg s_Wo_add_3 (y := (48, [(0, .ref 41), (1, .int a1), (2, .int a2)], [.int (((am_si (am_si (am_si τ 42 ((τ.1 41 8).toNatClampNeg) a1) 43 (((am_si τ 42 ((τ.1 41 8).toNatClampNeg) a1).1 41 8).toNatClampNeg) a2) 41 8 (((am_si (am_si τ 42 ((τ.1 41 8).toNatClampNeg) a1) 43 (((am_si τ 42 ((τ.1 41 8).toNatClampNeg) a1).1 41 8).toNatClampNeg) a2).1 41 8) + (nI 1))).1 41 8) - (nI 1))], am_D (am_si (am_si (am_si τ 42 ((τ.1 41 8).toNatClampNeg) a1) 43 (((am_si τ 42 ((τ.1 41 8).toNatClampNeg) a1).1 41 8).toNatClampNeg) a2) 41 8 (((am_si (am_si τ 42 ((τ.1 41 8).toNatClampNeg) a1) 43 (((am_si τ 42 ((τ.1 41 8).toNatClampNeg) a1).1 41 8).toNatClampNeg) a2).1 41 8) + (nI 1))))) hF t_s_Wo_add_3 rfl rfl ?_
    obtain ⟨rfl, rfl⟩ := am_pair h
    exact am_iret d_X10_add_48 hF hB
  · refine am_icmp_lt_f (t := 12) d_X10_add_6 (by decide) hc hF ?_
    refine am_seg s_Wo_add_4 (y := (11, [(0, .ref 41), (1, .int a1), (2, .int a2)], [.int (-2 : Int32)], am_D τ)) hF t_s_Wo_add_4 rfl rfl ?_
    obtain ⟨rfl, rfl⟩ := am_pair h
    exact am_iret d_X10_add_11 hF hB
theorem c_Wo_add {a1 : Int32} {a2 : Int32} {v : Int32} {τ τ' : am_T} (h : Wo_add τ a1 a2 = some (v, τ')) : am_C yX10_add cX10_add 3 (some .int) 0 0 [.ref 41, .int a1, .int a2] (am_D τ) (some (.int v)) (am_D τ') :=
  am_enter (by decide +kernel) (Nat.le_of_ble_eq_true rfl) ⟨Nat.le_refl _, Nat.le_refl _⟩ (fun X hF hR hB => ok_Wo_add hF hR hB h)
def s_X_work_0 : List am_Q := [(0, .iload_n 1, 0, 0, 0, .null)]
theorem t_s_X_work_0 : s_X_work_0.all (am_ok 11 cX11_work) = true := by decide +kernel
theorem d_X11_work_1 : decode cX11_work 1 = .ok (.invokestatic 112, 3) := by decide +kernel
theorem d_X11_work_4 : decode cX11_work 4 = .ok (.ifCond .eq 13, 3) := by decide +kernel
def s_X_work_1 : List am_Q := [(17, .iconst (-1), 0, 0, 0, .int (-1 : Int32))]
theorem t_s_X_work_1 : s_X_work_1.all (am_ok 11 cX11_work) = true := by decide +kernel
theorem d_X11_work_18 : decode cX11_work 18 = .ok (.ireturn, 1) := by decide +kernel
def s_X_work_2 : List am_Q := [(7, .iload_n 2, 0, 0, 0, .null), (8, .iconst 1, 0, 0, 0, .int (nI 1)), (9, .ldc 156, 0, 0, 1, .int (nI 99999))]
theorem t_s_X_work_2 : s_X_work_2.all (am_ok 11 cX11_work) = true := by decide +kernel
theorem d_X11_work_11 : decode cX11_work 11 = .ok (.invokestatic 47, 3) := by decide +kernel
theorem d_X11_work_14 : decode cX11_work 14 = .ok (.ifCond .ne 5, 3) := by decide +kernel
def s_X_work_3 : List am_Q := [(19, .aload_n 0, 0, 0, 0, .null), (20, .getfield 10, 11, 0, 145, .null), (23, .getfield 249, 3, 6, 106, .null), (26, .iload_n 1, 0, 0, 0, .null), (27, .iload_n 2, 0, 0, 0, .null)]
theorem t_s_X_work_3 : s_X_work_3.all (am_ok 11 cX11_work) = true := by decide +kernel
theorem d_X11_work_28 : decode cX11_work 28 = .ok (.invokevirtual 253, 3) := by decide +kernel
theorem d_X11_work_31 : decode cX11_work 31 = .ok (.ireturn, 1) := by decide +kernel
def s_X_work_4 : List am_Q := [(17, .iconst (-1), 0, 0, 0, .int (-1 : Int32))]
theorem t_s_X_work_4 : s_X_work_4.all (am_ok 11 cX11_work) = true := by decide +kernel
def X_work (τ : am_T) (a1 : Int32) (a2 : Int32) : Option (Int32 × am_T) :=
  (X_isHead τ a1).bind (fun x1 =>
  if x1.1 = 0 then
  (some ((-1 : Int32), x1.2))
else
  ((X_within x1.2 a2 (nI 1) (nI 99999)).bind (fun x2 =>
  if x2.1 = 0 then
  (some ((-1 : Int32), x2.2))
else
  ((Wo_add x2.2 a1 a2).bind (fun x3 =>
  some (x3.1, x3.2))))))
set_option maxRecDepth 20000 in
theorem ok_X_work {X : am_X} {a1 : Int32} {a2 : Int32} {v : Int32} {τ τ' : am_T} (hF : am_F X "ShareHouse" cX11_work 3) (hR : am_R X 2 42) (hB : am_B X (some .int) (some (.int v)) (am_D τ')) (h : X_work τ a1 a2 = some (v, τ')) : am_W X 3 (0, [(0, .ref 0), (1, .int a1), (2, .int a2)], [], am_D τ) := by
  unfold X_work at h
  refine am_seg s_X_work_0 (y := (1, [(0, .ref 0), (1, .int a1), (2, .int a2)], [.int a1], am_D τ)) hF t_s_X_work_0 rfl rfl ?_
  refine am_bd h (fun x1 hx h => ?_)
  refine am_callS (As := [.int a1]) (r := (some (.int x1.1))) (st := []) (σ' := am_D x1.2) hF hR d_X11_work_1 (c_X_isHead (τ' := x1.2) hx) (Nat.le_refl _) (Nat.le_refl _) wl_X_112 ws_yX11_isHead wn_ShareHouse wc_yX11_isHead wy_yX11_isHead rfl ⟨by decide, by decide⟩ (Nat.le_of_ble_eq_true rfl) ?_
  refine am_ite h (fun hc h => ?_) (fun hc h => ?_)
  · refine am_if_eq_t (t := 17) d_X11_work_4 (by decide) hc hF ?_
    refine am_seg s_X_work_1 (y := (18, [(0, .ref 0), (1, .int a1), (2, .int a2)], [.int (-1 : Int32)], am_D x1.2)) hF t_s_X_work_1 rfl rfl ?_
    obtain ⟨rfl, rfl⟩ := am_pair h
    exact am_iret d_X11_work_18 hF hB
  · refine am_if_eq_f (t := 17) d_X11_work_4 (by decide) hc hF ?_
    refine am_seg s_X_work_2 (y := (11, [(0, .ref 0), (1, .int a1), (2, .int a2)], [.int (nI 99999), .int (nI 1), .int a2], am_D x1.2)) hF t_s_X_work_2 rfl rfl ?_
    refine am_bd h (fun x2 hx h => ?_)
    refine am_callS (As := [.int a2, .int (nI 1), .int (nI 99999)]) (r := (some (.int x2.1))) (st := []) (σ' := am_D x2.2) hF hR d_X11_work_11 (c_X_within (τ' := x2.2) hx) (Nat.le_refl _) (Nat.le_refl _) wl_X_47 ws_yX11_within wn_ShareHouse wc_yX11_within wy_yX11_within rfl ⟨by decide, by decide⟩ (Nat.le_of_ble_eq_true rfl) ?_
    refine am_ite h (fun hc h => ?_) (fun hc h => ?_)
    · refine am_if_ne_f (t := 19) d_X11_work_14 (by decide) hc hF ?_
      refine am_seg s_X_work_4 (y := (18, [(0, .ref 0), (1, .int a1), (2, .int a2)], [.int (-1 : Int32)], am_D x2.2)) hF t_s_X_work_4 rfl rfl ?_
      obtain ⟨rfl, rfl⟩ := am_pair h
      exact am_iret d_X11_work_18 hF hB
    · refine am_if_ne_t (t := 19) d_X11_work_14 (by decide) hc hF ?_
      refine am_seg s_X_work_3 (y := (28, [(0, .ref 0), (1, .int a1), (2, .int a2)], [.int a2, .int a1, .ref 41], am_D x2.2)) hF t_s_X_work_3 rfl rfl ?_
      refine am_bd h (fun x3 hx h => ?_)
      refine am_callV (As := [.int a1, .int a2]) (r := (some (.int x3.1))) (st := []) (σ' := am_D x3.2) (ci := 10) hF hR d_X11_work_28 (c_Wo_add (τ' := x3.2) hx) (Nat.le_refl _) (Nat.le_refl _) wl_X_253 wi_yX10_add we_yX10_add wn_ShareHouse_Works wc_yX10_add (Nat.le_of_ble_eq_true rfl) (Nat.le_of_ble_eq_true rfl) rfl rfl wy_yX10_add rfl ⟨by decide, by decide⟩ (Nat.le_of_ble_eq_true rfl) ?_
      obtain ⟨rfl, rfl⟩ := am_pair h
      exact am_iret d_X11_work_31 hF hB
theorem c_X_work {a1 : Int32} {a2 : Int32} {v : Int32} {τ τ' : am_T} (h : X_work τ a1 a2 = some (v, τ')) : am_C yX11_work cX11_work 3 (some .int) 2 42 [.ref 0, .int a1, .int a2] (am_D τ) (some (.int v)) (am_D τ') :=
  am_enter (by decide +kernel) (Nat.le_of_ble_eq_true rfl) ⟨Nat.le_refl _, Nat.le_refl _⟩ (fun X hF hR hB => ok_X_work hF hR hB h)
def s_Wo_has_0 : List am_Q := [(0, .iload_n 1, 0, 0, 0, .null), (1, .iconst 0, 0, 0, 0, .int (nI 0)), (2, .aload_n 0, 0, 0, 0, .null), (3, .getfield 50, 10, 8, 65, .null), (6, .iconst 1, 0, 0, 0, .int (nI 1)), (7, .isub, 0, 0, 0, .null)]
theorem t_s_Wo_has_0 : s_Wo_has_0.all (am_ok 10 cX10_has) = true := by decide +kernel
theorem d_X10_has_8 : decode cX10_has 8 = .ok (.invokestatic 57, 3) := by decide +kernel
theorem d_X10_has_11 : decode cX10_has 11 = .ok (.ireturn, 1) := by decide +kernel
def Wo_has (τ : am_T) (a1 : Int32) : Option (Int32 × am_T) :=
  (X_within τ a1 (nI 0) ((τ.1 41 8) - (nI 1))).bind (fun x1 =>
  am_g (am_z01 x1.1) (some (x1.1, x1.2)))
set_option maxRecDepth 20000 in
theorem ok_Wo_has {X : am_X} {a1 : Int32} {v : Int32} {τ τ' : am_T} (hF : am_F X "ShareHouse$Works" cX10_has 2) (hR : am_R X 1 22) (hB : am_B X (some .boolean) (some (.int v)) (am_D τ')) (h : Wo_has τ a1 = some (v, τ')) : am_W X 2 (0, [(0, .ref 41), (1, .int a1)], [], am_D τ) := by
  unfold Wo_has at h
  refine am_seg s_Wo_has_0 (y := (8, [(0, .ref 41), (1, .int a1)], [.int ((τ.1 41 8) - (nI 1)), .int (nI 0), .int a1], am_D τ)) hF t_s_Wo_has_0 rfl rfl ?_
  refine am_bd h (fun x1 hx h => ?_)
  refine am_callSN (As := [.int a1, .int (nI 0), .int ((τ.1 41 8) - (nI 1))]) (r := (some (.int x1.1))) (st := []) (σ' := am_D x1.2) (host := "ShareHouse") hF hR d_X10_has_8 (c_X_within (τ' := x1.2) hx) (Nat.le_refl _) (Nat.le_refl _) wk_Wo_57 ws_yX11_within wn_ShareHouse wc_yX11_within wy_yX11_within rfl ⟨by decide, by decide⟩ (Nat.le_of_ble_eq_true rfl) ?_
  refine am_gd h (fun hz h => ?_)
  obtain ⟨rfl, rfl⟩ := am_pair h
  exact am_zret d_X10_has_11 (am_z01_n hz) hF hB
theorem c_Wo_has {a1 : Int32} {v : Int32} {τ τ' : am_T} (h : Wo_has τ a1 = some (v, τ')) : am_C yX10_has cX10_has 2 (some .boolean) 1 22 [.ref 41, .int a1] (am_D τ) (some (.int v)) (am_D τ') :=
  am_enter (by decide +kernel) (Nat.le_of_ble_eq_true rfl) ⟨Nat.le_refl _, Nat.le_refl _⟩ (fun X hF hR hB => ok_Wo_has hF hR hB h)
def s_Wo_addLetter_0 : List am_Q := [(0, .aload_n 0, 0, 0, 0, .null), (1, .getfield 22, 10, 3, 60, .null), (4, .iload_n 1, 0, 0, 0, .null)]
theorem t_s_Wo_addLetter_0 : s_Wo_addLetter_0.all (am_ok 10 cX10_addLetter) = true := by decide +kernel
theorem d_X10_addLetter_5 : decode cX10_addLetter 5 = .ok (.iaload, 1) := by decide +kernel
def s_Wo_addLetter_1 : List am_Q := [(6, .iconst 2, 0, 0, 0, .int (nI 2))]
theorem t_s_Wo_addLetter_1 : s_Wo_addLetter_1.all (am_ok 10 cX10_addLetter) = true := by decide +kernel
theorem d_X10_addLetter_7 : decode cX10_addLetter 7 = .ok (.if_icmp .lt 6, 3) := by decide +kernel
def s_Wo_addLetter_2 : List am_Q := [(13, .aload_n 0, 0, 0, 0, .null), (14, .getfield 22, 10, 3, 60, .null), (17, .iload_n 1, 0, 0, 0, .null)]
theorem t_s_Wo_addLetter_2 : s_Wo_addLetter_2.all (am_ok 10 cX10_addLetter) = true := by decide +kernel
theorem d_X10_addLetter_18 : decode cX10_addLetter 18 = .ok (.iaload, 1) := by decide +kernel
theorem d_X10_addLetter_19 : decode cX10_addLetter 19 = .ok (.ifCond .ne 10, 3) := by decide +kernel
def s_Wo_addLetter_3 : List am_Q := [(29, .aload_n 0, 0, 0, 0, .null), (30, .getfield 28, 10, 5, 62, .null), (33, .iload_n 1, 0, 0, 0, .null), (34, .iload_n 2, 0, 0, 0, .null)]
theorem t_s_Wo_addLetter_3 : s_Wo_addLetter_3.all (am_ok 10 cX10_addLetter) = true := by decide +kernel
theorem d_X10_addLetter_35 : decode cX10_addLetter 35 = .ok (.iastore, 1) := by decide +kernel
def s_Wo_addLetter_4 : List am_Q := [(36, .aload_n 0, 0, 0, 0, .null), (37, .getfield 22, 10, 3, 60, .null), (40, .iload_n 1, 0, 0, 0, .null), (41, .dup2, 0, 0, 0, .null)]
theorem t_s_Wo_addLetter_4 : s_Wo_addLetter_4.all (am_ok 10 cX10_addLetter) = true := by decide +kernel
theorem d_X10_addLetter_42 : decode cX10_addLetter 42 = .ok (.iaload, 1) := by decide +kernel
def s_Wo_addLetter_5 : List am_Q := [(43, .iconst 1, 0, 0, 0, .int (nI 1)), (44, .iadd, 0, 0, 0, .null)]
theorem t_s_Wo_addLetter_5 : s_Wo_addLetter_5.all (am_ok 10 cX10_addLetter) = true := by decide +kernel
theorem d_X10_addLetter_45 : decode cX10_addLetter 45 = .ok (.iastore, 1) := by decide +kernel
def s_Wo_addLetter_6 : List am_Q := [(46, .aload_n 0, 0, 0, 0, .null), (47, .getfield 22, 10, 3, 60, .null), (50, .iload_n 1, 0, 0, 0, .null)]
theorem t_s_Wo_addLetter_6 : s_Wo_addLetter_6.all (am_ok 10 cX10_addLetter) = true := by decide +kernel
theorem d_X10_addLetter_51 : decode cX10_addLetter 51 = .ok (.iaload, 1) := by decide +kernel
theorem d_X10_addLetter_52 : decode cX10_addLetter 52 = .ok (.ireturn, 1) := by decide +kernel
def s_Wo_addLetter_7 : List am_Q := [(22, .aload_n 0, 0, 0, 0, .null), (23, .getfield 25, 10, 4, 61, .null), (26, .iload_n 1, 0, 0, 0, .null), (27, .iload_n 2, 0, 0, 0, .null)]
theorem t_s_Wo_addLetter_7 : s_Wo_addLetter_7.all (am_ok 10 cX10_addLetter) = true := by decide +kernel
theorem d_X10_addLetter_28 : decode cX10_addLetter 28 = .ok (.iastore, 1) := by decide +kernel
def s_Wo_addLetter_8 : List am_Q := [(10, .bipush (-2), 0, 0, 0, .int (-2 : Int32))]
theorem t_s_Wo_addLetter_8 : s_Wo_addLetter_8.all (am_ok 10 cX10_addLetter) = true := by decide +kernel
theorem d_X10_addLetter_12 : decode cX10_addLetter 12 = .ok (.ireturn, 1) := by decide +kernel
def Wo_addLetter_29 (τ : am_T) (a1 : Int32) (a2 : Int32) : Option (Int32 × am_T) :=
  am_g (am_in a1 6) (am_g (am_in a1 6) (am_g (am_in a1 6) (am_g (am_in a1 6) (some (((am_si (am_si τ 47 (a1.toNatClampNeg) a2) 45 (a1.toNatClampNeg) (((am_si τ 47 (a1.toNatClampNeg) a2).1 45 (a1.toNatClampNeg)) + (nI 1))).1 45 (a1.toNatClampNeg)), (am_si (am_si τ 47 (a1.toNatClampNeg) a2) 45 (a1.toNatClampNeg) (((am_si τ 47 (a1.toNatClampNeg) a2).1 45 (a1.toNatClampNeg)) + (nI 1))))))))
set_option maxRecDepth 20000 in
theorem ok_Wo_addLetter_29 {X : am_X} {v : Int32} {τ' : am_T} (hF : am_F X "ShareHouse$Works" cX10_addLetter 3) (hR : am_R X 0 0) (hB : am_B X (some .int) (some (.int v)) (am_D τ')) {τ : am_T} {a1 : Int32} {a2 : Int32} (h : Wo_addLetter_29 τ a1 a2 = some (v, τ')) : am_W X 3 (29, [(0, .ref 41), (1, .int a1), (2, .int a2)], [], am_D τ) := by
  unfold Wo_addLetter_29 at h
  refine am_seg s_Wo_addLetter_3 (y := (35, [(0, .ref 41), (1, .int a1), (2, .int a2)], [.int a2, .int a1, .ref 47], am_D τ)) hF t_s_Wo_addLetter_3 rfl rfl ?_
  refine am_gd h (fun hi h => ?_)
  refine am_iast (n := 6) (j := (a1.toNatClampNeg)) d_X10_addLetter_35 (Nat.le_of_ble_eq_true rfl) (Nat.le_of_ble_eq_true rfl) rfl hi rfl hF ?_
  refine am_seg s_Wo_addLetter_4 (y := (42, [(0, .ref 41), (1, .int a1), (2, .int a2)], [.int a1, .ref 45, .int a1, .ref 45], am_D (am_si τ 47 (a1.toNatClampNeg) a2))) hF t_s_Wo_addLetter_4 rfl rfl ?_
  refine am_gd h (fun hi h => ?_)
  refine am_iald (n := 6) (j := (a1.toNatClampNeg)) d_X10_addLetter_42 (Nat.le_of_ble_eq_true rfl) (Nat.le_of_ble_eq_true rfl) rfl hi rfl hF ?_
  refine am_seg s_Wo_addLetter_5 (y := (45, [(0, .ref 41), (1, .int a1), (2, .int a2)], [.int (((am_si τ 47 (a1.toNatClampNeg) a2).1 45 (a1.toNatClampNeg)) + (nI 1)), .int a1, .ref 45], am_D (am_si τ 47 (a1.toNatClampNeg) a2))) hF t_s_Wo_addLetter_5 rfl rfl ?_
  refine am_gd h (fun hi h => ?_)
  refine am_iast (n := 6) (j := (a1.toNatClampNeg)) d_X10_addLetter_45 (Nat.le_of_ble_eq_true rfl) (Nat.le_of_ble_eq_true rfl) rfl hi rfl hF ?_
  refine am_seg s_Wo_addLetter_6 (y := (51, [(0, .ref 41), (1, .int a1), (2, .int a2)], [.int a1, .ref 45], am_D (am_si (am_si τ 47 (a1.toNatClampNeg) a2) 45 (a1.toNatClampNeg) (((am_si τ 47 (a1.toNatClampNeg) a2).1 45 (a1.toNatClampNeg)) + (nI 1))))) hF t_s_Wo_addLetter_6 rfl rfl ?_
  refine am_gd h (fun hi h => ?_)
  refine am_iald (n := 6) (j := (a1.toNatClampNeg)) d_X10_addLetter_51 (Nat.le_of_ble_eq_true rfl) (Nat.le_of_ble_eq_true rfl) rfl hi rfl hF ?_
  obtain ⟨rfl, rfl⟩ := am_pair h
  exact am_iret d_X10_addLetter_52 hF hB
def Wo_addLetter (τ : am_T) (a1 : Int32) (a2 : Int32) : Option (Int32 × am_T) :=
  am_g (am_in a1 6) (if (τ.1 45 (a1.toNatClampNeg)) < (nI 2) then
  (am_g (am_in a1 6) (if (τ.1 45 (a1.toNatClampNeg)) = 0 then
  (am_g (am_in a1 6) (Wo_addLetter_29 (am_si τ 46 (a1.toNatClampNeg) a2) a1 a2))
else
  (Wo_addLetter_29 τ a1 a2)))
else
  (some ((-2 : Int32), τ)))
set_option maxRecDepth 20000 in
theorem ok_Wo_addLetter {X : am_X} {a1 : Int32} {a2 : Int32} {v : Int32} {τ τ' : am_T} (hF : am_F X "ShareHouse$Works" cX10_addLetter 3) (hR : am_R X 0 0) (hB : am_B X (some .int) (some (.int v)) (am_D τ')) (h : Wo_addLetter τ a1 a2 = some (v, τ')) : am_W X 3 (0, [(0, .ref 41), (1, .int a1), (2, .int a2)], [], am_D τ) := by
  unfold Wo_addLetter at h
  refine am_seg s_Wo_addLetter_0 (y := (5, [(0, .ref 41), (1, .int a1), (2, .int a2)], [.int a1, .ref 45], am_D τ)) hF t_s_Wo_addLetter_0 rfl rfl ?_
  refine am_gd h (fun hi h => ?_)
  refine am_iald (n := 6) (j := (a1.toNatClampNeg)) d_X10_addLetter_5 (Nat.le_of_ble_eq_true rfl) (Nat.le_of_ble_eq_true rfl) rfl hi rfl hF ?_
  refine am_seg s_Wo_addLetter_1 (y := (7, [(0, .ref 41), (1, .int a1), (2, .int a2)], [.int (nI 2), .int (τ.1 45 (a1.toNatClampNeg))], am_D τ)) hF t_s_Wo_addLetter_1 rfl rfl ?_
  refine am_ite h (fun hc h => ?_) (fun hc h => ?_)
  · refine am_icmp_lt_t (t := 13) d_X10_addLetter_7 (by decide) hc hF ?_
    refine am_seg s_Wo_addLetter_2 (y := (18, [(0, .ref 41), (1, .int a1), (2, .int a2)], [.int a1, .ref 45], am_D τ)) hF t_s_Wo_addLetter_2 rfl rfl ?_
    refine am_gd h (fun hi h => ?_)
    refine am_iald (n := 6) (j := (a1.toNatClampNeg)) d_X10_addLetter_18 (Nat.le_of_ble_eq_true rfl) (Nat.le_of_ble_eq_true rfl) rfl hi rfl hF ?_
    refine am_ite h (fun hc h => ?_) (fun hc h => ?_)
    · refine am_if_ne_f (t := 29) d_X10_addLetter_19 (by decide) hc hF ?_
      refine am_seg s_Wo_addLetter_7 (y := (28, [(0, .ref 41), (1, .int a1), (2, .int a2)], [.int a2, .int a1, .ref 46], am_D τ)) hF t_s_Wo_addLetter_7 rfl rfl ?_
      refine am_gd h (fun hi h => ?_)
      refine am_iast (n := 6) (j := (a1.toNatClampNeg)) d_X10_addLetter_28 (Nat.le_of_ble_eq_true rfl) (Nat.le_of_ble_eq_true rfl) rfl hi rfl hF ?_
      exact ok_Wo_addLetter_29 hF hR hB h
    · refine am_if_ne_t (t := 29) d_X10_addLetter_19 (by decide) hc hF ?_
      exact ok_Wo_addLetter_29 hF hR hB h
  · refine am_icmp_lt_f (t := 13) d_X10_addLetter_7 (by decide) hc hF ?_
    refine am_seg s_Wo_addLetter_8 (y := (12, [(0, .ref 41), (1, .int a1), (2, .int a2)], [.int (-2 : Int32)], am_D τ)) hF t_s_Wo_addLetter_8 rfl rfl ?_
    obtain ⟨rfl, rfl⟩ := am_pair h
    exact am_iret d_X10_addLetter_12 hF hB
theorem c_Wo_addLetter {a1 : Int32} {a2 : Int32} {v : Int32} {τ τ' : am_T} (h : Wo_addLetter τ a1 a2 = some (v, τ')) : am_C yX10_addLetter cX10_addLetter 3 (some .int) 0 0 [.ref 41, .int a1, .int a2] (am_D τ) (some (.int v)) (am_D τ') :=
  am_enter (by decide +kernel) (Nat.le_of_ble_eq_true rfl) ⟨Nat.le_refl _, Nat.le_refl _⟩ (fun X hF hR hB => ok_Wo_addLetter hF hR hB h)
def s_X_letter_0 : List am_Q := [(0, .aload_n 0, 0, 0, 0, .null), (1, .getfield 10, 11, 0, 145, .null), (4, .getfield 249, 3, 6, 106, .null), (7, .iload_n 1, 0, 0, 0, .null)]
theorem t_s_X_letter_0 : s_X_letter_0.all (am_ok 11 cX11_letter) = true := by decide +kernel
theorem d_X11_letter_8 : decode cX11_letter 8 = .ok (.invokevirtual 257, 3) := by decide +kernel
theorem d_X11_letter_11 : decode cX11_letter 11 = .ok (.ifCond .ne 5, 3) := by decide +kernel
def s_X_letter_1 : List am_Q := [(16, .aload_n 0, 0, 0, 0, .null), (17, .getfield 10, 11, 0, 145, .null), (20, .getfield 249, 3, 6, 106, .null), (23, .getfield 258, 10, 2, 59, .null), (26, .iload_n 1, 0, 0, 0, .null)]
theorem t_s_X_letter_1 : s_X_letter_1.all (am_ok 11 cX11_letter) = true := by decide +kernel
theorem d_X11_letter_27 : decode cX11_letter 27 = .ok (.baload, 1) := by decide +kernel
theorem d_X11_letter_28 : decode cX11_letter 28 = .ok (.ifCond .eq 8, 3) := by decide +kernel
def s_X_letter_2 : List am_Q := [(36, .aload_n 0, 0, 0, 0, .null), (37, .getfield 10, 11, 0, 145, .null), (40, .getfield 249, 3, 6, 106, .null), (43, .iload_n 1, 0, 0, 0, .null), (44, .aload_n 0, 0, 0, 0, .null), (45, .getfield 10, 11, 0, 145, .null), (48, .getfield 61, 3, 0, 85, .null)]
theorem t_s_X_letter_2 : s_X_letter_2.all (am_ok 11 cX11_letter) = true := by decide +kernel
theorem d_X11_letter_51 : decode cX11_letter 51 = .ok (.invokevirtual 261, 3) := by decide +kernel
theorem d_X11_letter_54 : decode cX11_letter 54 = .ok (.ireturn, 1) := by decide +kernel
def s_X_letter_3 : List am_Q := [(31, .bipush (-4), 0, 0, 0, .int (-4 : Int32)), (33, .goto 21, 54, 0, 0, .null)]
theorem t_s_X_letter_3 : s_X_letter_3.all (am_ok 11 cX11_letter) = true := by decide +kernel
def s_X_letter_4 : List am_Q := [(14, .iconst (-1), 0, 0, 0, .int (-1 : Int32))]
theorem t_s_X_letter_4 : s_X_letter_4.all (am_ok 11 cX11_letter) = true := by decide +kernel
theorem d_X11_letter_15 : decode cX11_letter 15 = .ok (.ireturn, 1) := by decide +kernel
def X_letter (τ : am_T) (a1 : Int32) : Option (Int32 × am_T) :=
  (Wo_has τ a1).bind (fun x1 =>
  if x1.1 = 0 then
  (some ((-1 : Int32), x1.2))
else
  (am_g (am_in a1 6) (if (x1.2.1 44 (a1.toNatClampNeg)) = 0 then
  ((Wo_addLetter x1.2 a1 (x1.2.1 1 0)).bind (fun x2 =>
  some (x2.1, x2.2)))
else
  (some ((-4 : Int32), x1.2)))))
set_option maxRecDepth 20000 in
theorem ok_X_letter {X : am_X} {a1 : Int32} {v : Int32} {τ τ' : am_T} (hF : am_F X "ShareHouse" cX11_letter 2) (hR : am_R X 2 43) (hB : am_B X (some .int) (some (.int v)) (am_D τ')) (h : X_letter τ a1 = some (v, τ')) : am_W X 2 (0, [(0, .ref 0), (1, .int a1)], [], am_D τ) := by
  unfold X_letter at h
  refine am_seg s_X_letter_0 (y := (8, [(0, .ref 0), (1, .int a1)], [.int a1, .ref 41], am_D τ)) hF t_s_X_letter_0 rfl rfl ?_
  refine am_bd h (fun x1 hx h => ?_)
  refine am_callV (As := [.int a1]) (r := (some (.int x1.1))) (st := []) (σ' := am_D x1.2) (ci := 10) hF hR d_X11_letter_8 (c_Wo_has (τ' := x1.2) hx) (Nat.le_refl _) (Nat.le_refl _) wl_X_257 wi_yX10_has we_yX10_has wn_ShareHouse_Works wc_yX10_has (Nat.le_of_ble_eq_true rfl) (Nat.le_of_ble_eq_true rfl) rfl rfl wy_yX10_has rfl ⟨by decide, by decide⟩ (Nat.le_of_ble_eq_true rfl) ?_
  refine am_ite h (fun hc h => ?_) (fun hc h => ?_)
  · refine am_if_ne_f (t := 16) d_X11_letter_11 (by decide) hc hF ?_
    refine am_seg s_X_letter_4 (y := (15, [(0, .ref 0), (1, .int a1)], [.int (-1 : Int32)], am_D x1.2)) hF t_s_X_letter_4 rfl rfl ?_
    obtain ⟨rfl, rfl⟩ := am_pair h
    exact am_iret d_X11_letter_15 hF hB
  · refine am_if_ne_t (t := 16) d_X11_letter_11 (by decide) hc hF ?_
    refine am_seg s_X_letter_1 (y := (27, [(0, .ref 0), (1, .int a1)], [.int a1, .ref 44], am_D x1.2)) hF t_s_X_letter_1 rfl rfl ?_
    refine am_gd h (fun hi h => ?_)
    refine am_zald (n := 6) (j := (a1.toNatClampNeg)) d_X11_letter_27 (Nat.le_of_ble_eq_true rfl) (Nat.le_of_ble_eq_true rfl) rfl hi rfl hF ?_
    refine am_ite h (fun hc h => ?_) (fun hc h => ?_)
    · refine am_if_eq_t (t := 36) d_X11_letter_28 (by decide) hc hF ?_
      refine am_seg s_X_letter_2 (y := (51, [(0, .ref 0), (1, .int a1)], [.int (x1.2.1 1 0), .int a1, .ref 41], am_D x1.2)) hF t_s_X_letter_2 rfl rfl ?_
      refine am_bd h (fun x2 hx h => ?_)
      refine am_callV (As := [.int a1, .int (x1.2.1 1 0)]) (r := (some (.int x2.1))) (st := []) (σ' := am_D x2.2) (ci := 10) hF hR d_X11_letter_51 (c_Wo_addLetter (τ' := x2.2) hx) (Nat.le_refl _) (Nat.le_refl _) wl_X_261 wi_yX10_addLetter we_yX10_addLetter wn_ShareHouse_Works wc_yX10_addLetter (Nat.le_of_ble_eq_true rfl) (Nat.le_of_ble_eq_true rfl) rfl rfl wy_yX10_addLetter rfl ⟨by decide, by decide⟩ (Nat.le_of_ble_eq_true rfl) ?_
      obtain ⟨rfl, rfl⟩ := am_pair h
      exact am_iret d_X11_letter_54 hF hB
    · refine am_if_eq_f (t := 36) d_X11_letter_28 (by decide) hc hF ?_
      refine am_seg s_X_letter_3 (y := (54, [(0, .ref 0), (1, .int a1)], [.int (-4 : Int32)], am_D x1.2)) hF t_s_X_letter_3 rfl rfl ?_
      obtain ⟨rfl, rfl⟩ := am_pair h
      exact am_iret d_X11_letter_54 hF hB
theorem c_X_letter {a1 : Int32} {v : Int32} {τ τ' : am_T} (h : X_letter τ a1 = some (v, τ')) : am_C yX11_letter cX11_letter 2 (some .int) 2 43 [.ref 0, .int a1] (am_D τ) (some (.int v)) (am_D τ') :=
  am_enter (by decide +kernel) (Nat.le_of_ble_eq_true rfl) ⟨Nat.le_refl _, Nat.le_refl _⟩ (fun X hF hR hB => ok_X_letter hF hR hB h)
def s_Wo_addPrice_0 : List am_Q := [(0, .aload_n 0, 0, 0, 0, .null), (1, .getfield 31, 10, 6, 63, .null), (4, .iload_n 1, 0, 0, 0, .null)]
theorem t_s_Wo_addPrice_0 : s_Wo_addPrice_0.all (am_ok 10 cX10_addPrice) = true := by decide +kernel
theorem d_X10_addPrice_5 : decode cX10_addPrice 5 = .ok (.iaload, 1) := by decide +kernel
def s_Wo_addPrice_1 : List am_Q := [(6, .iconst 4, 0, 0, 0, .int (nI 4))]
theorem t_s_Wo_addPrice_1 : s_Wo_addPrice_1.all (am_ok 10 cX10_addPrice) = true := by decide +kernel
theorem d_X10_addPrice_7 : decode cX10_addPrice 7 = .ok (.if_icmp .lt 6, 3) := by decide +kernel
def s_Wo_addPrice_2 : List am_Q := [(13, .aload_n 0, 0, 0, 0, .null), (14, .getfield 34, 10, 7, 64, .null), (17, .iload_n 1, 0, 0, 0, .null), (18, .aload_n 0, 0, 0, 0, .null), (19, .getfield 34, 10, 7, 64, .null), (22, .iload_n 1, 0, 0, 0, .null)]
theorem t_s_Wo_addPrice_2 : s_Wo_addPrice_2.all (am_ok 10 cX10_addPrice) = true := by decide +kernel
theorem d_X10_addPrice_23 : decode cX10_addPrice 23 = .ok (.iaload, 1) := by decide +kernel
def s_Wo_addPrice_3 : List am_Q := [(24, .iload_n 2, 0, 0, 0, .null)]
theorem t_s_Wo_addPrice_3 : s_Wo_addPrice_3.all (am_ok 10 cX10_addPrice) = true := by decide +kernel
theorem d_X10_addPrice_25 : decode cX10_addPrice 25 = .ok (.invokestatic 61, 3) := by decide +kernel
theorem d_X10_addPrice_28 : decode cX10_addPrice 28 = .ok (.iastore, 1) := by decide +kernel
def s_Wo_addPrice_4 : List am_Q := [(29, .aload_n 0, 0, 0, 0, .null), (30, .getfield 31, 10, 6, 63, .null), (33, .iload_n 1, 0, 0, 0, .null), (34, .dup2, 0, 0, 0, .null)]
theorem t_s_Wo_addPrice_4 : s_Wo_addPrice_4.all (am_ok 10 cX10_addPrice) = true := by decide +kernel
theorem d_X10_addPrice_35 : decode cX10_addPrice 35 = .ok (.iaload, 1) := by decide +kernel
def s_Wo_addPrice_5 : List am_Q := [(36, .iconst 1, 0, 0, 0, .int (nI 1)), (37, .iadd, 0, 0, 0, .null)]
theorem t_s_Wo_addPrice_5 : s_Wo_addPrice_5.all (am_ok 10 cX10_addPrice) = true := by decide +kernel
theorem d_X10_addPrice_38 : decode cX10_addPrice 38 = .ok (.iastore, 1) := by decide +kernel
def s_Wo_addPrice_6 : List am_Q := [(39, .aload_n 0, 0, 0, 0, .null), (40, .getfield 31, 10, 6, 63, .null), (43, .iload_n 1, 0, 0, 0, .null)]
theorem t_s_Wo_addPrice_6 : s_Wo_addPrice_6.all (am_ok 10 cX10_addPrice) = true := by decide +kernel
theorem d_X10_addPrice_44 : decode cX10_addPrice 44 = .ok (.iaload, 1) := by decide +kernel
theorem d_X10_addPrice_45 : decode cX10_addPrice 45 = .ok (.ireturn, 1) := by decide +kernel
def s_Wo_addPrice_7 : List am_Q := [(10, .bipush (-2), 0, 0, 0, .int (-2 : Int32))]
theorem t_s_Wo_addPrice_7 : s_Wo_addPrice_7.all (am_ok 10 cX10_addPrice) = true := by decide +kernel
theorem d_X10_addPrice_12 : decode cX10_addPrice 12 = .ok (.ireturn, 1) := by decide +kernel
def Wo_addPrice (τ : am_T) (a1 : Int32) (a2 : Int32) : Option (Int32 × am_T) :=
  am_g (am_in a1 6) (if (τ.1 48 (a1.toNatClampNeg)) < (nI 4) then
  (am_g (am_in a1 6) (am_g (am_in a1 6) (am_g (am_in a1 6) (am_g (am_in a1 6) (am_g (am_in a1 6) (some (((am_si (am_si τ 49 (a1.toNatClampNeg) (if (τ.1 49 (a1.toNatClampNeg)) < a2 then a2 else (τ.1 49 (a1.toNatClampNeg)))) 48 (a1.toNatClampNeg) (((am_si τ 49 (a1.toNatClampNeg) (if (τ.1 49 (a1.toNatClampNeg)) < a2 then a2 else (τ.1 49 (a1.toNatClampNeg)))).1 48 (a1.toNatClampNeg)) + (nI 1))).1 48 (a1.toNatClampNeg)), (am_si (am_si τ 49 (a1.toNatClampNeg) (if (τ.1 49 (a1.toNatClampNeg)) < a2 then a2 else (τ.1 49 (a1.toNatClampNeg)))) 48 (a1.toNatClampNeg) (((am_si τ 49 (a1.toNatClampNeg) (if (τ.1 49 (a1.toNatClampNeg)) < a2 then a2 else (τ.1 49 (a1.toNatClampNeg)))).1 48 (a1.toNatClampNeg)) + (nI 1))))))))))
else
  (some ((-2 : Int32), τ)))
set_option maxRecDepth 20000 in
theorem ok_Wo_addPrice {X : am_X} {a1 : Int32} {a2 : Int32} {v : Int32} {τ τ' : am_T} (hF : am_F X "ShareHouse$Works" cX10_addPrice 3) (hR : am_R X 1 23) (hB : am_B X (some .int) (some (.int v)) (am_D τ')) (h : Wo_addPrice τ a1 a2 = some (v, τ')) : am_W X 3 (0, [(0, .ref 41), (1, .int a1), (2, .int a2)], [], am_D τ) := by
  unfold Wo_addPrice at h
  refine am_seg s_Wo_addPrice_0 (y := (5, [(0, .ref 41), (1, .int a1), (2, .int a2)], [.int a1, .ref 48], am_D τ)) hF t_s_Wo_addPrice_0 rfl rfl ?_
  refine am_gd h (fun hi h => ?_)
  refine am_iald (n := 6) (j := (a1.toNatClampNeg)) d_X10_addPrice_5 (Nat.le_of_ble_eq_true rfl) (Nat.le_of_ble_eq_true rfl) rfl hi rfl hF ?_
  refine am_seg s_Wo_addPrice_1 (y := (7, [(0, .ref 41), (1, .int a1), (2, .int a2)], [.int (nI 4), .int (τ.1 48 (a1.toNatClampNeg))], am_D τ)) hF t_s_Wo_addPrice_1 rfl rfl ?_
  refine am_ite h (fun hc h => ?_) (fun hc h => ?_)
  · refine am_icmp_lt_t (t := 13) d_X10_addPrice_7 (by decide) hc hF ?_
    refine am_seg s_Wo_addPrice_2 (y := (23, [(0, .ref 41), (1, .int a1), (2, .int a2)], [.int a1, .ref 49, .int a1, .ref 49], am_D τ)) hF t_s_Wo_addPrice_2 rfl rfl ?_
    refine am_gd h (fun hi h => ?_)
    refine am_iald (n := 6) (j := (a1.toNatClampNeg)) d_X10_addPrice_23 (Nat.le_of_ble_eq_true rfl) (Nat.le_of_ble_eq_true rfl) rfl hi rfl hF ?_
    refine am_seg s_Wo_addPrice_3 (y := (25, [(0, .ref 41), (1, .int a1), (2, .int a2)], [.int a2, .int (τ.1 49 (a1.toNatClampNeg)), .int a1, .ref 49], am_D τ)) hF t_s_Wo_addPrice_3 rfl rfl ?_
    refine am_mmax d_X10_addPrice_25 wq_max_10_61 wq_max_s wq_math wq_max_c ⟨by decide, Nat.le_of_ble_eq_true rfl⟩ (Nat.le_refl _) hF hR ?_
    refine am_gd h (fun hi h => ?_)
    refine am_iast (n := 6) (j := (a1.toNatClampNeg)) d_X10_addPrice_28 (Nat.le_of_ble_eq_true rfl) (Nat.le_of_ble_eq_true rfl) rfl hi rfl hF ?_
    refine am_seg s_Wo_addPrice_4 (y := (35, [(0, .ref 41), (1, .int a1), (2, .int a2)], [.int a1, .ref 48, .int a1, .ref 48], am_D (am_si τ 49 (a1.toNatClampNeg) (if (τ.1 49 (a1.toNatClampNeg)) < a2 then a2 else (τ.1 49 (a1.toNatClampNeg)))))) hF t_s_Wo_addPrice_4 rfl rfl ?_
    refine am_gd h (fun hi h => ?_)
    refine am_iald (n := 6) (j := (a1.toNatClampNeg)) d_X10_addPrice_35 (Nat.le_of_ble_eq_true rfl) (Nat.le_of_ble_eq_true rfl) rfl hi rfl hF ?_
    refine am_seg s_Wo_addPrice_5 (y := (38, [(0, .ref 41), (1, .int a1), (2, .int a2)], [.int (((am_si τ 49 (a1.toNatClampNeg) (if (τ.1 49 (a1.toNatClampNeg)) < a2 then a2 else (τ.1 49 (a1.toNatClampNeg)))).1 48 (a1.toNatClampNeg)) + (nI 1)), .int a1, .ref 48], am_D (am_si τ 49 (a1.toNatClampNeg) (if (τ.1 49 (a1.toNatClampNeg)) < a2 then a2 else (τ.1 49 (a1.toNatClampNeg)))))) hF t_s_Wo_addPrice_5 rfl rfl ?_
    refine am_gd h (fun hi h => ?_)
    refine am_iast (n := 6) (j := (a1.toNatClampNeg)) d_X10_addPrice_38 (Nat.le_of_ble_eq_true rfl) (Nat.le_of_ble_eq_true rfl) rfl hi rfl hF ?_
    refine am_seg s_Wo_addPrice_6 (y := (44, [(0, .ref 41), (1, .int a1), (2, .int a2)], [.int a1, .ref 48], am_D (am_si (am_si τ 49 (a1.toNatClampNeg) (if (τ.1 49 (a1.toNatClampNeg)) < a2 then a2 else (τ.1 49 (a1.toNatClampNeg)))) 48 (a1.toNatClampNeg) (((am_si τ 49 (a1.toNatClampNeg) (if (τ.1 49 (a1.toNatClampNeg)) < a2 then a2 else (τ.1 49 (a1.toNatClampNeg)))).1 48 (a1.toNatClampNeg)) + (nI 1))))) hF t_s_Wo_addPrice_6 rfl rfl ?_
    refine am_gd h (fun hi h => ?_)
    refine am_iald (n := 6) (j := (a1.toNatClampNeg)) d_X10_addPrice_44 (Nat.le_of_ble_eq_true rfl) (Nat.le_of_ble_eq_true rfl) rfl hi rfl hF ?_
    obtain ⟨rfl, rfl⟩ := am_pair h
    exact am_iret d_X10_addPrice_45 hF hB
  · refine am_icmp_lt_f (t := 13) d_X10_addPrice_7 (by decide) hc hF ?_
    refine am_seg s_Wo_addPrice_7 (y := (12, [(0, .ref 41), (1, .int a1), (2, .int a2)], [.int (-2 : Int32)], am_D τ)) hF t_s_Wo_addPrice_7 rfl rfl ?_
    obtain ⟨rfl, rfl⟩ := am_pair h
    exact am_iret d_X10_addPrice_12 hF hB
theorem c_Wo_addPrice {a1 : Int32} {a2 : Int32} {v : Int32} {τ τ' : am_T} (h : Wo_addPrice τ a1 a2 = some (v, τ')) : am_C yX10_addPrice cX10_addPrice 3 (some .int) 1 23 [.ref 41, .int a1, .int a2] (am_D τ) (some (.int v)) (am_D τ') :=
  am_enter (by decide +kernel) (Nat.le_of_ble_eq_true rfl) ⟨Nat.le_refl _, Nat.le_refl _⟩ (fun X hF hR hB => ok_Wo_addPrice hF hR hB h)
def s_X_price_0 : List am_Q := [(0, .aload_n 0, 0, 0, 0, .null), (1, .getfield 10, 11, 0, 145, .null), (4, .getfield 249, 3, 6, 106, .null), (7, .iload_n 1, 0, 0, 0, .null)]
theorem t_s_X_price_0 : s_X_price_0.all (am_ok 11 cX11_price) = true := by decide +kernel
theorem d_X11_price_8 : decode cX11_price 8 = .ok (.invokevirtual 257, 3) := by decide +kernel
theorem d_X11_price_11 : decode cX11_price 11 = .ok (.ifCond .eq 13, 3) := by decide +kernel
def s_X_price_1 : List am_Q := [(24, .iconst (-1), 0, 0, 0, .int (-1 : Int32))]
theorem t_s_X_price_1 : s_X_price_1.all (am_ok 11 cX11_price) = true := by decide +kernel
theorem d_X11_price_25 : decode cX11_price 25 = .ok (.ireturn, 1) := by decide +kernel
def s_X_price_2 : List am_Q := [(14, .iload_n 2, 0, 0, 0, .null), (15, .iconst 1, 0, 0, 0, .int (nI 1)), (16, .ldc 156, 0, 0, 1, .int (nI 99999))]
theorem t_s_X_price_2 : s_X_price_2.all (am_ok 11 cX11_price) = true := by decide +kernel
theorem d_X11_price_18 : decode cX11_price 18 = .ok (.invokestatic 47, 3) := by decide +kernel
theorem d_X11_price_21 : decode cX11_price 21 = .ok (.ifCond .ne 5, 3) := by decide +kernel
def s_X_price_3 : List am_Q := [(26, .aload_n 0, 0, 0, 0, .null), (27, .getfield 10, 11, 0, 145, .null), (30, .getfield 249, 3, 6, 106, .null), (33, .getfield 258, 10, 2, 59, .null), (36, .iload_n 1, 0, 0, 0, .null)]
theorem t_s_X_price_3 : s_X_price_3.all (am_ok 11 cX11_price) = true := by decide +kernel
theorem d_X11_price_37 : decode cX11_price 37 = .ok (.baload, 1) := by decide +kernel
theorem d_X11_price_38 : decode cX11_price 38 = .ok (.ifCond .eq 8, 3) := by decide +kernel
def s_X_price_4 : List am_Q := [(46, .aload_n 0, 0, 0, 0, .null), (47, .getfield 10, 11, 0, 145, .null), (50, .getfield 249, 3, 6, 106, .null), (53, .iload_n 1, 0, 0, 0, .null), (54, .iload_n 2, 0, 0, 0, .null)]
theorem t_s_X_price_4 : s_X_price_4.all (am_ok 11 cX11_price) = true := by decide +kernel
theorem d_X11_price_55 : decode cX11_price 55 = .ok (.invokevirtual 264, 3) := by decide +kernel
theorem d_X11_price_58 : decode cX11_price 58 = .ok (.ireturn, 1) := by decide +kernel
def s_X_price_5 : List am_Q := [(41, .bipush (-4), 0, 0, 0, .int (-4 : Int32)), (43, .goto 15, 58, 0, 0, .null)]
theorem t_s_X_price_5 : s_X_price_5.all (am_ok 11 cX11_price) = true := by decide +kernel
def s_X_price_6 : List am_Q := [(24, .iconst (-1), 0, 0, 0, .int (-1 : Int32))]
theorem t_s_X_price_6 : s_X_price_6.all (am_ok 11 cX11_price) = true := by decide +kernel
def X_price (τ : am_T) (a1 : Int32) (a2 : Int32) : Option (Int32 × am_T) :=
  (Wo_has τ a1).bind (fun x1 =>
  if x1.1 = 0 then
  (some ((-1 : Int32), x1.2))
else
  ((X_within x1.2 a2 (nI 1) (nI 99999)).bind (fun x2 =>
  if x2.1 = 0 then
  (some ((-1 : Int32), x2.2))
else
  (am_g (am_in a1 6) (if (x2.2.1 44 (a1.toNatClampNeg)) = 0 then
  ((Wo_addPrice x2.2 a1 a2).bind (fun x3 =>
  some (x3.1, x3.2)))
else
  (some ((-4 : Int32), x2.2)))))))
set_option maxRecDepth 20000 in
theorem ok_X_price {X : am_X} {a1 : Int32} {a2 : Int32} {v : Int32} {τ τ' : am_T} (hF : am_F X "ShareHouse" cX11_price 3) (hR : am_R X 2 45) (hB : am_B X (some .int) (some (.int v)) (am_D τ')) (h : X_price τ a1 a2 = some (v, τ')) : am_W X 3 (0, [(0, .ref 0), (1, .int a1), (2, .int a2)], [], am_D τ) := by
  unfold X_price at h
  refine am_seg s_X_price_0 (y := (8, [(0, .ref 0), (1, .int a1), (2, .int a2)], [.int a1, .ref 41], am_D τ)) hF t_s_X_price_0 rfl rfl ?_
  refine am_bd h (fun x1 hx h => ?_)
  refine am_callV (As := [.int a1]) (r := (some (.int x1.1))) (st := []) (σ' := am_D x1.2) (ci := 10) hF hR d_X11_price_8 (c_Wo_has (τ' := x1.2) hx) (Nat.le_refl _) (Nat.le_refl _) wl_X_257 wi_yX10_has we_yX10_has wn_ShareHouse_Works wc_yX10_has (Nat.le_of_ble_eq_true rfl) (Nat.le_of_ble_eq_true rfl) rfl rfl wy_yX10_has rfl ⟨by decide, by decide⟩ (Nat.le_of_ble_eq_true rfl) ?_
  refine am_ite h (fun hc h => ?_) (fun hc h => ?_)
  · refine am_if_eq_t (t := 24) d_X11_price_11 (by decide) hc hF ?_
    refine am_seg s_X_price_1 (y := (25, [(0, .ref 0), (1, .int a1), (2, .int a2)], [.int (-1 : Int32)], am_D x1.2)) hF t_s_X_price_1 rfl rfl ?_
    obtain ⟨rfl, rfl⟩ := am_pair h
    exact am_iret d_X11_price_25 hF hB
  · refine am_if_eq_f (t := 24) d_X11_price_11 (by decide) hc hF ?_
    refine am_seg s_X_price_2 (y := (18, [(0, .ref 0), (1, .int a1), (2, .int a2)], [.int (nI 99999), .int (nI 1), .int a2], am_D x1.2)) hF t_s_X_price_2 rfl rfl ?_
    refine am_bd h (fun x2 hx h => ?_)
    refine am_callS (As := [.int a2, .int (nI 1), .int (nI 99999)]) (r := (some (.int x2.1))) (st := []) (σ' := am_D x2.2) hF hR d_X11_price_18 (c_X_within (τ' := x2.2) hx) (Nat.le_refl _) (Nat.le_refl _) wl_X_47 ws_yX11_within wn_ShareHouse wc_yX11_within wy_yX11_within rfl ⟨by decide, by decide⟩ (Nat.le_of_ble_eq_true rfl) ?_
    refine am_ite h (fun hc h => ?_) (fun hc h => ?_)
    · refine am_if_ne_f (t := 26) d_X11_price_21 (by decide) hc hF ?_
      refine am_seg s_X_price_6 (y := (25, [(0, .ref 0), (1, .int a1), (2, .int a2)], [.int (-1 : Int32)], am_D x2.2)) hF t_s_X_price_6 rfl rfl ?_
      obtain ⟨rfl, rfl⟩ := am_pair h
      exact am_iret d_X11_price_25 hF hB
    · refine am_if_ne_t (t := 26) d_X11_price_21 (by decide) hc hF ?_
      refine am_seg s_X_price_3 (y := (37, [(0, .ref 0), (1, .int a1), (2, .int a2)], [.int a1, .ref 44], am_D x2.2)) hF t_s_X_price_3 rfl rfl ?_
      refine am_gd h (fun hi h => ?_)
      refine am_zald (n := 6) (j := (a1.toNatClampNeg)) d_X11_price_37 (Nat.le_of_ble_eq_true rfl) (Nat.le_of_ble_eq_true rfl) rfl hi rfl hF ?_
      refine am_ite h (fun hc h => ?_) (fun hc h => ?_)
      · refine am_if_eq_t (t := 46) d_X11_price_38 (by decide) hc hF ?_
        refine am_seg s_X_price_4 (y := (55, [(0, .ref 0), (1, .int a1), (2, .int a2)], [.int a2, .int a1, .ref 41], am_D x2.2)) hF t_s_X_price_4 rfl rfl ?_
        refine am_bd h (fun x3 hx h => ?_)
        refine am_callV (As := [.int a1, .int a2]) (r := (some (.int x3.1))) (st := []) (σ' := am_D x3.2) (ci := 10) hF hR d_X11_price_55 (c_Wo_addPrice (τ' := x3.2) hx) (Nat.le_refl _) (Nat.le_refl _) wl_X_264 wi_yX10_addPrice we_yX10_addPrice wn_ShareHouse_Works wc_yX10_addPrice (Nat.le_of_ble_eq_true rfl) (Nat.le_of_ble_eq_true rfl) rfl rfl wy_yX10_addPrice rfl ⟨by decide, by decide⟩ (Nat.le_of_ble_eq_true rfl) ?_
        obtain ⟨rfl, rfl⟩ := am_pair h
        exact am_iret d_X11_price_58 hF hB
      · refine am_if_eq_f (t := 46) d_X11_price_38 (by decide) hc hF ?_
        refine am_seg s_X_price_5 (y := (58, [(0, .ref 0), (1, .int a1), (2, .int a2)], [.int (-4 : Int32)], am_D x2.2)) hF t_s_X_price_5 rfl rfl ?_
        obtain ⟨rfl, rfl⟩ := am_pair h
        exact am_iret d_X11_price_58 hF hB
theorem c_X_price {a1 : Int32} {a2 : Int32} {v : Int32} {τ τ' : am_T} (h : X_price τ a1 a2 = some (v, τ')) : am_C yX11_price cX11_price 3 (some .int) 2 45 [.ref 0, .int a1, .int a2] (am_D τ) (some (.int v)) (am_D τ') :=
  am_enter (by decide +kernel) (Nat.le_of_ble_eq_true rfl) ⟨Nat.le_refl _, Nat.le_refl _⟩ (fun X hF hR hB => ok_X_price hF hR hB h)
def s_Wo_whyCapped_0 : List am_Q := [(0, .aload_n 0, 0, 0, 0, .null), (1, .getfield 22, 10, 3, 60, .null), (4, .iload_n 1, 0, 0, 0, .null)]
theorem t_s_Wo_whyCapped_0 : s_Wo_whyCapped_0.all (am_ok 10 cX10_whyCapped) = true := by decide +kernel
theorem d_X10_whyCapped_5 : decode cX10_whyCapped 5 = .ok (.iaload, 1) := by decide +kernel
def s_Wo_whyCapped_1 : List am_Q := [(6, .iconst 2, 0, 0, 0, .int (nI 2))]
theorem t_s_Wo_whyCapped_1 : s_Wo_whyCapped_1.all (am_ok 10 cX10_whyCapped) = true := by decide +kernel
theorem d_X10_whyCapped_7 : decode cX10_whyCapped 7 = .ok (.if_icmp .ge 5, 3) := by decide +kernel
def s_Wo_whyCapped_2 : List am_Q := [(12, .aload_n 0, 0, 0, 0, .null), (13, .getfield 28, 10, 5, 62, .null), (16, .iload_n 1, 0, 0, 0, .null)]
theorem t_s_Wo_whyCapped_2 : s_Wo_whyCapped_2.all (am_ok 10 cX10_whyCapped) = true := by decide +kernel
theorem d_X10_whyCapped_17 : decode cX10_whyCapped 17 = .ok (.iaload, 1) := by decide +kernel
def s_Wo_whyCapped_3 : List am_Q := [(18, .aload_n 0, 0, 0, 0, .null), (19, .getfield 25, 10, 4, 61, .null), (22, .iload_n 1, 0, 0, 0, .null)]
theorem t_s_Wo_whyCapped_3 : s_Wo_whyCapped_3.all (am_ok 10 cX10_whyCapped) = true := by decide +kernel
theorem d_X10_whyCapped_23 : decode cX10_whyCapped 23 = .ok (.iaload, 1) := by decide +kernel
def s_Wo_whyCapped_4 : List am_Q := [(24, .isub, 0, 0, 0, .null), (25, .bipush 30, 0, 0, 0, .int (nI 30))]
theorem t_s_Wo_whyCapped_4 : s_Wo_whyCapped_4.all (am_ok 10 cX10_whyCapped) = true := by decide +kernel
theorem d_X10_whyCapped_27 : decode cX10_whyCapped 27 = .ok (.if_icmp .ge 5, 3) := by decide +kernel
def s_Wo_whyCapped_5 : List am_Q := [(32, .iload_n 2, 0, 0, 0, .null), (33, .aload_n 0, 0, 0, 0, .null), (34, .getfield 28, 10, 5, 62, .null), (37, .iload_n 1, 0, 0, 0, .null)]
theorem t_s_Wo_whyCapped_5 : s_Wo_whyCapped_5.all (am_ok 10 cX10_whyCapped) = true := by decide +kernel
theorem d_X10_whyCapped_38 : decode cX10_whyCapped 38 = .ok (.iaload, 1) := by decide +kernel
def s_Wo_whyCapped_6 : List am_Q := [(39, .isub, 0, 0, 0, .null), (40, .bipush 30, 0, 0, 0, .int (nI 30))]
theorem t_s_Wo_whyCapped_6 : s_Wo_whyCapped_6.all (am_ok 10 cX10_whyCapped) = true := by decide +kernel
theorem d_X10_whyCapped_42 : decode cX10_whyCapped 42 = .ok (.if_icmp .ge 5, 3) := by decide +kernel
def s_Wo_whyCapped_7 : List am_Q := [(47, .aload_n 0, 0, 0, 0, .null), (48, .getfield 31, 10, 6, 63, .null), (51, .iload_n 1, 0, 0, 0, .null)]
theorem t_s_Wo_whyCapped_7 : s_Wo_whyCapped_7.all (am_ok 10 cX10_whyCapped) = true := by decide +kernel
theorem d_X10_whyCapped_52 : decode cX10_whyCapped 52 = .ok (.iaload, 1) := by decide +kernel
def s_Wo_whyCapped_8 : List am_Q := [(53, .iconst 2, 0, 0, 0, .int (nI 2))]
theorem t_s_Wo_whyCapped_8 : s_Wo_whyCapped_8.all (am_ok 10 cX10_whyCapped) = true := by decide +kernel
theorem d_X10_whyCapped_54 : decode cX10_whyCapped 54 = .ok (.if_icmp .ge 5, 3) := by decide +kernel
def s_Wo_whyCapped_9 : List am_Q := [(59, .aload_n 0, 0, 0, 0, .null), (60, .getfield 15, 10, 1, 56, .null), (63, .iload_n 1, 0, 0, 0, .null)]
theorem t_s_Wo_whyCapped_9 : s_Wo_whyCapped_9.all (am_ok 10 cX10_whyCapped) = true := by decide +kernel
theorem d_X10_whyCapped_64 : decode cX10_whyCapped 64 = .ok (.iaload, 1) := by decide +kernel
def s_Wo_whyCapped_10 : List am_Q := [(65, .aload_n 0, 0, 0, 0, .null), (66, .getfield 34, 10, 7, 64, .null), (69, .iload_n 1, 0, 0, 0, .null)]
theorem t_s_Wo_whyCapped_10 : s_Wo_whyCapped_10.all (am_ok 10 cX10_whyCapped) = true := by decide +kernel
theorem d_X10_whyCapped_70 : decode cX10_whyCapped 70 = .ok (.iaload, 1) := by decide +kernel
theorem d_X10_whyCapped_71 : decode cX10_whyCapped 71 = .ok (.if_icmp .le 7, 3) := by decide +kernel
def s_Wo_whyCapped_11 : List am_Q := [(78, .iconst 0, 0, 0, 0, .int (nI 0))]
theorem t_s_Wo_whyCapped_11 : s_Wo_whyCapped_11.all (am_ok 10 cX10_whyCapped) = true := by decide +kernel
theorem d_X10_whyCapped_79 : decode cX10_whyCapped 79 = .ok (.ireturn, 1) := by decide +kernel
def s_Wo_whyCapped_12 : List am_Q := [(74, .iconst 5, 0, 0, 0, .int (nI 5)), (75, .goto 4, 79, 0, 0, .null)]
theorem t_s_Wo_whyCapped_12 : s_Wo_whyCapped_12.all (am_ok 10 cX10_whyCapped) = true := by decide +kernel
def s_Wo_whyCapped_13 : List am_Q := [(57, .iconst 4, 0, 0, 0, .int (nI 4))]
theorem t_s_Wo_whyCapped_13 : s_Wo_whyCapped_13.all (am_ok 10 cX10_whyCapped) = true := by decide +kernel
theorem d_X10_whyCapped_58 : decode cX10_whyCapped 58 = .ok (.ireturn, 1) := by decide +kernel
def s_Wo_whyCapped_14 : List am_Q := [(45, .iconst 3, 0, 0, 0, .int (nI 3))]
theorem t_s_Wo_whyCapped_14 : s_Wo_whyCapped_14.all (am_ok 10 cX10_whyCapped) = true := by decide +kernel
theorem d_X10_whyCapped_46 : decode cX10_whyCapped 46 = .ok (.ireturn, 1) := by decide +kernel
def s_Wo_whyCapped_15 : List am_Q := [(30, .iconst 2, 0, 0, 0, .int (nI 2))]
theorem t_s_Wo_whyCapped_15 : s_Wo_whyCapped_15.all (am_ok 10 cX10_whyCapped) = true := by decide +kernel
theorem d_X10_whyCapped_31 : decode cX10_whyCapped 31 = .ok (.ireturn, 1) := by decide +kernel
def s_Wo_whyCapped_16 : List am_Q := [(10, .iconst 1, 0, 0, 0, .int (nI 1))]
theorem t_s_Wo_whyCapped_16 : s_Wo_whyCapped_16.all (am_ok 10 cX10_whyCapped) = true := by decide +kernel
theorem d_X10_whyCapped_11 : decode cX10_whyCapped 11 = .ok (.ireturn, 1) := by decide +kernel
def Wo_whyCapped (τ : am_T) (a1 : Int32) (a2 : Int32) : Option (Int32 × am_T) :=
  am_g (am_in a1 6) (if (nI 2) ≤ (τ.1 45 (a1.toNatClampNeg)) then
  (am_g (am_in a1 6) (am_g (am_in a1 6) (if (nI 30) ≤ ((τ.1 47 (a1.toNatClampNeg)) - (τ.1 46 (a1.toNatClampNeg))) then
  (am_g (am_in a1 6) (if (nI 30) ≤ (a2 - (τ.1 47 (a1.toNatClampNeg))) then
  (am_g (am_in a1 6) (if (nI 2) ≤ (τ.1 48 (a1.toNatClampNeg)) then
  (am_g (am_in a1 6) (am_g (am_in a1 6) (if (τ.1 43 (a1.toNatClampNeg)) ≤ (τ.1 49 (a1.toNatClampNeg)) then
  (some ((nI 0), τ))
else
  (some ((nI 5), τ)))))
else
  (some ((nI 4), τ))))
else
  (some ((nI 3), τ))))
else
  (some ((nI 2), τ)))))
else
  (some ((nI 1), τ)))
set_option maxRecDepth 20000 in
theorem ok_Wo_whyCapped {X : am_X} {a1 : Int32} {a2 : Int32} {v : Int32} {τ τ' : am_T} (hF : am_F X "ShareHouse$Works" cX10_whyCapped 3) (hR : am_R X 0 0) (hB : am_B X (some .int) (some (.int v)) (am_D τ')) (h : Wo_whyCapped τ a1 a2 = some (v, τ')) : am_W X 3 (0, [(0, .ref 41), (1, .int a1), (2, .int a2)], [], am_D τ) := by
  unfold Wo_whyCapped at h
  refine am_seg s_Wo_whyCapped_0 (y := (5, [(0, .ref 41), (1, .int a1), (2, .int a2)], [.int a1, .ref 45], am_D τ)) hF t_s_Wo_whyCapped_0 rfl rfl ?_
  refine am_gd h (fun hi h => ?_)
  refine am_iald (n := 6) (j := (a1.toNatClampNeg)) d_X10_whyCapped_5 (Nat.le_of_ble_eq_true rfl) (Nat.le_of_ble_eq_true rfl) rfl hi rfl hF ?_
  refine am_seg s_Wo_whyCapped_1 (y := (7, [(0, .ref 41), (1, .int a1), (2, .int a2)], [.int (nI 2), .int (τ.1 45 (a1.toNatClampNeg))], am_D τ)) hF t_s_Wo_whyCapped_1 rfl rfl ?_
  refine am_ite h (fun hc h => ?_) (fun hc h => ?_)
  · refine am_icmp_ge_t (t := 12) d_X10_whyCapped_7 (by decide) hc hF ?_
    refine am_seg s_Wo_whyCapped_2 (y := (17, [(0, .ref 41), (1, .int a1), (2, .int a2)], [.int a1, .ref 47], am_D τ)) hF t_s_Wo_whyCapped_2 rfl rfl ?_
    refine am_gd h (fun hi h => ?_)
    refine am_iald (n := 6) (j := (a1.toNatClampNeg)) d_X10_whyCapped_17 (Nat.le_of_ble_eq_true rfl) (Nat.le_of_ble_eq_true rfl) rfl hi rfl hF ?_
    refine am_seg s_Wo_whyCapped_3 (y := (23, [(0, .ref 41), (1, .int a1), (2, .int a2)], [.int a1, .ref 46, .int (τ.1 47 (a1.toNatClampNeg))], am_D τ)) hF t_s_Wo_whyCapped_3 rfl rfl ?_
    refine am_gd h (fun hi h => ?_)
    refine am_iald (n := 6) (j := (a1.toNatClampNeg)) d_X10_whyCapped_23 (Nat.le_of_ble_eq_true rfl) (Nat.le_of_ble_eq_true rfl) rfl hi rfl hF ?_
    refine am_seg s_Wo_whyCapped_4 (y := (27, [(0, .ref 41), (1, .int a1), (2, .int a2)], [.int (nI 30), .int ((τ.1 47 (a1.toNatClampNeg)) - (τ.1 46 (a1.toNatClampNeg)))], am_D τ)) hF t_s_Wo_whyCapped_4 rfl rfl ?_
    refine am_ite h (fun hc h => ?_) (fun hc h => ?_)
    · refine am_icmp_ge_t (t := 32) d_X10_whyCapped_27 (by decide) hc hF ?_
      refine am_seg s_Wo_whyCapped_5 (y := (38, [(0, .ref 41), (1, .int a1), (2, .int a2)], [.int a1, .ref 47, .int a2], am_D τ)) hF t_s_Wo_whyCapped_5 rfl rfl ?_
      refine am_gd h (fun hi h => ?_)
      refine am_iald (n := 6) (j := (a1.toNatClampNeg)) d_X10_whyCapped_38 (Nat.le_of_ble_eq_true rfl) (Nat.le_of_ble_eq_true rfl) rfl hi rfl hF ?_
      refine am_seg s_Wo_whyCapped_6 (y := (42, [(0, .ref 41), (1, .int a1), (2, .int a2)], [.int (nI 30), .int (a2 - (τ.1 47 (a1.toNatClampNeg)))], am_D τ)) hF t_s_Wo_whyCapped_6 rfl rfl ?_
      refine am_ite h (fun hc h => ?_) (fun hc h => ?_)
      · refine am_icmp_ge_t (t := 47) d_X10_whyCapped_42 (by decide) hc hF ?_
        refine am_seg s_Wo_whyCapped_7 (y := (52, [(0, .ref 41), (1, .int a1), (2, .int a2)], [.int a1, .ref 48], am_D τ)) hF t_s_Wo_whyCapped_7 rfl rfl ?_
        refine am_gd h (fun hi h => ?_)
        refine am_iald (n := 6) (j := (a1.toNatClampNeg)) d_X10_whyCapped_52 (Nat.le_of_ble_eq_true rfl) (Nat.le_of_ble_eq_true rfl) rfl hi rfl hF ?_
        refine am_seg s_Wo_whyCapped_8 (y := (54, [(0, .ref 41), (1, .int a1), (2, .int a2)], [.int (nI 2), .int (τ.1 48 (a1.toNatClampNeg))], am_D τ)) hF t_s_Wo_whyCapped_8 rfl rfl ?_
        refine am_ite h (fun hc h => ?_) (fun hc h => ?_)
        · refine am_icmp_ge_t (t := 59) d_X10_whyCapped_54 (by decide) hc hF ?_
          refine am_seg s_Wo_whyCapped_9 (y := (64, [(0, .ref 41), (1, .int a1), (2, .int a2)], [.int a1, .ref 43], am_D τ)) hF t_s_Wo_whyCapped_9 rfl rfl ?_
          refine am_gd h (fun hi h => ?_)
          refine am_iald (n := 6) (j := (a1.toNatClampNeg)) d_X10_whyCapped_64 (Nat.le_of_ble_eq_true rfl) (Nat.le_of_ble_eq_true rfl) rfl hi rfl hF ?_
          refine am_seg s_Wo_whyCapped_10 (y := (70, [(0, .ref 41), (1, .int a1), (2, .int a2)], [.int a1, .ref 49, .int (τ.1 43 (a1.toNatClampNeg))], am_D τ)) hF t_s_Wo_whyCapped_10 rfl rfl ?_
          refine am_gd h (fun hi h => ?_)
          refine am_iald (n := 6) (j := (a1.toNatClampNeg)) d_X10_whyCapped_70 (Nat.le_of_ble_eq_true rfl) (Nat.le_of_ble_eq_true rfl) rfl hi rfl hF ?_
          refine am_ite h (fun hc h => ?_) (fun hc h => ?_)
          · refine am_icmp_le_t (t := 78) d_X10_whyCapped_71 (by decide) hc hF ?_
            refine am_seg s_Wo_whyCapped_11 (y := (79, [(0, .ref 41), (1, .int a1), (2, .int a2)], [.int (nI 0)], am_D τ)) hF t_s_Wo_whyCapped_11 rfl rfl ?_
            obtain ⟨rfl, rfl⟩ := am_pair h
            exact am_iret d_X10_whyCapped_79 hF hB
          · refine am_icmp_le_f (t := 78) d_X10_whyCapped_71 (by decide) hc hF ?_
            refine am_seg s_Wo_whyCapped_12 (y := (79, [(0, .ref 41), (1, .int a1), (2, .int a2)], [.int (nI 5)], am_D τ)) hF t_s_Wo_whyCapped_12 rfl rfl ?_
            obtain ⟨rfl, rfl⟩ := am_pair h
            exact am_iret d_X10_whyCapped_79 hF hB
        · refine am_icmp_ge_f (t := 59) d_X10_whyCapped_54 (by decide) hc hF ?_
          refine am_seg s_Wo_whyCapped_13 (y := (58, [(0, .ref 41), (1, .int a1), (2, .int a2)], [.int (nI 4)], am_D τ)) hF t_s_Wo_whyCapped_13 rfl rfl ?_
          obtain ⟨rfl, rfl⟩ := am_pair h
          exact am_iret d_X10_whyCapped_58 hF hB
      · refine am_icmp_ge_f (t := 47) d_X10_whyCapped_42 (by decide) hc hF ?_
        refine am_seg s_Wo_whyCapped_14 (y := (46, [(0, .ref 41), (1, .int a1), (2, .int a2)], [.int (nI 3)], am_D τ)) hF t_s_Wo_whyCapped_14 rfl rfl ?_
        obtain ⟨rfl, rfl⟩ := am_pair h
        exact am_iret d_X10_whyCapped_46 hF hB
    · refine am_icmp_ge_f (t := 32) d_X10_whyCapped_27 (by decide) hc hF ?_
      refine am_seg s_Wo_whyCapped_15 (y := (31, [(0, .ref 41), (1, .int a1), (2, .int a2)], [.int (nI 2)], am_D τ)) hF t_s_Wo_whyCapped_15 rfl rfl ?_
      obtain ⟨rfl, rfl⟩ := am_pair h
      exact am_iret d_X10_whyCapped_31 hF hB
  · refine am_icmp_ge_f (t := 12) d_X10_whyCapped_7 (by decide) hc hF ?_
    refine am_seg s_Wo_whyCapped_16 (y := (11, [(0, .ref 41), (1, .int a1), (2, .int a2)], [.int (nI 1)], am_D τ)) hF t_s_Wo_whyCapped_16 rfl rfl ?_
    obtain ⟨rfl, rfl⟩ := am_pair h
    exact am_iret d_X10_whyCapped_11 hF hB
theorem c_Wo_whyCapped {a1 : Int32} {a2 : Int32} {v : Int32} {τ τ' : am_T} (h : Wo_whyCapped τ a1 a2 = some (v, τ')) : am_C yX10_whyCapped cX10_whyCapped 3 (some .int) 0 0 [.ref 41, .int a1, .int a2] (am_D τ) (some (.int v)) (am_D τ') :=
  am_enter (by decide +kernel) (Nat.le_of_ble_eq_true rfl) ⟨Nat.le_refl _, Nat.le_refl _⟩ (fun X hF hR hB => ok_Wo_whyCapped hF hR hB h)
def s_X_done_0 : List am_Q := [(0, .aload_n 0, 0, 0, 0, .null), (1, .getfield 10, 11, 0, 145, .null), (4, .getfield 249, 3, 6, 106, .null), (7, .astore_n 2, 0, 0, 0, .null), (8, .aload_n 2, 0, 0, 0, .null), (9, .iload_n 1, 0, 0, 0, .null)]
theorem t_s_X_done_0 : s_X_done_0.all (am_ok 11 cX11_done) = true := by decide +kernel
theorem d_X11_done_10 : decode cX11_done 10 = .ok (.invokevirtual 257, 3) := by decide +kernel
theorem d_X11_done_13 : decode cX11_done 13 = .ok (.ifCond .ne 5, 3) := by decide +kernel
def s_X_done_1 : List am_Q := [(18, .aload_n 2, 0, 0, 0, .null), (19, .getfield 258, 10, 2, 59, .null), (22, .iload_n 1, 0, 0, 0, .null)]
theorem t_s_X_done_1 : s_X_done_1.all (am_ok 11 cX11_done) = true := by decide +kernel
theorem d_X11_done_23 : decode cX11_done 23 = .ok (.baload, 1) := by decide +kernel
theorem d_X11_done_24 : decode cX11_done 24 = .ok (.ifCond .eq 6, 3) := by decide +kernel
def s_X_done_2 : List am_Q := [(30, .aload_n 2, 0, 0, 0, .null), (31, .iload_n 1, 0, 0, 0, .null), (32, .aload_n 0, 0, 0, 0, .null), (33, .getfield 10, 11, 0, 145, .null), (36, .getfield 61, 3, 0, 85, .null)]
theorem t_s_X_done_2 : s_X_done_2.all (am_ok 11 cX11_done) = true := by decide +kernel
theorem d_X11_done_39 : decode cX11_done 39 = .ok (.invokevirtual 267, 3) := by decide +kernel
theorem d_X11_done_42 : decode cX11_done 42 = .ok (.ifCond .eq 7, 3) := by decide +kernel
def s_X_done_3 : List am_Q := [(49, .iconst 0, 0, 0, 0, .int (nI 0))]
theorem t_s_X_done_3 : s_X_done_3.all (am_ok 11 cX11_done) = true := by decide +kernel
def s_X_done_4 : List am_Q := [(50, .istore_n 3, 0, 0, 0, .null), (51, .aload_n 0, 0, 0, 0, .null), (52, .getfield 10, 11, 0, 145, .null), (55, .getfield 157, 3, 4, 101, .null), (58, .aload_n 2, 0, 0, 0, .null), (59, .getfield 270, 10, 0, 55, .null), (62, .iload_n 1, 0, 0, 0, .null)]
theorem t_s_X_done_4 : s_X_done_4.all (am_ok 11 cX11_done) = true := by decide +kernel
theorem d_X11_done_63 : decode cX11_done 63 = .ok (.iaload, 1) := by decide +kernel
def s_X_done_5 : List am_Q := [(64, .aload_n 0, 0, 0, 0, .null), (65, .getfield 10, 11, 0, 145, .null), (68, .getfield 61, 3, 0, 85, .null), (71, .aload_n 2, 0, 0, 0, .null), (72, .getfield 271, 10, 1, 57, .null), (75, .iload_n 1, 0, 0, 0, .null)]
theorem t_s_X_done_5 : s_X_done_5.all (am_ok 11 cX11_done) = true := by decide +kernel
theorem d_X11_done_76 : decode cX11_done 76 = .ok (.iaload, 1) := by decide +kernel
def s_X_done_6 : List am_Q := [(77, .aload_n 0, 0, 0, 0, .null), (78, .getfield 10, 11, 0, 145, .null), (81, .getfield 61, 3, 0, 85, .null), (84, .iload_n 3, 0, 0, 0, .null)]
theorem t_s_X_done_6 : s_X_done_6.all (am_ok 11 cX11_done) = true := by decide +kernel
theorem d_X11_done_85 : decode cX11_done 85 = .ok (.invokevirtual 161, 3) := by decide +kernel
def s_X_done_7 : List am_Q := [(88, .istore 4, 0, 0, 0, .null), (90, .aload_n 2, 0, 0, 0, .null), (91, .getfield 258, 10, 2, 59, .null), (94, .iload_n 1, 0, 0, 0, .null), (95, .iload 4, 0, 0, 0, .null)]
theorem t_s_X_done_7 : s_X_done_7.all (am_ok 11 cX11_done) = true := by decide +kernel
theorem d_X11_done_97 : decode cX11_done 97 = .ok (.ifCond .lt 7, 3) := by decide +kernel
def s_X_done_8 : List am_Q := [(104, .iconst 0, 0, 0, 0, .int (nI 0))]
theorem t_s_X_done_8 : s_X_done_8.all (am_ok 11 cX11_done) = true := by decide +kernel
theorem d_X11_done_105 : decode cX11_done 105 = .ok (.bastore, 1) := by decide +kernel
def s_X_done_9 : List am_Q := [(106, .iload 4, 0, 0, 0, .null)]
theorem t_s_X_done_9 : s_X_done_9.all (am_ok 11 cX11_done) = true := by decide +kernel
theorem d_X11_done_108 : decode cX11_done 108 = .ok (.ireturn, 1) := by decide +kernel
def s_X_done_10 : List am_Q := [(100, .iconst 1, 0, 0, 0, .int (nI 1)), (101, .goto 4, 105, 0, 0, .null)]
theorem t_s_X_done_10 : s_X_done_10.all (am_ok 11 cX11_done) = true := by decide +kernel
def s_X_done_11 : List am_Q := [(106, .iload 4, 0, 0, 0, .null)]
theorem t_s_X_done_11 : s_X_done_11.all (am_ok 11 cX11_done) = true := by decide +kernel
def s_X_done_12 : List am_Q := [(45, .iconst 1, 0, 0, 0, .int (nI 1)), (46, .goto 4, 50, 0, 0, .null)]
theorem t_s_X_done_12 : s_X_done_12.all (am_ok 11 cX11_done) = true := by decide +kernel
def s_X_done_13 : List am_Q := [(27, .bipush (-4), 0, 0, 0, .int (-4 : Int32))]
theorem t_s_X_done_13 : s_X_done_13.all (am_ok 11 cX11_done) = true := by decide +kernel
theorem d_X11_done_29 : decode cX11_done 29 = .ok (.ireturn, 1) := by decide +kernel
def s_X_done_14 : List am_Q := [(16, .iconst (-1), 0, 0, 0, .int (-1 : Int32))]
theorem t_s_X_done_14 : s_X_done_14.all (am_ok 11 cX11_done) = true := by decide +kernel
theorem d_X11_done_17 : decode cX11_done 17 = .ok (.ireturn, 1) := by decide +kernel
def X_done_50 (τ : am_T) (a1 : Int32) (s0 : Int32) : Option (Int32 × am_T) :=
  am_g (am_in a1 6) (am_g (am_in a1 6) ((Co_add τ (τ.1 42 (a1.toNatClampNeg)) (τ.1 1 0) (τ.1 43 (a1.toNatClampNeg)) (τ.1 1 0) s0).bind (fun x3 =>
  if x3.1 < 0 then
  (am_g (am_in a1 6) (some (x3.1, (am_si x3.2 44 (a1.toNatClampNeg) (nI 0)))))
else
  (am_g (am_in a1 6) (some (x3.1, (am_si x3.2 44 (a1.toNatClampNeg) (nI 1))))))))
set_option maxRecDepth 20000 in
theorem ok_X_done_50 {X : am_X} {v : Int32} {τ' : am_T} (hF : am_F X "ShareHouse" cX11_done 5) (hR : am_R X 2 43) (hB : am_B X (some .int) (some (.int v)) (am_D τ')) {τ : am_T} {a1 : Int32} {s0 : Int32} (h : X_done_50 τ a1 s0 = some (v, τ')) : am_W X 5 (50, [(0, .ref 0), (1, .int a1), (2, .ref 41)], [.int s0], am_D τ) := by
  unfold X_done_50 at h
  refine am_seg s_X_done_4 (y := (63, [(3, .int s0), (0, .ref 0), (1, .int a1), (2, .ref 41)], [.int a1, .ref 42, .ref 25], am_D τ)) hF t_s_X_done_4 rfl rfl ?_
  refine am_gd h (fun hi h => ?_)
  refine am_iald (n := 6) (j := (a1.toNatClampNeg)) d_X11_done_63 (Nat.le_of_ble_eq_true rfl) (Nat.le_of_ble_eq_true rfl) rfl hi rfl hF ?_
  refine am_seg s_X_done_5 (y := (76, [(3, .int s0), (0, .ref 0), (1, .int a1), (2, .ref 41)], [.int a1, .ref 43, .int (τ.1 1 0), .int (τ.1 42 (a1.toNatClampNeg)), .ref 25], am_D τ)) hF t_s_X_done_5 rfl rfl ?_
  refine am_gd h (fun hi h => ?_)
  refine am_iald (n := 6) (j := (a1.toNatClampNeg)) d_X11_done_76 (Nat.le_of_ble_eq_true rfl) (Nat.le_of_ble_eq_true rfl) rfl hi rfl hF ?_
  refine am_seg s_X_done_6 (y := (85, [(3, .int s0), (0, .ref 0), (1, .int a1), (2, .ref 41)], [.int s0, .int (τ.1 1 0), .int (τ.1 43 (a1.toNatClampNeg)), .int (τ.1 1 0), .int (τ.1 42 (a1.toNatClampNeg)), .ref 25], am_D τ)) hF t_s_X_done_6 rfl rfl ?_
  refine am_bd h (fun x3 hx h => ?_)
  refine am_callV (As := [.int (τ.1 42 (a1.toNatClampNeg)), .int (τ.1 1 0), .int (τ.1 43 (a1.toNatClampNeg)), .int (τ.1 1 0), .int s0]) (r := (some (.int x3.1))) (st := []) (σ' := am_D x3.2) (ci := 1) hF hR d_X11_done_85 (c_Co_add (τ' := x3.2) hx) (Nat.le_refl _) (Nat.le_refl _) wl_X_161 wi_yX1_add we_yX1_add wn_ShareHouse_Costs wc_yX1_add (Nat.le_of_ble_eq_true rfl) (Nat.le_of_ble_eq_true rfl) rfl rfl wy_yX1_add rfl ⟨by decide, by decide⟩ (Nat.le_of_ble_eq_true rfl) ?_
  refine am_seg s_X_done_7 (y := (97, [(4, .int x3.1), (3, .int s0), (0, .ref 0), (1, .int a1), (2, .ref 41)], [.int x3.1, .int a1, .ref 44], am_D x3.2)) hF t_s_X_done_7 rfl rfl ?_
  refine am_ite h (fun hc h => ?_) (fun hc h => ?_)
  · refine am_if_lt_t (t := 104) d_X11_done_97 (by decide) hc hF ?_
    refine am_seg s_X_done_8 (y := (105, [(4, .int x3.1), (3, .int s0), (0, .ref 0), (1, .int a1), (2, .ref 41)], [.int (nI 0), .int a1, .ref 44], am_D x3.2)) hF t_s_X_done_8 rfl rfl ?_
    refine am_gd h (fun hi h => ?_)
    refine am_zast (n := 6) (j := (a1.toNatClampNeg)) d_X11_done_105 (Nat.le_of_ble_eq_true rfl) (Nat.le_of_ble_eq_true rfl) rfl hi rfl (by decide) hF ?_
    refine am_seg s_X_done_9 (y := (108, [(4, .int x3.1), (3, .int s0), (0, .ref 0), (1, .int a1), (2, .ref 41)], [.int x3.1], am_D (am_si x3.2 44 (a1.toNatClampNeg) (nI 0)))) hF t_s_X_done_9 rfl rfl ?_
    obtain ⟨rfl, rfl⟩ := am_pair h
    exact am_iret d_X11_done_108 hF hB
  · refine am_if_lt_f (t := 104) d_X11_done_97 (by decide) hc hF ?_
    refine am_seg s_X_done_10 (y := (105, [(4, .int x3.1), (3, .int s0), (0, .ref 0), (1, .int a1), (2, .ref 41)], [.int (nI 1), .int a1, .ref 44], am_D x3.2)) hF t_s_X_done_10 rfl rfl ?_
    refine am_gd h (fun hi h => ?_)
    refine am_zast (n := 6) (j := (a1.toNatClampNeg)) d_X11_done_105 (Nat.le_of_ble_eq_true rfl) (Nat.le_of_ble_eq_true rfl) rfl hi rfl (by decide) hF ?_
    refine am_seg s_X_done_11 (y := (108, [(4, .int x3.1), (3, .int s0), (0, .ref 0), (1, .int a1), (2, .ref 41)], [.int x3.1], am_D (am_si x3.2 44 (a1.toNatClampNeg) (nI 1)))) hF t_s_X_done_11 rfl rfl ?_
    obtain ⟨rfl, rfl⟩ := am_pair h
    exact am_iret d_X11_done_108 hF hB
def X_done (τ : am_T) (a1 : Int32) : Option (Int32 × am_T) :=
  (Wo_has τ a1).bind (fun x1 =>
  if x1.1 = 0 then
  (some ((-1 : Int32), x1.2))
else
  (am_g (am_in a1 6) (if (x1.2.1 44 (a1.toNatClampNeg)) = 0 then
  ((Wo_whyCapped x1.2 a1 (x1.2.1 1 0)).bind (fun x2 =>
  if x2.1 = 0 then
  (X_done_50 x2.2 a1 (nI 0))
else
  (X_done_50 x2.2 a1 (nI 1))))
else
  (some ((-4 : Int32), x1.2)))))
set_option maxRecDepth 20000 in
theorem ok_X_done {X : am_X} {a1 : Int32} {v : Int32} {τ τ' : am_T} (hF : am_F X "ShareHouse" cX11_done 5) (hR : am_R X 2 43) (hB : am_B X (some .int) (some (.int v)) (am_D τ')) (h : X_done τ a1 = some (v, τ')) : am_W X 5 (0, [(0, .ref 0), (1, .int a1)], [], am_D τ) := by
  unfold X_done at h
  refine am_seg s_X_done_0 (y := (10, [(2, .ref 41), (0, .ref 0), (1, .int a1)], [.int a1, .ref 41], am_D τ)) hF t_s_X_done_0 rfl rfl ?_
  refine am_bd h (fun x1 hx h => ?_)
  refine am_callV (As := [.int a1]) (r := (some (.int x1.1))) (st := []) (σ' := am_D x1.2) (ci := 10) hF hR d_X11_done_10 (c_Wo_has (τ' := x1.2) hx) (Nat.le_refl _) (Nat.le_refl _) wl_X_257 wi_yX10_has we_yX10_has wn_ShareHouse_Works wc_yX10_has (Nat.le_of_ble_eq_true rfl) (Nat.le_of_ble_eq_true rfl) rfl rfl wy_yX10_has rfl ⟨by decide, by decide⟩ (Nat.le_of_ble_eq_true rfl) ?_
  refine am_ite h (fun hc h => ?_) (fun hc h => ?_)
  · refine am_if_ne_f (t := 18) d_X11_done_13 (by decide) hc hF ?_
    refine am_seg s_X_done_14 (y := (17, [(2, .ref 41), (0, .ref 0), (1, .int a1)], [.int (-1 : Int32)], am_D x1.2)) hF t_s_X_done_14 rfl rfl ?_
    obtain ⟨rfl, rfl⟩ := am_pair h
    exact am_iret d_X11_done_17 hF hB
  · refine am_if_ne_t (t := 18) d_X11_done_13 (by decide) hc hF ?_
    refine am_seg s_X_done_1 (y := (23, [(2, .ref 41), (0, .ref 0), (1, .int a1)], [.int a1, .ref 44], am_D x1.2)) hF t_s_X_done_1 rfl rfl ?_
    refine am_gd h (fun hi h => ?_)
    refine am_zald (n := 6) (j := (a1.toNatClampNeg)) d_X11_done_23 (Nat.le_of_ble_eq_true rfl) (Nat.le_of_ble_eq_true rfl) rfl hi rfl hF ?_
    refine am_ite h (fun hc h => ?_) (fun hc h => ?_)
    · refine am_if_eq_t (t := 30) d_X11_done_24 (by decide) hc hF ?_
      refine am_seg s_X_done_2 (y := (39, [(2, .ref 41), (0, .ref 0), (1, .int a1)], [.int (x1.2.1 1 0), .int a1, .ref 41], am_D x1.2)) hF t_s_X_done_2 rfl rfl ?_
      refine am_bd h (fun x2 hx h => ?_)
      refine am_callV (As := [.int a1, .int (x1.2.1 1 0)]) (r := (some (.int x2.1))) (st := []) (σ' := am_D x2.2) (ci := 10) hF hR d_X11_done_39 (c_Wo_whyCapped (τ' := x2.2) hx) (Nat.le_refl _) (Nat.le_refl _) wl_X_267 wi_yX10_whyCapped we_yX10_whyCapped wn_ShareHouse_Works wc_yX10_whyCapped (Nat.le_of_ble_eq_true rfl) (Nat.le_of_ble_eq_true rfl) rfl rfl wy_yX10_whyCapped rfl ⟨by decide, by decide⟩ (Nat.le_of_ble_eq_true rfl) ?_
      refine am_ite h (fun hc h => ?_) (fun hc h => ?_)
      · refine am_if_eq_t (t := 49) d_X11_done_42 (by decide) hc hF ?_
        refine am_seg s_X_done_3 (y := (50, [(2, .ref 41), (0, .ref 0), (1, .int a1)], [.int (nI 0)], am_D x2.2)) hF t_s_X_done_3 rfl rfl ?_
        refine am_pick [1, 2, 0] rfl ?_
        exact ok_X_done_50 hF hR hB h
      · refine am_if_eq_f (t := 49) d_X11_done_42 (by decide) hc hF ?_
        refine am_seg s_X_done_12 (y := (50, [(2, .ref 41), (0, .ref 0), (1, .int a1)], [.int (nI 1)], am_D x2.2)) hF t_s_X_done_12 rfl rfl ?_
        refine am_pick [1, 2, 0] rfl ?_
        exact ok_X_done_50 hF hR hB h
    · refine am_if_eq_f (t := 30) d_X11_done_24 (by decide) hc hF ?_
      refine am_seg s_X_done_13 (y := (29, [(2, .ref 41), (0, .ref 0), (1, .int a1)], [.int (-4 : Int32)], am_D x1.2)) hF t_s_X_done_13 rfl rfl ?_
      obtain ⟨rfl, rfl⟩ := am_pair h
      exact am_iret d_X11_done_29 hF hB
theorem c_X_done {a1 : Int32} {v : Int32} {τ τ' : am_T} (h : X_done τ a1 = some (v, τ')) : am_C yX11_done cX11_done 5 (some .int) 2 43 [.ref 0, .int a1] (am_D τ) (some (.int v)) (am_D τ') :=
  am_enter (by decide +kernel) (Nat.le_of_ble_eq_true rfl) ⟨Nat.le_refl _, Nat.le_refl _⟩ (fun X hF hR hB => ok_X_done hF hR hB h)
def s_X_capped_0 : List am_Q := [(0, .aload_n 0, 0, 0, 0, .null), (1, .getfield 10, 11, 0, 145, .null), (4, .getfield 249, 3, 6, 106, .null), (7, .iload_n 1, 0, 0, 0, .null)]
theorem t_s_X_capped_0 : s_X_capped_0.all (am_ok 11 cX11_capped) = true := by decide +kernel
theorem d_X11_capped_8 : decode cX11_capped 8 = .ok (.invokevirtual 257, 3) := by decide +kernel
theorem d_X11_capped_11 : decode cX11_capped 11 = .ok (.ifCond .ne 5, 3) := by decide +kernel
def s_X_capped_1 : List am_Q := [(16, .aload_n 0, 0, 0, 0, .null), (17, .getfield 10, 11, 0, 145, .null), (20, .getfield 249, 3, 6, 106, .null), (23, .getfield 258, 10, 2, 59, .null), (26, .iload_n 1, 0, 0, 0, .null)]
theorem t_s_X_capped_1 : s_X_capped_1.all (am_ok 11 cX11_capped) = true := by decide +kernel
theorem d_X11_capped_27 : decode cX11_capped 27 = .ok (.baload, 1) := by decide +kernel
theorem d_X11_capped_28 : decode cX11_capped 28 = .ok (.ifCond .eq 8, 3) := by decide +kernel
def s_X_capped_2 : List am_Q := [(36, .aload_n 0, 0, 0, 0, .null), (37, .getfield 10, 11, 0, 145, .null), (40, .getfield 249, 3, 6, 106, .null), (43, .iload_n 1, 0, 0, 0, .null), (44, .aload_n 0, 0, 0, 0, .null), (45, .getfield 10, 11, 0, 145, .null), (48, .getfield 61, 3, 0, 85, .null)]
theorem t_s_X_capped_2 : s_X_capped_2.all (am_ok 11 cX11_capped) = true := by decide +kernel
theorem d_X11_capped_51 : decode cX11_capped 51 = .ok (.invokevirtual 267, 3) := by decide +kernel
theorem d_X11_capped_54 : decode cX11_capped 54 = .ok (.ireturn, 1) := by decide +kernel
def s_X_capped_3 : List am_Q := [(31, .bipush (-4), 0, 0, 0, .int (-4 : Int32)), (33, .goto 21, 54, 0, 0, .null)]
theorem t_s_X_capped_3 : s_X_capped_3.all (am_ok 11 cX11_capped) = true := by decide +kernel
def s_X_capped_4 : List am_Q := [(14, .iconst (-1), 0, 0, 0, .int (-1 : Int32))]
theorem t_s_X_capped_4 : s_X_capped_4.all (am_ok 11 cX11_capped) = true := by decide +kernel
theorem d_X11_capped_15 : decode cX11_capped 15 = .ok (.ireturn, 1) := by decide +kernel
def X_capped (τ : am_T) (a1 : Int32) : Option (Int32 × am_T) :=
  (Wo_has τ a1).bind (fun x1 =>
  if x1.1 = 0 then
  (some ((-1 : Int32), x1.2))
else
  (am_g (am_in a1 6) (if (x1.2.1 44 (a1.toNatClampNeg)) = 0 then
  ((Wo_whyCapped x1.2 a1 (x1.2.1 1 0)).bind (fun x2 =>
  some (x2.1, x2.2)))
else
  (some ((-4 : Int32), x1.2)))))
set_option maxRecDepth 20000 in
theorem ok_X_capped {X : am_X} {a1 : Int32} {v : Int32} {τ τ' : am_T} (hF : am_F X "ShareHouse" cX11_capped 2) (hR : am_R X 2 43) (hB : am_B X (some .int) (some (.int v)) (am_D τ')) (h : X_capped τ a1 = some (v, τ')) : am_W X 2 (0, [(0, .ref 0), (1, .int a1)], [], am_D τ) := by
  unfold X_capped at h
  refine am_seg s_X_capped_0 (y := (8, [(0, .ref 0), (1, .int a1)], [.int a1, .ref 41], am_D τ)) hF t_s_X_capped_0 rfl rfl ?_
  refine am_bd h (fun x1 hx h => ?_)
  refine am_callV (As := [.int a1]) (r := (some (.int x1.1))) (st := []) (σ' := am_D x1.2) (ci := 10) hF hR d_X11_capped_8 (c_Wo_has (τ' := x1.2) hx) (Nat.le_refl _) (Nat.le_refl _) wl_X_257 wi_yX10_has we_yX10_has wn_ShareHouse_Works wc_yX10_has (Nat.le_of_ble_eq_true rfl) (Nat.le_of_ble_eq_true rfl) rfl rfl wy_yX10_has rfl ⟨by decide, by decide⟩ (Nat.le_of_ble_eq_true rfl) ?_
  refine am_ite h (fun hc h => ?_) (fun hc h => ?_)
  · refine am_if_ne_f (t := 16) d_X11_capped_11 (by decide) hc hF ?_
    refine am_seg s_X_capped_4 (y := (15, [(0, .ref 0), (1, .int a1)], [.int (-1 : Int32)], am_D x1.2)) hF t_s_X_capped_4 rfl rfl ?_
    obtain ⟨rfl, rfl⟩ := am_pair h
    exact am_iret d_X11_capped_15 hF hB
  · refine am_if_ne_t (t := 16) d_X11_capped_11 (by decide) hc hF ?_
    refine am_seg s_X_capped_1 (y := (27, [(0, .ref 0), (1, .int a1)], [.int a1, .ref 44], am_D x1.2)) hF t_s_X_capped_1 rfl rfl ?_
    refine am_gd h (fun hi h => ?_)
    refine am_zald (n := 6) (j := (a1.toNatClampNeg)) d_X11_capped_27 (Nat.le_of_ble_eq_true rfl) (Nat.le_of_ble_eq_true rfl) rfl hi rfl hF ?_
    refine am_ite h (fun hc h => ?_) (fun hc h => ?_)
    · refine am_if_eq_t (t := 36) d_X11_capped_28 (by decide) hc hF ?_
      refine am_seg s_X_capped_2 (y := (51, [(0, .ref 0), (1, .int a1)], [.int (x1.2.1 1 0), .int a1, .ref 41], am_D x1.2)) hF t_s_X_capped_2 rfl rfl ?_
      refine am_bd h (fun x2 hx h => ?_)
      refine am_callV (As := [.int a1, .int (x1.2.1 1 0)]) (r := (some (.int x2.1))) (st := []) (σ' := am_D x2.2) (ci := 10) hF hR d_X11_capped_51 (c_Wo_whyCapped (τ' := x2.2) hx) (Nat.le_refl _) (Nat.le_refl _) wl_X_267 wi_yX10_whyCapped we_yX10_whyCapped wn_ShareHouse_Works wc_yX10_whyCapped (Nat.le_of_ble_eq_true rfl) (Nat.le_of_ble_eq_true rfl) rfl rfl wy_yX10_whyCapped rfl ⟨by decide, by decide⟩ (Nat.le_of_ble_eq_true rfl) ?_
      obtain ⟨rfl, rfl⟩ := am_pair h
      exact am_iret d_X11_capped_54 hF hB
    · refine am_if_eq_f (t := 36) d_X11_capped_28 (by decide) hc hF ?_
      refine am_seg s_X_capped_3 (y := (54, [(0, .ref 0), (1, .int a1)], [.int (-4 : Int32)], am_D x1.2)) hF t_s_X_capped_3 rfl rfl ?_
      obtain ⟨rfl, rfl⟩ := am_pair h
      exact am_iret d_X11_capped_54 hF hB
theorem c_X_capped {a1 : Int32} {v : Int32} {τ τ' : am_T} (h : X_capped τ a1 = some (v, τ')) : am_C yX11_capped cX11_capped 2 (some .int) 2 43 [.ref 0, .int a1] (am_D τ) (some (.int v)) (am_D τ') :=
  am_enter (by decide +kernel) (Nat.le_of_ble_eq_true rfl) ⟨Nat.le_refl _, Nat.le_refl _⟩ (fun X hF hR hB => ok_X_capped hF hR hB h)
def s_Wo_addLike_0 : List am_Q := [(0, .aload_n 0, 0, 0, 0, .null), (1, .getfield 54, 10, 11, 69, .null), (4, .bipush 16, 0, 0, 0, .int (nI 16))]
theorem t_s_Wo_addLike_0 : s_Wo_addLike_0.all (am_ok 10 cX10_addLike) = true := by decide +kernel
theorem d_X10_addLike_6 : decode cX10_addLike 6 = .ok (.if_icmp .lt 6, 3) := by decide +kernel
def s_Wo_addLike_1 : List am_Q := [(12, .aload_n 0, 0, 0, 0, .null), (13, .getfield 37, 10, 9, 67, .null), (16, .aload_n 0, 0, 0, 0, .null), (17, .getfield 54, 10, 11, 69, .null), (20, .iload_n 1, 0, 0, 0, .null)]
theorem t_s_Wo_addLike_1 : s_Wo_addLike_1.all (am_ok 10 cX10_addLike) = true := by decide +kernel
theorem d_X10_addLike_21 : decode cX10_addLike 21 = .ok (.iastore, 1) := by decide +kernel
def s_Wo_addLike_2 : List am_Q := [(22, .aload_n 0, 0, 0, 0, .null), (23, .getfield 40, 10, 10, 68, .null), (26, .aload_n 0, 0, 0, 0, .null), (27, .getfield 54, 10, 11, 69, .null), (30, .iload_n 2, 0, 0, 0, .null)]
theorem t_s_Wo_addLike_2 : s_Wo_addLike_2.all (am_ok 10 cX10_addLike) = true := by decide +kernel
theorem d_X10_addLike_31 : decode cX10_addLike 31 = .ok (.iastore, 1) := by decide +kernel
def s_Wo_addLike_3 : List am_Q := [(32, .aload_n 0, 0, 0, 0, .null), (33, .dup, 0, 0, 0, .null), (34, .getfield 54, 10, 11, 69, .null), (37, .iconst 1, 0, 0, 0, .int (nI 1)), (38, .iadd, 0, 0, 0, .null), (39, .putfield 54, 10, 11, 69, .null), (42, .aload_n 0, 0, 0, 0, .null), (43, .getfield 54, 10, 11, 69, .null)]
theorem t_s_Wo_addLike_3 : s_Wo_addLike_3.all (am_ok 10 cX10_addLike) = true := by decide +kernel
theorem d_X10_addLike_46 : decode cX10_addLike 46 = .ok (.ireturn, 1) := by decide +kernel
def s_Wo_addLike_4 : List am_Q := [(9, .bipush (-2), 0, 0, 0, .int (-2 : Int32))]
theorem t_s_Wo_addLike_4 : s_Wo_addLike_4.all (am_ok 10 cX10_addLike) = true := by decide +kernel
theorem d_X10_addLike_11 : decode cX10_addLike 11 = .ok (.ireturn, 1) := by decide +kernel
def Wo_addLike (τ : am_T) (a1 : Int32) (a2 : Int32) : Option (Int32 × am_T) :=
  if (τ.1 41 11) < (nI 16) then
  (am_g (am_in (τ.1 41 11) 16) (am_g (am_in ((am_si τ 50 ((τ.1 41 11).toNatClampNeg) a1).1 41 11) 16) (some (((am_si (am_si (am_si τ 50 ((τ.1 41 11).toNatClampNeg) a1) 51 (((am_si τ 50 ((τ.1 41 11).toNatClampNeg) a1).1 41 11).toNatClampNeg) a2) 41 11 (((am_si (am_si τ 50 ((τ.1 41 11).toNatClampNeg) a1) 51 (((am_si τ 50 ((τ.1 41 11).toNatClampNeg) a1).1 41 11).toNatClampNeg) a2).1 41 11) + (nI 1))).1 41 11), (am_si (am_si (am_si τ 50 ((τ.1 41 11).toNatClampNeg) a1) 51 (((am_si τ 50 ((τ.1 41 11).toNatClampNeg) a1).1 41 11).toNatClampNeg) a2) 41 11 (((am_si (am_si τ 50 ((τ.1 41 11).toNatClampNeg) a1) 51 (((am_si τ 50 ((τ.1 41 11).toNatClampNeg) a1).1 41 11).toNatClampNeg) a2).1 41 11) + (nI 1)))))))
else
  (some ((-2 : Int32), τ))
set_option maxRecDepth 20000 in
theorem ok_Wo_addLike {X : am_X} {a1 : Int32} {a2 : Int32} {v : Int32} {τ τ' : am_T} (hF : am_F X "ShareHouse$Works" cX10_addLike 3) (hR : am_R X 0 0) (hB : am_B X (some .int) (some (.int v)) (am_D τ')) (h : Wo_addLike τ a1 a2 = some (v, τ')) : am_W X 3 (0, [(0, .ref 41), (1, .int a1), (2, .int a2)], [], am_D τ) := by
  unfold Wo_addLike at h
  refine am_seg s_Wo_addLike_0 (y := (6, [(0, .ref 41), (1, .int a1), (2, .int a2)], [.int (nI 16), .int (τ.1 41 11)], am_D τ)) hF t_s_Wo_addLike_0 rfl rfl ?_
  refine am_ite h (fun hc h => ?_) (fun hc h => ?_)
  · refine am_icmp_lt_t (t := 12) d_X10_addLike_6 (by decide) hc hF ?_
    refine am_seg s_Wo_addLike_1 (y := (21, [(0, .ref 41), (1, .int a1), (2, .int a2)], [.int a1, .int (τ.1 41 11), .ref 50], am_D τ)) hF t_s_Wo_addLike_1 rfl rfl ?_
    refine am_gd h (fun hi h => ?_)
    refine am_iast (n := 16) (j := ((τ.1 41 11).toNatClampNeg)) d_X10_addLike_21 (Nat.le_of_ble_eq_true rfl) (Nat.le_of_ble_eq_true rfl) rfl hi rfl hF ?_
    refine am_seg s_Wo_addLike_2 (y := (31, [(0, .ref 41), (1, .int a1), (2, .int a2)], [.int a2, .int ((am_si τ 50 ((τ.1 41 11).toNatClampNeg) a1).1 41 11), .ref 51], am_D (am_si τ 50 ((τ.1 41 11).toNatClampNeg) a1))) hF t_s_Wo_addLike_2 rfl rfl ?_
    refine am_gd h (fun hi h => ?_)
    refine am_iast (n := 16) (j := (((am_si τ 50 ((τ.1 41 11).toNatClampNeg) a1).1 41 11).toNatClampNeg)) d_X10_addLike_31 (Nat.le_of_ble_eq_true rfl) (Nat.le_of_ble_eq_true rfl) rfl hi rfl hF ?_
    refine am_seg s_Wo_addLike_3 (y := (46, [(0, .ref 41), (1, .int a1), (2, .int a2)], [.int ((am_si (am_si (am_si τ 50 ((τ.1 41 11).toNatClampNeg) a1) 51 (((am_si τ 50 ((τ.1 41 11).toNatClampNeg) a1).1 41 11).toNatClampNeg) a2) 41 11 (((am_si (am_si τ 50 ((τ.1 41 11).toNatClampNeg) a1) 51 (((am_si τ 50 ((τ.1 41 11).toNatClampNeg) a1).1 41 11).toNatClampNeg) a2).1 41 11) + (nI 1))).1 41 11)], am_D (am_si (am_si (am_si τ 50 ((τ.1 41 11).toNatClampNeg) a1) 51 (((am_si τ 50 ((τ.1 41 11).toNatClampNeg) a1).1 41 11).toNatClampNeg) a2) 41 11 (((am_si (am_si τ 50 ((τ.1 41 11).toNatClampNeg) a1) 51 (((am_si τ 50 ((τ.1 41 11).toNatClampNeg) a1).1 41 11).toNatClampNeg) a2).1 41 11) + (nI 1))))) hF t_s_Wo_addLike_3 rfl rfl ?_
    obtain ⟨rfl, rfl⟩ := am_pair h
    exact am_iret d_X10_addLike_46 hF hB
  · refine am_icmp_lt_f (t := 12) d_X10_addLike_6 (by decide) hc hF ?_
    refine am_seg s_Wo_addLike_4 (y := (11, [(0, .ref 41), (1, .int a1), (2, .int a2)], [.int (-2 : Int32)], am_D τ)) hF t_s_Wo_addLike_4 rfl rfl ?_
    obtain ⟨rfl, rfl⟩ := am_pair h
    exact am_iret d_X10_addLike_11 hF hB
theorem c_Wo_addLike {a1 : Int32} {a2 : Int32} {v : Int32} {τ τ' : am_T} (h : Wo_addLike τ a1 a2 = some (v, τ')) : am_C yX10_addLike cX10_addLike 3 (some .int) 0 0 [.ref 41, .int a1, .int a2] (am_D τ) (some (.int v)) (am_D τ') :=
  am_enter (by decide +kernel) (Nat.le_of_ble_eq_true rfl) ⟨Nat.le_refl _, Nat.le_refl _⟩ (fun X hF hR hB => ok_Wo_addLike hF hR hB h)

def s_Ta_numberAtHand_0 : List am_Q := [(0, .aload_n 0, 0, 0, 0, .null), (1, .getfield 47, 9, 6, 117, .null), (4, .iconst 2, 0, 0, 0, .int (nI 2))]
theorem t_s_Ta_numberAtHand_0 : s_Ta_numberAtHand_0.all (am_ok 9 cX9_numberAtHand) = true := by decide +kernel
theorem d_X9_numberAtHand_5 : decode cX9_numberAtHand 5 = .ok (.if_icmp .ne 16, 3) := by decide +kernel
def s_Ta_numberAtHand_1 : List am_Q := [(21, .iconst (-1), 0, 0, 0, .int (-1 : Int32))]
theorem t_s_Ta_numberAtHand_1 : s_Ta_numberAtHand_1.all (am_ok 9 cX9_numberAtHand) = true := by decide +kernel
theorem d_X9_numberAtHand_22 : decode cX9_numberAtHand 22 = .ok (.ireturn, 1) := by decide +kernel
def s_Ta_numberAtHand_2 : List am_Q := [(8, .aload_n 0, 0, 0, 0, .null), (9, .getfield 41, 9, 5, 116, .null), (12, .aload_n 0, 0, 0, 0, .null), (13, .getfield 54, 9, 4, 115, .null), (16, .isub, 0, 0, 0, .null), (17, .iconst 3, 0, 0, 0, .int (nI 3))]
theorem t_s_Ta_numberAtHand_2 : s_Ta_numberAtHand_2.all (am_ok 9 cX9_numberAtHand) = true := by decide +kernel
theorem d_X9_numberAtHand_18 : decode cX9_numberAtHand 18 = .ok (.if_icmp .le 5, 3) := by decide +kernel
def s_Ta_numberAtHand_3 : List am_Q := [(23, .iconst 0, 0, 0, 0, .int (nI 0)), (24, .istore_n 1, 0, 0, 0, .null), (25, .aload_n 0, 0, 0, 0, .null), (26, .getfield 54, 9, 4, 115, .null), (29, .istore_n 2, 0, 0, 0, .null)]
theorem t_s_Ta_numberAtHand_3 : s_Ta_numberAtHand_3.all (am_ok 9 cX9_numberAtHand) = true := by decide +kernel
def s_Ta_numberAtHand_4 : List am_Q := [(30, .iload_n 2, 0, 0, 0, .null), (31, .aload_n 0, 0, 0, 0, .null), (32, .getfield 41, 9, 5, 116, .null)]
theorem t_s_Ta_numberAtHand_4 : s_Ta_numberAtHand_4.all (am_ok 9 cX9_numberAtHand) = true := by decide +kernel
theorem d_X9_numberAtHand_35 : decode cX9_numberAtHand 35 = .ok (.if_icmp .ge 24, 3) := by decide +kernel
def s_Ta_numberAtHand_5 : List am_Q := [(59, .iload_n 1, 0, 0, 0, .null)]
theorem t_s_Ta_numberAtHand_5 : s_Ta_numberAtHand_5.all (am_ok 9 cX9_numberAtHand) = true := by decide +kernel
theorem d_X9_numberAtHand_60 : decode cX9_numberAtHand 60 = .ok (.ireturn, 1) := by decide +kernel
def s_Ta_numberAtHand_6 : List am_Q := [(38, .iload_n 1, 0, 0, 0, .null), (39, .bipush 10, 0, 0, 0, .int (nI 10)), (41, .imul, 0, 0, 0, .null), (42, .aload_n 0, 0, 0, 0, .null), (43, .getfield 11, 9, 0, 109, .null), (46, .iload_n 2, 0, 0, 0, .null)]
theorem t_s_Ta_numberAtHand_6 : s_Ta_numberAtHand_6.all (am_ok 9 cX9_numberAtHand) = true := by decide +kernel
theorem d_X9_numberAtHand_47 : decode cX9_numberAtHand 47 = .ok (.iaload, 1) := by decide +kernel
def s_Ta_numberAtHand_7 : List am_Q := [(48, .iadd, 0, 0, 0, .null), (49, .bipush 48, 0, 0, 0, .int (nI 48)), (51, .isub, 0, 0, 0, .null), (52, .istore_n 1, 0, 0, 0, .null), (53, .iinc 2 1, 0, 0, 0, .int (nI 1)), (56, .goto (-26), 30, 0, 0, .null)]
theorem t_s_Ta_numberAtHand_7 : s_Ta_numberAtHand_7.all (am_ok 9 cX9_numberAtHand) = true := by decide +kernel
def s_Ta_numberAtHand_8 : List am_Q := [(21, .iconst (-1), 0, 0, 0, .int (-1 : Int32))]
theorem t_s_Ta_numberAtHand_8 : s_Ta_numberAtHand_8.all (am_ok 9 cX9_numberAtHand) = true := by decide +kernel
def Ta_numberAtHand_30 : Nat → am_T → Int32 → Int32 → Option (Int32 × am_T)
  | 0, _, _, _ => none
  | n + 1, τ, a1, a2 =>
    if (τ.1 113 5) ≤ a2 then
  (some (a1, τ))
else
  (am_g (am_in a2 200) ((Ta_numberAtHand_30 n) τ (((a1 * (nI 10)) + (τ.1 114 (a2.toNatClampNeg))) - (nI 48)) (a2 + (nI 1))))
set_option maxRecDepth 20000 in
theorem ok_Ta_numberAtHand_30 {X : am_X} {v : Int32} {τ' : am_T} (hF : am_F X "ShareHouse$Tape" cX9_numberAtHand 3) (hR : am_R X 0 0) (hB : am_B X (some .int) (some (.int v)) (am_D τ')) : ∀ (n : Nat) (τ : am_T) (a1 : Int32) (a2 : Int32), Ta_numberAtHand_30 n τ a1 a2 = some (v, τ') → am_W X 3 (30, [(0, .ref 113), (1, .int a1), (2, .int a2)], [], am_D τ) := by
  intro n
  induction n with
  | zero => intro τ a1 a2 h; unfold Ta_numberAtHand_30 at h; cases h
  | succ n ih =>
    intro τ a1 a2 h
    unfold Ta_numberAtHand_30 at h
    refine am_seg s_Ta_numberAtHand_4 (y := (35, [(0, .ref 113), (1, .int a1), (2, .int a2)], [.int (τ.1 113 5), .int a2], am_D τ)) hF t_s_Ta_numberAtHand_4 rfl rfl ?_
    refine am_ite h (fun hc h => ?_) (fun hc h => ?_)
    · refine am_icmp_ge_t (t := 59) d_X9_numberAtHand_35 (by decide) hc hF ?_
      refine am_seg s_Ta_numberAtHand_5 (y := (60, [(0, .ref 113), (1, .int a1), (2, .int a2)], [.int a1], am_D τ)) hF t_s_Ta_numberAtHand_5 rfl rfl ?_
      obtain ⟨rfl, rfl⟩ := am_pair h
      exact am_iret d_X9_numberAtHand_60 hF hB
    · refine am_icmp_ge_f (t := 59) d_X9_numberAtHand_35 (by decide) hc hF ?_
      refine am_seg s_Ta_numberAtHand_6 (y := (47, [(0, .ref 113), (1, .int a1), (2, .int a2)], [.int a2, .ref 114, .int (a1 * (nI 10))], am_D τ)) hF t_s_Ta_numberAtHand_6 rfl rfl ?_
      refine am_gd h (fun hi h => ?_)
      refine am_iald (n := 200) (j := (a2.toNatClampNeg)) d_X9_numberAtHand_47 (Nat.le_of_ble_eq_true rfl) (Nat.le_of_ble_eq_true rfl) rfl hi rfl hF ?_
      refine am_seg s_Ta_numberAtHand_7 (y := (30, [(2, .int (a2 + (nI 1))), (1, .int (((a1 * (nI 10)) + (τ.1 114 (a2.toNatClampNeg))) - (nI 48))), (0, .ref 113)], [], am_D τ)) hF t_s_Ta_numberAtHand_7 rfl rfl ?_
      refine am_pick [2, 1, 0] rfl ?_
      exact ih _ _ _ h
def Ta_numberAtHand (τ : am_T) : Option (Int32 × am_T) :=
  if (τ.1 113 6) = (nI 2) then
  (if ((τ.1 113 5) - (τ.1 113 4)) ≤ (nI 3) then
  (Ta_numberAtHand_30 5000 τ (nI 0) (τ.1 113 4))
else
  (some ((-1 : Int32), τ)))
else
  (some ((-1 : Int32), τ))
set_option maxRecDepth 20000 in
theorem ok_Ta_numberAtHand {X : am_X} {v : Int32} {τ τ' : am_T} (hF : am_F X "ShareHouse$Tape" cX9_numberAtHand 3) (hR : am_R X 0 0) (hB : am_B X (some .int) (some (.int v)) (am_D τ')) (h : Ta_numberAtHand τ = some (v, τ')) : am_W X 3 (0, [(0, .ref 113)], [], am_D τ) := by
  unfold Ta_numberAtHand at h
  refine am_seg s_Ta_numberAtHand_0 (y := (5, [(0, .ref 113)], [.int (nI 2), .int (τ.1 113 6)], am_D τ)) hF t_s_Ta_numberAtHand_0 rfl rfl ?_
  refine am_ite h (fun hc h => ?_) (fun hc h => ?_)
  · refine am_icmp_ne_f (t := 21) d_X9_numberAtHand_5 (by decide) hc hF ?_
    refine am_seg s_Ta_numberAtHand_2 (y := (18, [(0, .ref 113)], [.int (nI 3), .int ((τ.1 113 5) - (τ.1 113 4))], am_D τ)) hF t_s_Ta_numberAtHand_2 rfl rfl ?_
    refine am_ite h (fun hc h => ?_) (fun hc h => ?_)
    · refine am_icmp_le_t (t := 23) d_X9_numberAtHand_18 (by decide) hc hF ?_
      refine am_seg s_Ta_numberAtHand_3 (y := (30, [(2, .int (τ.1 113 4)), (1, .int (nI 0)), (0, .ref 113)], [], am_D τ)) hF t_s_Ta_numberAtHand_3 rfl rfl ?_
      refine am_pick [2, 1, 0] rfl ?_
      exact ok_Ta_numberAtHand_30 hF hR hB _ _ _ _ h
    · refine am_icmp_le_f (t := 23) d_X9_numberAtHand_18 (by decide) hc hF ?_
      refine am_seg s_Ta_numberAtHand_8 (y := (22, [(0, .ref 113)], [.int (-1 : Int32)], am_D τ)) hF t_s_Ta_numberAtHand_8 rfl rfl ?_
      obtain ⟨rfl, rfl⟩ := am_pair h
      exact am_iret d_X9_numberAtHand_22 hF hB
  · refine am_icmp_ne_t (t := 21) d_X9_numberAtHand_5 (by decide) hc hF ?_
    refine am_seg s_Ta_numberAtHand_1 (y := (22, [(0, .ref 113)], [.int (-1 : Int32)], am_D τ)) hF t_s_Ta_numberAtHand_1 rfl rfl ?_
    obtain ⟨rfl, rfl⟩ := am_pair h
    exact am_iret d_X9_numberAtHand_22 hF hB
theorem c_Ta_numberAtHand {v : Int32} {τ τ' : am_T} (h : Ta_numberAtHand τ = some (v, τ')) : am_C yX9_numberAtHand cX9_numberAtHand 3 (some .int) 0 0 [.ref 113] (am_D τ) (some (.int v)) (am_D τ') :=
  am_enter (by decide +kernel) (Nat.le_of_ble_eq_true rfl) ⟨Nat.le_refl _, Nat.le_refl _⟩ (fun X hF hR hB => ok_Ta_numberAtHand hF hR hB h)
def s_Ta_readShare_0 : List am_Q := [(0, .aload_n 0, 0, 0, 0, .null), (1, .getfield 21, 9, 3, 113, .null), (4, .iconst 2, 0, 0, 0, .int (nI 2)), (5, .bipush (-3), 0, 0, 0, .int (-3 : Int32))]
theorem t_s_Ta_readShare_0 : s_Ta_readShare_0.all (am_ok 9 cX9_readShare) = true := by decide +kernel
theorem d_X9_readShare_7 : decode cX9_readShare 7 = .ok (.invokevirtual 57, 3) := by decide +kernel
def s_Ta_readShare_1 : List am_Q := [(10, .aload_n 0, 0, 0, 0, .null), (11, .getfield 21, 9, 3, 113, .null), (14, .iconst 3, 0, 0, 0, .int (nI 3)), (15, .bipush (-3), 0, 0, 0, .int (-3 : Int32))]
theorem t_s_Ta_readShare_1 : s_Ta_readShare_1.all (am_ok 9 cX9_readShare) = true := by decide +kernel
theorem d_X9_readShare_17 : decode cX9_readShare 17 = .ok (.invokevirtual 57, 3) := by decide +kernel
def s_Ta_readShare_2 : List am_Q := [(20, .aload_n 0, 0, 0, 0, .null)]
theorem t_s_Ta_readShare_2 : s_Ta_readShare_2.all (am_ok 9 cX9_readShare) = true := by decide +kernel
theorem d_X9_readShare_21 : decode cX9_readShare 21 = .ok (.invokevirtual 107, 3) := by decide +kernel
def s_Ta_readShare_3 : List am_Q := [(24, .istore_n 1, 0, 0, 0, .null), (25, .iload_n 1, 0, 0, 0, .null)]
theorem t_s_Ta_readShare_3 : s_Ta_readShare_3.all (am_ok 9 cX9_readShare) = true := by decide +kernel
theorem d_X9_readShare_26 : decode cX9_readShare 26 = .ok (.ifCond .lt 18, 3) := by decide +kernel
def s_Ta_readShare_4 : List am_Q := [(44, .aload_n 0, 0, 0, 0, .null), (45, .getfield 21, 9, 3, 113, .null), (48, .iconst 1, 0, 0, 0, .int (nI 1)), (49, .iconst 4, 0, 0, 0, .int (nI 4))]
theorem t_s_Ta_readShare_4 : s_Ta_readShare_4.all (am_ok 9 cX9_readShare) = true := by decide +kernel
theorem d_X9_readShare_50 : decode cX9_readShare 50 = .ok (.invokevirtual 57, 3) := by decide +kernel
def s_Ta_readShare_5 : List am_Q := [(53, .aload_n 0, 0, 0, 0, .null)]
theorem t_s_Ta_readShare_5 : s_Ta_readShare_5.all (am_ok 9 cX9_readShare) = true := by decide +kernel
theorem d_X9_readShare_54 : decode cX9_readShare 54 = .ok (.invokevirtual 110, 3) := by decide +kernel
def s_Ta_readShare_6 : List am_Q := [(57, .istore_n 2, 0, 0, 0, .null), (58, .iload_n 2, 0, 0, 0, .null), (59, .iconst 0, 0, 0, 0, .int (nI 0)), (60, .bipush 24, 0, 0, 0, .int (nI 24))]
theorem t_s_Ta_readShare_6 : s_Ta_readShare_6.all (am_ok 9 cX9_readShare) = true := by decide +kernel
theorem d_X9_readShare_62 : decode cX9_readShare 62 = .ok (.invokestatic 113, 3) := by decide +kernel
theorem d_X9_readShare_65 : decode cX9_readShare 65 = .ok (.ifCond .ne 5, 3) := by decide +kernel
def s_Ta_readShare_7 : List am_Q := [(70, .aload_n 0, 0, 0, 0, .null), (71, .getfield 21, 9, 3, 113, .null), (74, .iconst 2, 0, 0, 0, .int (nI 2)), (75, .iload_n 2, 0, 0, 0, .null)]
theorem t_s_Ta_readShare_7 : s_Ta_readShare_7.all (am_ok 9 cX9_readShare) = true := by decide +kernel
theorem d_X9_readShare_76 : decode cX9_readShare 76 = .ok (.invokevirtual 57, 3) := by decide +kernel
def s_Ta_readShare_8 : List am_Q := [(79, .aload_n 0, 0, 0, 0, .null)]
theorem t_s_Ta_readShare_8 : s_Ta_readShare_8.all (am_ok 9 cX9_readShare) = true := by decide +kernel
theorem d_X9_readShare_80 : decode cX9_readShare 80 = .ok (.invokevirtual 44, 3) := by decide +kernel
def s_Ta_readShare_9 : List am_Q := [(83, .aload_n 0, 0, 0, 0, .null), (84, .ldc 117, 13, 0, 0, .ref 1013)]
theorem t_s_Ta_readShare_9 : s_Ta_readShare_9.all (am_ok 9 cX9_readShare) = true := by decide +kernel
theorem d_X9_readShare_86 : decode cX9_readShare 86 = .ok (.invokevirtual 69, 3) := by decide +kernel
theorem d_X9_readShare_89 : decode cX9_readShare 89 = .ok (.ifCond .ne 5, 3) := by decide +kernel
def s_Ta_readShare_10 : List am_Q := [(94, .aload_n 0, 0, 0, 0, .null)]
theorem t_s_Ta_readShare_10 : s_Ta_readShare_10.all (am_ok 9 cX9_readShare) = true := by decide +kernel
theorem d_X9_readShare_95 : decode cX9_readShare 95 = .ok (.invokevirtual 110, 3) := by decide +kernel
def s_Ta_readShare_11 : List am_Q := [(98, .istore_n 3, 0, 0, 0, .null), (99, .iload_n 3, 0, 0, 0, .null), (100, .iconst 1, 0, 0, 0, .int (nI 1)), (101, .iload_n 2, 0, 0, 0, .null)]
theorem t_s_Ta_readShare_11 : s_Ta_readShare_11.all (am_ok 9 cX9_readShare) = true := by decide +kernel
theorem d_X9_readShare_102 : decode cX9_readShare 102 = .ok (.invokestatic 119, 3) := by decide +kernel
def s_Ta_readShare_12 : List am_Q := [(105, .bipush 24, 0, 0, 0, .int (nI 24))]
theorem t_s_Ta_readShare_12 : s_Ta_readShare_12.all (am_ok 9 cX9_readShare) = true := by decide +kernel
theorem d_X9_readShare_107 : decode cX9_readShare 107 = .ok (.invokestatic 113, 3) := by decide +kernel
theorem d_X9_readShare_110 : decode cX9_readShare 110 = .ok (.ifCond .ne 5, 3) := by decide +kernel
def s_Ta_readShare_13 : List am_Q := [(115, .aload_n 0, 0, 0, 0, .null), (116, .getfield 21, 9, 3, 113, .null), (119, .iconst 3, 0, 0, 0, .int (nI 3)), (120, .iload_n 3, 0, 0, 0, .null)]
theorem t_s_Ta_readShare_13 : s_Ta_readShare_13.all (am_ok 9 cX9_readShare) = true := by decide +kernel
theorem d_X9_readShare_121 : decode cX9_readShare 121 = .ok (.invokevirtual 57, 3) := by decide +kernel
def s_Ta_readShare_14 : List am_Q := [(124, .aload_n 0, 0, 0, 0, .null)]
theorem t_s_Ta_readShare_14 : s_Ta_readShare_14.all (am_ok 9 cX9_readShare) = true := by decide +kernel
theorem d_X9_readShare_125 : decode cX9_readShare 125 = .ok (.invokevirtual 44, 3) := by decide +kernel
def s_Ta_readShare_15 : List am_Q := [(128, .iconst 1, 0, 0, 0, .int (nI 1))]
theorem t_s_Ta_readShare_15 : s_Ta_readShare_15.all (am_ok 9 cX9_readShare) = true := by decide +kernel
theorem d_X9_readShare_129 : decode cX9_readShare 129 = .ok (.ireturn, 1) := by decide +kernel
def s_Ta_readShare_16 : List am_Q := [(113, .iconst 0, 0, 0, 0, .int (nI 0))]
theorem t_s_Ta_readShare_16 : s_Ta_readShare_16.all (am_ok 9 cX9_readShare) = true := by decide +kernel
theorem d_X9_readShare_114 : decode cX9_readShare 114 = .ok (.ireturn, 1) := by decide +kernel
def s_Ta_readShare_17 : List am_Q := [(92, .iconst 0, 0, 0, 0, .int (nI 0))]
theorem t_s_Ta_readShare_17 : s_Ta_readShare_17.all (am_ok 9 cX9_readShare) = true := by decide +kernel
theorem d_X9_readShare_93 : decode cX9_readShare 93 = .ok (.ireturn, 1) := by decide +kernel
def s_Ta_readShare_18 : List am_Q := [(68, .iconst 0, 0, 0, 0, .int (nI 0))]
theorem t_s_Ta_readShare_18 : s_Ta_readShare_18.all (am_ok 9 cX9_readShare) = true := by decide +kernel
theorem d_X9_readShare_69 : decode cX9_readShare 69 = .ok (.ireturn, 1) := by decide +kernel
def s_Ta_readShare_19 : List am_Q := [(29, .aload_n 0, 0, 0, 0, .null), (30, .getfield 21, 9, 3, 113, .null), (33, .iconst 1, 0, 0, 0, .int (nI 1)), (34, .iload_n 1, 0, 0, 0, .null)]
theorem t_s_Ta_readShare_19 : s_Ta_readShare_19.all (am_ok 9 cX9_readShare) = true := by decide +kernel
theorem d_X9_readShare_35 : decode cX9_readShare 35 = .ok (.invokevirtual 57, 3) := by decide +kernel
def s_Ta_readShare_20 : List am_Q := [(38, .aload_n 0, 0, 0, 0, .null)]
theorem t_s_Ta_readShare_20 : s_Ta_readShare_20.all (am_ok 9 cX9_readShare) = true := by decide +kernel
theorem d_X9_readShare_39 : decode cX9_readShare 39 = .ok (.invokevirtual 44, 3) := by decide +kernel
def s_Ta_readShare_21 : List am_Q := [(42, .iconst 1, 0, 0, 0, .int (nI 1))]
theorem t_s_Ta_readShare_21 : s_Ta_readShare_21.all (am_ok 9 cX9_readShare) = true := by decide +kernel
theorem d_X9_readShare_43 : decode cX9_readShare 43 = .ok (.ireturn, 1) := by decide +kernel
def Ta_readShare (τ : am_T) : Option (Int32 × am_T) :=
  (Le_put τ 116 (nI 2) (-3 : Int32)).bind (fun x1 =>
  (Le_put x1 116 (nI 3) (-3 : Int32)).bind (fun x2 =>
  (Ta_plainShareAtHand x2).bind (fun x3 =>
  if x3.1 < 0 then
  ((Le_put x3.2 116 (nI 1) (nI 4)).bind (fun x4 =>
  (Ta_numberAtHand x4).bind (fun x5 =>
  (X_within x5.2 x5.1 (nI 0) (nI 24)).bind (fun x6 =>
  if x6.1 = 0 then
  (some ((nI 0), x6.2))
else
  ((Le_put x6.2 116 (nI 2) x5.1).bind (fun x7 =>
  (Ta_step x7).bind (fun x8 =>
  (Ta_take x8 1013).bind (fun x9 =>
  if x9.1 = 0 then
  (some ((nI 0), x9.2))
else
  ((Ta_numberAtHand x9.2).bind (fun x10 =>
  (X_within x10.2 x10.1 (if (nI 1) < x5.1 then x5.1 else (nI 1)) (nI 24)).bind (fun x11 =>
  if x11.1 = 0 then
  (some ((nI 0), x11.2))
else
  ((Le_put x11.2 116 (nI 3) x10.1).bind (fun x12 =>
  (Ta_step x12).bind (fun x13 =>
  some ((nI 1), x13)))))))))))))))
else
  ((Le_put x3.2 116 (nI 1) x3.1).bind (fun x14 =>
  (Ta_step x14).bind (fun x15 =>
  some ((nI 1), x15)))))))
set_option maxRecDepth 20000 in
theorem ok_Ta_readShare {X : am_X} {v : Int32} {τ τ' : am_T} (hF : am_F X "ShareHouse$Tape" cX9_readShare 4) (hR : am_R X 6 128) (hB : am_B X (some .boolean) (some (.int v)) (am_D τ')) (h : Ta_readShare τ = some (v, τ')) : am_W X 4 (0, [(0, .ref 113)], [], am_D τ) := by
  unfold Ta_readShare at h
  refine am_seg s_Ta_readShare_0 (y := (7, [(0, .ref 113)], [.int (-3 : Int32), .int (nI 2), .ref 116], am_D τ)) hF t_s_Ta_readShare_0 rfl rfl ?_
  refine am_bd h (fun x1 hx h => ?_)
  refine am_callV (As := [.int (nI 2), .int (-3 : Int32)]) (r := none) (st := []) (σ' := am_D x1) (ci := 4) hF hR d_X9_readShare_7 (c_Le_put (τ' := x1) hx) (Nat.le_refl _) (Nat.le_refl _) wl_Ta_57 wi_yX4_put we_yX4_put wn_ShareHouse_Lease wc_yX4_put (Nat.le_of_ble_eq_true rfl) (Nat.le_of_ble_eq_true rfl) rfl rfl wy_yX4_put rfl ⟨by decide, by decide⟩ (Nat.le_of_ble_eq_true rfl) ?_
  refine am_seg s_Ta_readShare_1 (y := (17, [(0, .ref 113)], [.int (-3 : Int32), .int (nI 3), .ref 116], am_D x1)) hF t_s_Ta_readShare_1 rfl rfl ?_
  refine am_bd h (fun x2 hx h => ?_)
  refine am_callV (As := [.int (nI 3), .int (-3 : Int32)]) (r := none) (st := []) (σ' := am_D x2) (ci := 4) hF hR d_X9_readShare_17 (c_Le_put (τ' := x2) hx) (Nat.le_refl _) (Nat.le_refl _) wl_Ta_57 wi_yX4_put we_yX4_put wn_ShareHouse_Lease wc_yX4_put (Nat.le_of_ble_eq_true rfl) (Nat.le_of_ble_eq_true rfl) rfl rfl wy_yX4_put rfl ⟨by decide, by decide⟩ (Nat.le_of_ble_eq_true rfl) ?_
  refine am_seg s_Ta_readShare_2 (y := (21, [(0, .ref 113)], [.ref 113], am_D x2)) hF t_s_Ta_readShare_2 rfl rfl ?_
  refine am_bd h (fun x3 hx h => ?_)
  refine am_callV (As := []) (r := (some (.int x3.1))) (st := []) (σ' := am_D x3.2) (ci := 9) hF hR d_X9_readShare_21 (c_Ta_plainShareAtHand (τ' := x3.2) hx) (Nat.le_refl _) (Nat.le_refl _) wl_Ta_107 wi_yX9_plainShareAtHand we_yX9_plainShareAtHand wn_ShareHouse_Tape wc_yX9_plainShareAtHand (Nat.le_of_ble_eq_true rfl) (Nat.le_of_ble_eq_true rfl) rfl rfl wy_yX9_plainShareAtHand rfl ⟨by decide, by decide⟩ (Nat.le_of_ble_eq_true rfl) ?_
  refine am_seg s_Ta_readShare_3 (y := (26, [(1, .int x3.1), (0, .ref 113)], [.int x3.1], am_D x3.2)) hF t_s_Ta_readShare_3 rfl rfl ?_
  refine am_ite h (fun hc h => ?_) (fun hc h => ?_)
  · refine am_if_lt_t (t := 44) d_X9_readShare_26 (by decide) hc hF ?_
    refine am_seg s_Ta_readShare_4 (y := (50, [(1, .int x3.1), (0, .ref 113)], [.int (nI 4), .int (nI 1), .ref 116], am_D x3.2)) hF t_s_Ta_readShare_4 rfl rfl ?_
    refine am_bd h (fun x4 hx h => ?_)
    refine am_callV (As := [.int (nI 1), .int (nI 4)]) (r := none) (st := []) (σ' := am_D x4) (ci := 4) hF hR d_X9_readShare_50 (c_Le_put (τ' := x4) hx) (Nat.le_refl _) (Nat.le_refl _) wl_Ta_57 wi_yX4_put we_yX4_put wn_ShareHouse_Lease wc_yX4_put (Nat.le_of_ble_eq_true rfl) (Nat.le_of_ble_eq_true rfl) rfl rfl wy_yX4_put rfl ⟨by decide, by decide⟩ (Nat.le_of_ble_eq_true rfl) ?_
    refine am_seg s_Ta_readShare_5 (y := (54, [(1, .int x3.1), (0, .ref 113)], [.ref 113], am_D x4)) hF t_s_Ta_readShare_5 rfl rfl ?_
    refine am_bd h (fun x5 hx h => ?_)
    refine am_callV (As := []) (r := (some (.int x5.1))) (st := []) (σ' := am_D x5.2) (ci := 9) hF hR d_X9_readShare_54 (c_Ta_numberAtHand (τ' := x5.2) hx) (Nat.le_refl _) (Nat.le_refl _) wl_Ta_110 wi_yX9_numberAtHand we_yX9_numberAtHand wn_ShareHouse_Tape wc_yX9_numberAtHand (Nat.le_of_ble_eq_true rfl) (Nat.le_of_ble_eq_true rfl) rfl rfl wy_yX9_numberAtHand rfl ⟨by decide, by decide⟩ (Nat.le_of_ble_eq_true rfl) ?_
    refine am_seg s_Ta_readShare_6 (y := (62, [(2, .int x5.1), (1, .int x3.1), (0, .ref 113)], [.int (nI 24), .int (nI 0), .int x5.1], am_D x5.2)) hF t_s_Ta_readShare_6 rfl rfl ?_
    refine am_bd h (fun x6 hx h => ?_)
    refine am_callSN (As := [.int x5.1, .int (nI 0), .int (nI 24)]) (r := (some (.int x6.1))) (st := []) (σ' := am_D x6.2) (host := "ShareHouse") hF hR d_X9_readShare_62 (c_X_within (τ' := x6.2) hx) (Nat.le_refl _) (Nat.le_refl _) wk_Ta_113 ws_yX11_within wn_ShareHouse wc_yX11_within wy_yX11_within rfl ⟨by decide, by decide⟩ (Nat.le_of_ble_eq_true rfl) ?_
    refine am_ite h (fun hc h => ?_) (fun hc h => ?_)
    · refine am_if_ne_f (t := 70) d_X9_readShare_65 (by decide) hc hF ?_
      refine am_seg s_Ta_readShare_18 (y := (69, [(2, .int x5.1), (1, .int x3.1), (0, .ref 113)], [.int (nI 0)], am_D x6.2)) hF t_s_Ta_readShare_18 rfl rfl ?_
      obtain ⟨rfl, rfl⟩ := am_pair h
      exact am_zret d_X9_readShare_69 rfl hF hB
    · refine am_if_ne_t (t := 70) d_X9_readShare_65 (by decide) hc hF ?_
      refine am_seg s_Ta_readShare_7 (y := (76, [(2, .int x5.1), (1, .int x3.1), (0, .ref 113)], [.int x5.1, .int (nI 2), .ref 116], am_D x6.2)) hF t_s_Ta_readShare_7 rfl rfl ?_
      refine am_bd h (fun x7 hx h => ?_)
      refine am_callV (As := [.int (nI 2), .int x5.1]) (r := none) (st := []) (σ' := am_D x7) (ci := 4) hF hR d_X9_readShare_76 (c_Le_put (τ' := x7) hx) (Nat.le_refl _) (Nat.le_refl _) wl_Ta_57 wi_yX4_put we_yX4_put wn_ShareHouse_Lease wc_yX4_put (Nat.le_of_ble_eq_true rfl) (Nat.le_of_ble_eq_true rfl) rfl rfl wy_yX4_put rfl ⟨by decide, by decide⟩ (Nat.le_of_ble_eq_true rfl) ?_
      refine am_seg s_Ta_readShare_8 (y := (80, [(2, .int x5.1), (1, .int x3.1), (0, .ref 113)], [.ref 113], am_D x7)) hF t_s_Ta_readShare_8 rfl rfl ?_
      refine am_bd h (fun x8 hx h => ?_)
      refine am_callV (As := []) (r := none) (st := []) (σ' := am_D x8) (ci := 9) hF hR d_X9_readShare_80 (c_Ta_step (τ' := x8) hx) (Nat.le_refl _) (Nat.le_refl _) wl_Ta_44 wi_yX9_step we_yX9_step wn_ShareHouse_Tape wc_yX9_step (Nat.le_of_ble_eq_true rfl) (Nat.le_of_ble_eq_true rfl) rfl rfl wy_yX9_step rfl ⟨by decide, by decide⟩ (Nat.le_of_ble_eq_true rfl) ?_
      refine am_seg s_Ta_readShare_9 (y := (86, [(2, .int x5.1), (1, .int x3.1), (0, .ref 113)], [.ref 1013, .ref 113], am_D x8)) hF t_s_Ta_readShare_9 rfl rfl ?_
      refine am_bd h (fun x9 hx h => ?_)
      refine am_callV (As := [.ref 1013]) (r := (some (.int x9.1))) (st := []) (σ' := am_D x9.2) (ci := 9) hF hR d_X9_readShare_86 (c_Ta_take (τ' := x9.2) hx) (Nat.le_refl _) (Nat.le_refl _) wl_Ta_69 wi_yX9_take we_yX9_take wn_ShareHouse_Tape wc_yX9_take (Nat.le_of_ble_eq_true rfl) (Nat.le_of_ble_eq_true rfl) rfl rfl wy_yX9_take rfl ⟨by decide, by decide⟩ (Nat.le_of_ble_eq_true rfl) ?_
      refine am_ite h (fun hc h => ?_) (fun hc h => ?_)
      · refine am_if_ne_f (t := 94) d_X9_readShare_89 (by decide) hc hF ?_
        refine am_seg s_Ta_readShare_17 (y := (93, [(2, .int x5.1), (1, .int x3.1), (0, .ref 113)], [.int (nI 0)], am_D x9.2)) hF t_s_Ta_readShare_17 rfl rfl ?_
        obtain ⟨rfl, rfl⟩ := am_pair h
        exact am_zret d_X9_readShare_93 rfl hF hB
      · refine am_if_ne_t (t := 94) d_X9_readShare_89 (by decide) hc hF ?_
        refine am_seg s_Ta_readShare_10 (y := (95, [(2, .int x5.1), (1, .int x3.1), (0, .ref 113)], [.ref 113], am_D x9.2)) hF t_s_Ta_readShare_10 rfl rfl ?_
        refine am_bd h (fun x10 hx h => ?_)
        refine am_callV (As := []) (r := (some (.int x10.1))) (st := []) (σ' := am_D x10.2) (ci := 9) hF hR d_X9_readShare_95 (c_Ta_numberAtHand (τ' := x10.2) hx) (Nat.le_refl _) (Nat.le_refl _) wl_Ta_110 wi_yX9_numberAtHand we_yX9_numberAtHand wn_ShareHouse_Tape wc_yX9_numberAtHand (Nat.le_of_ble_eq_true rfl) (Nat.le_of_ble_eq_true rfl) rfl rfl wy_yX9_numberAtHand rfl ⟨by decide, by decide⟩ (Nat.le_of_ble_eq_true rfl) ?_
        refine am_seg s_Ta_readShare_11 (y := (102, [(3, .int x10.1), (2, .int x5.1), (1, .int x3.1), (0, .ref 113)], [.int x5.1, .int (nI 1), .int x10.1], am_D x10.2)) hF t_s_Ta_readShare_11 rfl rfl ?_
        refine am_mmax d_X9_readShare_102 wq_max_9_119 wq_max_s wq_math wq_max_c ⟨by decide, Nat.le_of_ble_eq_true rfl⟩ (Nat.le_refl _) hF hR ?_
        refine am_seg s_Ta_readShare_12 (y := (107, [(3, .int x10.1), (2, .int x5.1), (1, .int x3.1), (0, .ref 113)], [.int (nI 24), .int (if (nI 1) < x5.1 then x5.1 else (nI 1)), .int x10.1], am_D x10.2)) hF t_s_Ta_readShare_12 rfl rfl ?_
        refine am_bd h (fun x11 hx h => ?_)
        refine am_callSN (As := [.int x10.1, .int (if (nI 1) < x5.1 then x5.1 else (nI 1)), .int (nI 24)]) (r := (some (.int x11.1))) (st := []) (σ' := am_D x11.2) (host := "ShareHouse") hF hR d_X9_readShare_107 (c_X_within (τ' := x11.2) hx) (Nat.le_refl _) (Nat.le_refl _) wk_Ta_113 ws_yX11_within wn_ShareHouse wc_yX11_within wy_yX11_within rfl ⟨by decide, by decide⟩ (Nat.le_of_ble_eq_true rfl) ?_
        refine am_ite h (fun hc h => ?_) (fun hc h => ?_)
        · refine am_if_ne_f (t := 115) d_X9_readShare_110 (by decide) hc hF ?_
          refine am_seg s_Ta_readShare_16 (y := (114, [(3, .int x10.1), (2, .int x5.1), (1, .int x3.1), (0, .ref 113)], [.int (nI 0)], am_D x11.2)) hF t_s_Ta_readShare_16 rfl rfl ?_
          obtain ⟨rfl, rfl⟩ := am_pair h
          exact am_zret d_X9_readShare_114 rfl hF hB
        · refine am_if_ne_t (t := 115) d_X9_readShare_110 (by decide) hc hF ?_
          refine am_seg s_Ta_readShare_13 (y := (121, [(3, .int x10.1), (2, .int x5.1), (1, .int x3.1), (0, .ref 113)], [.int x10.1, .int (nI 3), .ref 116], am_D x11.2)) hF t_s_Ta_readShare_13 rfl rfl ?_
          refine am_bd h (fun x12 hx h => ?_)
          refine am_callV (As := [.int (nI 3), .int x10.1]) (r := none) (st := []) (σ' := am_D x12) (ci := 4) hF hR d_X9_readShare_121 (c_Le_put (τ' := x12) hx) (Nat.le_refl _) (Nat.le_refl _) wl_Ta_57 wi_yX4_put we_yX4_put wn_ShareHouse_Lease wc_yX4_put (Nat.le_of_ble_eq_true rfl) (Nat.le_of_ble_eq_true rfl) rfl rfl wy_yX4_put rfl ⟨by decide, by decide⟩ (Nat.le_of_ble_eq_true rfl) ?_
          refine am_seg s_Ta_readShare_14 (y := (125, [(3, .int x10.1), (2, .int x5.1), (1, .int x3.1), (0, .ref 113)], [.ref 113], am_D x12)) hF t_s_Ta_readShare_14 rfl rfl ?_
          refine am_bd h (fun x13 hx h => ?_)
          refine am_callV (As := []) (r := none) (st := []) (σ' := am_D x13) (ci := 9) hF hR d_X9_readShare_125 (c_Ta_step (τ' := x13) hx) (Nat.le_refl _) (Nat.le_refl _) wl_Ta_44 wi_yX9_step we_yX9_step wn_ShareHouse_Tape wc_yX9_step (Nat.le_of_ble_eq_true rfl) (Nat.le_of_ble_eq_true rfl) rfl rfl wy_yX9_step rfl ⟨by decide, by decide⟩ (Nat.le_of_ble_eq_true rfl) ?_
          refine am_seg s_Ta_readShare_15 (y := (129, [(3, .int x10.1), (2, .int x5.1), (1, .int x3.1), (0, .ref 113)], [.int (nI 1)], am_D x13)) hF t_s_Ta_readShare_15 rfl rfl ?_
          obtain ⟨rfl, rfl⟩ := am_pair h
          exact am_zret d_X9_readShare_129 rfl hF hB
  · refine am_if_lt_f (t := 44) d_X9_readShare_26 (by decide) hc hF ?_
    refine am_seg s_Ta_readShare_19 (y := (35, [(1, .int x3.1), (0, .ref 113)], [.int x3.1, .int (nI 1), .ref 116], am_D x3.2)) hF t_s_Ta_readShare_19 rfl rfl ?_
    refine am_bd h (fun x14 hx h => ?_)
    refine am_callV (As := [.int (nI 1), .int x3.1]) (r := none) (st := []) (σ' := am_D x14) (ci := 4) hF hR d_X9_readShare_35 (c_Le_put (τ' := x14) hx) (Nat.le_refl _) (Nat.le_refl _) wl_Ta_57 wi_yX4_put we_yX4_put wn_ShareHouse_Lease wc_yX4_put (Nat.le_of_ble_eq_true rfl) (Nat.le_of_ble_eq_true rfl) rfl rfl wy_yX4_put rfl ⟨by decide, by decide⟩ (Nat.le_of_ble_eq_true rfl) ?_
    refine am_seg s_Ta_readShare_20 (y := (39, [(1, .int x3.1), (0, .ref 113)], [.ref 113], am_D x14)) hF t_s_Ta_readShare_20 rfl rfl ?_
    refine am_bd h (fun x15 hx h => ?_)
    refine am_callV (As := []) (r := none) (st := []) (σ' := am_D x15) (ci := 9) hF hR d_X9_readShare_39 (c_Ta_step (τ' := x15) hx) (Nat.le_refl _) (Nat.le_refl _) wl_Ta_44 wi_yX9_step we_yX9_step wn_ShareHouse_Tape wc_yX9_step (Nat.le_of_ble_eq_true rfl) (Nat.le_of_ble_eq_true rfl) rfl rfl wy_yX9_step rfl ⟨by decide, by decide⟩ (Nat.le_of_ble_eq_true rfl) ?_
    refine am_seg s_Ta_readShare_21 (y := (43, [(1, .int x3.1), (0, .ref 113)], [.int (nI 1)], am_D x15)) hF t_s_Ta_readShare_21 rfl rfl ?_
    obtain ⟨rfl, rfl⟩ := am_pair h
    exact am_zret d_X9_readShare_43 rfl hF hB
theorem c_Ta_readShare {v : Int32} {τ τ' : am_T} (h : Ta_readShare τ = some (v, τ')) : am_C yX9_readShare cX9_readShare 4 (some .boolean) 6 128 [.ref 113] (am_D τ) (some (.int v)) (am_D τ') :=
  am_enter (by decide +kernel) (Nat.le_of_ble_eq_true rfl) ⟨Nat.le_refl _, Nat.le_refl _⟩ (fun X hF hR hB => ok_Ta_readShare hF hR hB h)
def s_Ta_takeSemicolon_0 : List am_Q := [(0, .aload_n 0, 0, 0, 0, .null), (1, .getfield 47, 9, 6, 117, .null), (4, .iconst 3, 0, 0, 0, .int (nI 3))]
theorem t_s_Ta_takeSemicolon_0 : s_Ta_takeSemicolon_0.all (am_ok 9 cX9_takeSemicolon) = true := by decide +kernel
theorem d_X9_takeSemicolon_5 : decode cX9_takeSemicolon 5 = .ok (.if_icmp .ne 17, 3) := by decide +kernel
def s_Ta_takeSemicolon_1 : List am_Q := [(22, .iconst 0, 0, 0, 0, .int (nI 0))]
theorem t_s_Ta_takeSemicolon_1 : s_Ta_takeSemicolon_1.all (am_ok 9 cX9_takeSemicolon) = true := by decide +kernel
theorem d_X9_takeSemicolon_23 : decode cX9_takeSemicolon 23 = .ok (.ireturn, 1) := by decide +kernel
def s_Ta_takeSemicolon_2 : List am_Q := [(8, .aload_n 0, 0, 0, 0, .null), (9, .getfield 11, 9, 0, 109, .null), (12, .aload_n 0, 0, 0, 0, .null), (13, .getfield 54, 9, 4, 115, .null)]
theorem t_s_Ta_takeSemicolon_2 : s_Ta_takeSemicolon_2.all (am_ok 9 cX9_takeSemicolon) = true := by decide +kernel
theorem d_X9_takeSemicolon_16 : decode cX9_takeSemicolon 16 = .ok (.iaload, 1) := by decide +kernel
def s_Ta_takeSemicolon_3 : List am_Q := [(17, .bipush 59, 0, 0, 0, .int (nI 59))]
theorem t_s_Ta_takeSemicolon_3 : s_Ta_takeSemicolon_3.all (am_ok 9 cX9_takeSemicolon) = true := by decide +kernel
theorem d_X9_takeSemicolon_19 : decode cX9_takeSemicolon 19 = .ok (.if_icmp .eq 5, 3) := by decide +kernel
def s_Ta_takeSemicolon_4 : List am_Q := [(24, .aload_n 0, 0, 0, 0, .null)]
theorem t_s_Ta_takeSemicolon_4 : s_Ta_takeSemicolon_4.all (am_ok 9 cX9_takeSemicolon) = true := by decide +kernel
theorem d_X9_takeSemicolon_25 : decode cX9_takeSemicolon 25 = .ok (.invokevirtual 44, 3) := by decide +kernel
def s_Ta_takeSemicolon_5 : List am_Q := [(28, .iconst 1, 0, 0, 0, .int (nI 1))]
theorem t_s_Ta_takeSemicolon_5 : s_Ta_takeSemicolon_5.all (am_ok 9 cX9_takeSemicolon) = true := by decide +kernel
theorem d_X9_takeSemicolon_29 : decode cX9_takeSemicolon 29 = .ok (.ireturn, 1) := by decide +kernel
def s_Ta_takeSemicolon_6 : List am_Q := [(22, .iconst 0, 0, 0, 0, .int (nI 0))]
theorem t_s_Ta_takeSemicolon_6 : s_Ta_takeSemicolon_6.all (am_ok 9 cX9_takeSemicolon) = true := by decide +kernel
def Ta_takeSemicolon (τ : am_T) : Option (Int32 × am_T) :=
  if (τ.1 113 6) = (nI 3) then
  (am_g (am_in (τ.1 113 4) 200) (if (τ.1 114 ((τ.1 113 4).toNatClampNeg)) = (nI 59) then
  ((Ta_step τ).bind (fun x1 =>
  some ((nI 1), x1)))
else
  (some ((nI 0), τ))))
else
  (some ((nI 0), τ))
set_option maxRecDepth 20000 in
theorem ok_Ta_takeSemicolon {X : am_X} {v : Int32} {τ τ' : am_T} (hF : am_F X "ShareHouse$Tape" cX9_takeSemicolon 1) (hR : am_R X 1 20) (hB : am_B X (some .boolean) (some (.int v)) (am_D τ')) (h : Ta_takeSemicolon τ = some (v, τ')) : am_W X 1 (0, [(0, .ref 113)], [], am_D τ) := by
  unfold Ta_takeSemicolon at h
  refine am_seg s_Ta_takeSemicolon_0 (y := (5, [(0, .ref 113)], [.int (nI 3), .int (τ.1 113 6)], am_D τ)) hF t_s_Ta_takeSemicolon_0 rfl rfl ?_
  refine am_ite h (fun hc h => ?_) (fun hc h => ?_)
  · refine am_icmp_ne_f (t := 22) d_X9_takeSemicolon_5 (by decide) hc hF ?_
    refine am_seg s_Ta_takeSemicolon_2 (y := (16, [(0, .ref 113)], [.int (τ.1 113 4), .ref 114], am_D τ)) hF t_s_Ta_takeSemicolon_2 rfl rfl ?_
    refine am_gd h (fun hi h => ?_)
    refine am_iald (n := 200) (j := ((τ.1 113 4).toNatClampNeg)) d_X9_takeSemicolon_16 (Nat.le_of_ble_eq_true rfl) (Nat.le_of_ble_eq_true rfl) rfl hi rfl hF ?_
    refine am_seg s_Ta_takeSemicolon_3 (y := (19, [(0, .ref 113)], [.int (nI 59), .int (τ.1 114 ((τ.1 113 4).toNatClampNeg))], am_D τ)) hF t_s_Ta_takeSemicolon_3 rfl rfl ?_
    refine am_ite h (fun hc h => ?_) (fun hc h => ?_)
    · refine am_icmp_eq_t (t := 24) d_X9_takeSemicolon_19 (by decide) hc hF ?_
      refine am_seg s_Ta_takeSemicolon_4 (y := (25, [(0, .ref 113)], [.ref 113], am_D τ)) hF t_s_Ta_takeSemicolon_4 rfl rfl ?_
      refine am_bd h (fun x1 hx h => ?_)
      refine am_callV (As := []) (r := none) (st := []) (σ' := am_D x1) (ci := 9) hF hR d_X9_takeSemicolon_25 (c_Ta_step (τ' := x1) hx) (Nat.le_refl _) (Nat.le_refl _) wl_Ta_44 wi_yX9_step we_yX9_step wn_ShareHouse_Tape wc_yX9_step (Nat.le_of_ble_eq_true rfl) (Nat.le_of_ble_eq_true rfl) rfl rfl wy_yX9_step rfl ⟨by decide, by decide⟩ (Nat.le_of_ble_eq_true rfl) ?_
      refine am_seg s_Ta_takeSemicolon_5 (y := (29, [(0, .ref 113)], [.int (nI 1)], am_D x1)) hF t_s_Ta_takeSemicolon_5 rfl rfl ?_
      obtain ⟨rfl, rfl⟩ := am_pair h
      exact am_zret d_X9_takeSemicolon_29 rfl hF hB
    · refine am_icmp_eq_f (t := 24) d_X9_takeSemicolon_19 (by decide) hc hF ?_
      refine am_seg s_Ta_takeSemicolon_6 (y := (23, [(0, .ref 113)], [.int (nI 0)], am_D τ)) hF t_s_Ta_takeSemicolon_6 rfl rfl ?_
      obtain ⟨rfl, rfl⟩ := am_pair h
      exact am_zret d_X9_takeSemicolon_23 rfl hF hB
  · refine am_icmp_ne_t (t := 22) d_X9_takeSemicolon_5 (by decide) hc hF ?_
    refine am_seg s_Ta_takeSemicolon_1 (y := (23, [(0, .ref 113)], [.int (nI 0)], am_D τ)) hF t_s_Ta_takeSemicolon_1 rfl rfl ?_
    obtain ⟨rfl, rfl⟩ := am_pair h
    exact am_zret d_X9_takeSemicolon_23 rfl hF hB
theorem c_Ta_takeSemicolon {v : Int32} {τ τ' : am_T} (h : Ta_takeSemicolon τ = some (v, τ')) : am_C yX9_takeSemicolon cX9_takeSemicolon 1 (some .boolean) 1 20 [.ref 113] (am_D τ) (some (.int v)) (am_D τ') :=
  am_enter (by decide +kernel) (Nat.le_of_ble_eq_true rfl) ⟨Nat.le_refl _, Nat.le_refl _⟩ (fun X hF hR hB => ok_Ta_takeSemicolon hF hR hB h)
def s_Ta_readOne_0 : List am_Q := [(0, .aload_n 0, 0, 0, 0, .null), (1, .ldc 135, 15, 0, 0, .ref 1015)]
theorem t_s_Ta_readOne_0 : s_Ta_readOne_0.all (am_ok 9 cX9_readOne) = true := by decide +kernel
theorem d_X9_readOne_3 : decode cX9_readOne 3 = .ok (.invokevirtual 69, 3) := by decide +kernel
theorem d_X9_readOne_6 : decode cX9_readOne 6 = .ok (.ifCond .ne 7, 3) := by decide +kernel
def s_Ta_readOne_1 : List am_Q := [(13, .iconst 0, 0, 0, 0, .int (nI 0))]
theorem t_s_Ta_readOne_1 : s_Ta_readOne_1.all (am_ok 9 cX9_readOne) = true := by decide +kernel
def s_Ta_readOne_2 : List am_Q := [(14, .istore_n 1, 0, 0, 0, .null), (15, .aload_n 0, 0, 0, 0, .null), (16, .ldc 137, 16, 0, 0, .ref 1016)]
theorem t_s_Ta_readOne_2 : s_Ta_readOne_2.all (am_ok 9 cX9_readOne) = true := by decide +kernel
theorem d_X9_readOne_18 : decode cX9_readOne 18 = .ok (.invokevirtual 69, 3) := by decide +kernel
theorem d_X9_readOne_21 : decode cX9_readOne 21 = .ok (.ifCond .eq 29, 3) := by decide +kernel
def s_Ta_readOne_3 : List am_Q := [(50, .aload_n 0, 0, 0, 0, .null), (51, .ldc 138, 17, 0, 0, .ref 1017)]
theorem t_s_Ta_readOne_3 : s_Ta_readOne_3.all (am_ok 9 cX9_readOne) = true := by decide +kernel
theorem d_X9_readOne_53 : decode cX9_readOne 53 = .ok (.invokevirtual 94, 3) := by decide +kernel
def s_Ta_readOne_4 : List am_Q := [(56, .istore_n 2, 0, 0, 0, .null), (57, .iload_n 2, 0, 0, 0, .null)]
theorem t_s_Ta_readOne_4 : s_Ta_readOne_4.all (am_ok 9 cX9_readOne) = true := by decide +kernel
theorem d_X9_readOne_58 : decode cX9_readOne 58 = .ok (.ifCond .ne 14, 3) := by decide +kernel
def s_Ta_readOne_5 : List am_Q := [(72, .aload_n 0, 0, 0, 0, .null)]
theorem t_s_Ta_readOne_5 : s_Ta_readOne_5.all (am_ok 9 cX9_readOne) = true := by decide +kernel
theorem d_X9_readOne_73 : decode cX9_readOne 73 = .ok (.invokevirtual 44, 3) := by decide +kernel
def s_Ta_readOne_6 : List am_Q := [(76, .aload_n 0, 0, 0, 0, .null)]
theorem t_s_Ta_readOne_6 : s_Ta_readOne_6.all (am_ok 9 cX9_readOne) = true := by decide +kernel
theorem d_X9_readOne_77 : decode cX9_readOne 77 = .ok (.invokevirtual 110, 3) := by decide +kernel
def s_Ta_readOne_7 : List am_Q := [(80, .istore_n 3, 0, 0, 0, .null), (81, .iload_n 3, 0, 0, 0, .null), (82, .iconst 0, 0, 0, 0, .int (nI 0)), (83, .bipush 9, 0, 0, 0, .int (nI 9))]
theorem t_s_Ta_readOne_7 : s_Ta_readOne_7.all (am_ok 9 cX9_readOne) = true := by decide +kernel
theorem d_X9_readOne_85 : decode cX9_readOne 85 = .ok (.invokestatic 113, 3) := by decide +kernel
theorem d_X9_readOne_88 : decode cX9_readOne 88 = .ok (.ifCond .ne 5, 3) := by decide +kernel
def s_Ta_readOne_8 : List am_Q := [(93, .aload_n 0, 0, 0, 0, .null), (94, .aload_n 0, 0, 0, 0, .null), (95, .getfield 61, 9, 9, 120, .null)]
theorem t_s_Ta_readOne_8 : s_Ta_readOne_8.all (am_ok 9 cX9_readOne) = true := by decide +kernel
theorem d_X9_readOne_98 : decode cX9_readOne 98 = .ok (.ifCond .eq 44, 3) := by decide +kernel
def s_Ta_readOne_9 : List am_Q := [(142, .iconst 0, 0, 0, 0, .int (nI 0))]
theorem t_s_Ta_readOne_9 : s_Ta_readOne_9.all (am_ok 9 cX9_readOne) = true := by decide +kernel
theorem d_X9_readOne_143 : decode cX9_readOne 143 = .ok (.putfield 61, 3) := by decide +kernel
def s_Ta_readOne_10 : List am_Q := [(146, .aload_n 0, 0, 0, 0, .null)]
theorem t_s_Ta_readOne_10 : s_Ta_readOne_10.all (am_ok 9 cX9_readOne) = true := by decide +kernel
theorem d_X9_readOne_147 : decode cX9_readOne 147 = .ok (.invokevirtual 44, 3) := by decide +kernel
def s_Ta_readOne_11 : List am_Q := [(150, .iconst 1, 0, 0, 0, .int (nI 1))]
theorem t_s_Ta_readOne_11 : s_Ta_readOne_11.all (am_ok 9 cX9_readOne) = true := by decide +kernel
theorem d_X9_readOne_151 : decode cX9_readOne 151 = .ok (.ireturn, 1) := by decide +kernel
def s_Ta_readOne_12 : List am_Q := [(101, .iload_n 2, 0, 0, 0, .null)]
theorem t_s_Ta_readOne_12 : s_Ta_readOne_12.all (am_ok 9 cX9_readOne) = true := by decide +kernel
theorem d_X9_readOne_102 : decode cX9_readOne 102 = .ok (.ifCond .eq 19, 3) := by decide +kernel
def s_Ta_readOne_13 : List am_Q := [(121, .aload_n 0, 0, 0, 0, .null), (122, .getfield 33, 9, 7, 118, .null), (125, .iload_n 3, 0, 0, 0, .null)]
theorem t_s_Ta_readOne_13 : s_Ta_readOne_13.all (am_ok 9 cX9_readOne) = true := by decide +kernel
theorem d_X9_readOne_126 : decode cX9_readOne 126 = .ok (.if_icmp .ge 7, 3) := by decide +kernel
def s_Ta_readOne_14 : List am_Q := [(133, .iconst 0, 0, 0, 0, .int (nI 0))]
theorem t_s_Ta_readOne_14 : s_Ta_readOne_14.all (am_ok 9 cX9_readOne) = true := by decide +kernel
def s_Ta_readOne_15 : List am_Q := [(134, .iload_n 1, 0, 0, 0, .null)]
theorem t_s_Ta_readOne_15 : s_Ta_readOne_15.all (am_ok 9 cX9_readOne) = true := by decide +kernel
theorem d_X9_readOne_135 : decode cX9_readOne 135 = .ok (.if_icmp .ne 7, 3) := by decide +kernel
def s_Ta_readOne_16 : List am_Q := [(142, .iconst 0, 0, 0, 0, .int (nI 0))]
theorem t_s_Ta_readOne_16 : s_Ta_readOne_16.all (am_ok 9 cX9_readOne) = true := by decide +kernel
def s_Ta_readOne_17 : List am_Q := [(146, .aload_n 0, 0, 0, 0, .null)]
theorem t_s_Ta_readOne_17 : s_Ta_readOne_17.all (am_ok 9 cX9_readOne) = true := by decide +kernel
def s_Ta_readOne_18 : List am_Q := [(150, .iconst 1, 0, 0, 0, .int (nI 1))]
theorem t_s_Ta_readOne_18 : s_Ta_readOne_18.all (am_ok 9 cX9_readOne) = true := by decide +kernel
def s_Ta_readOne_19 : List am_Q := [(138, .iconst 1, 0, 0, 0, .int (nI 1)), (139, .goto 4, 143, 0, 0, .null)]
theorem t_s_Ta_readOne_19 : s_Ta_readOne_19.all (am_ok 9 cX9_readOne) = true := by decide +kernel
def s_Ta_readOne_20 : List am_Q := [(146, .aload_n 0, 0, 0, 0, .null)]
theorem t_s_Ta_readOne_20 : s_Ta_readOne_20.all (am_ok 9 cX9_readOne) = true := by decide +kernel
def s_Ta_readOne_21 : List am_Q := [(150, .iconst 1, 0, 0, 0, .int (nI 1))]
theorem t_s_Ta_readOne_21 : s_Ta_readOne_21.all (am_ok 9 cX9_readOne) = true := by decide +kernel
def s_Ta_readOne_22 : List am_Q := [(129, .iconst 1, 0, 0, 0, .int (nI 1)), (130, .goto 4, 134, 0, 0, .null)]
theorem t_s_Ta_readOne_22 : s_Ta_readOne_22.all (am_ok 9 cX9_readOne) = true := by decide +kernel
def s_Ta_readOne_23 : List am_Q := [(105, .aload_n 0, 0, 0, 0, .null), (106, .getfield 33, 9, 7, 118, .null), (109, .iload_n 3, 0, 0, 0, .null)]
theorem t_s_Ta_readOne_23 : s_Ta_readOne_23.all (am_ok 9 cX9_readOne) = true := by decide +kernel
theorem d_X9_readOne_110 : decode cX9_readOne 110 = .ok (.if_icmp .le 7, 3) := by decide +kernel
def s_Ta_readOne_24 : List am_Q := [(117, .iconst 0, 0, 0, 0, .int (nI 0)), (118, .goto 16, 134, 0, 0, .null)]
theorem t_s_Ta_readOne_24 : s_Ta_readOne_24.all (am_ok 9 cX9_readOne) = true := by decide +kernel
def s_Ta_readOne_25 : List am_Q := [(113, .iconst 1, 0, 0, 0, .int (nI 1)), (114, .goto 20, 134, 0, 0, .null)]
theorem t_s_Ta_readOne_25 : s_Ta_readOne_25.all (am_ok 9 cX9_readOne) = true := by decide +kernel
def s_Ta_readOne_26 : List am_Q := [(91, .iconst 0, 0, 0, 0, .int (nI 0))]
theorem t_s_Ta_readOne_26 : s_Ta_readOne_26.all (am_ok 9 cX9_readOne) = true := by decide +kernel
theorem d_X9_readOne_92 : decode cX9_readOne 92 = .ok (.ireturn, 1) := by decide +kernel
def s_Ta_readOne_27 : List am_Q := [(61, .aload_n 0, 0, 0, 0, .null), (62, .ldc 140, 18, 0, 0, .ref 1018)]
theorem t_s_Ta_readOne_27 : s_Ta_readOne_27.all (am_ok 9 cX9_readOne) = true := by decide +kernel
theorem d_X9_readOne_64 : decode cX9_readOne 64 = .ok (.invokevirtual 94, 3) := by decide +kernel
theorem d_X9_readOne_67 : decode cX9_readOne 67 = .ok (.ifCond .ne 5, 3) := by decide +kernel
def s_Ta_readOne_28 : List am_Q := [(70, .iconst 0, 0, 0, 0, .int (nI 0))]
theorem t_s_Ta_readOne_28 : s_Ta_readOne_28.all (am_ok 9 cX9_readOne) = true := by decide +kernel
theorem d_X9_readOne_71 : decode cX9_readOne 71 = .ok (.ireturn, 1) := by decide +kernel
def s_Ta_readOne_29 : List am_Q := [(24, .aload_n 0, 0, 0, 0, .null), (25, .aload_n 0, 0, 0, 0, .null), (26, .getfield 61, 9, 9, 120, .null)]
theorem t_s_Ta_readOne_29 : s_Ta_readOne_29.all (am_ok 9 cX9_readOne) = true := by decide +kernel
theorem d_X9_readOne_29 : decode cX9_readOne 29 = .ok (.ifCond .eq 15, 3) := by decide +kernel
def s_Ta_readOne_30 : List am_Q := [(44, .iconst 0, 0, 0, 0, .int (nI 0))]
theorem t_s_Ta_readOne_30 : s_Ta_readOne_30.all (am_ok 9 cX9_readOne) = true := by decide +kernel
theorem d_X9_readOne_45 : decode cX9_readOne 45 = .ok (.putfield 61, 3) := by decide +kernel
def s_Ta_readOne_31 : List am_Q := [(48, .iconst 1, 0, 0, 0, .int (nI 1))]
theorem t_s_Ta_readOne_31 : s_Ta_readOne_31.all (am_ok 9 cX9_readOne) = true := by decide +kernel
theorem d_X9_readOne_49 : decode cX9_readOne 49 = .ok (.ireturn, 1) := by decide +kernel
def s_Ta_readOne_32 : List am_Q := [(32, .aload_n 0, 0, 0, 0, .null), (33, .getfield 36, 9, 8, 119, .null), (36, .iload_n 1, 0, 0, 0, .null)]
theorem t_s_Ta_readOne_32 : s_Ta_readOne_32.all (am_ok 9 cX9_readOne) = true := by decide +kernel
theorem d_X9_readOne_37 : decode cX9_readOne 37 = .ok (.if_icmp .ne 7, 3) := by decide +kernel
def s_Ta_readOne_33 : List am_Q := [(44, .iconst 0, 0, 0, 0, .int (nI 0))]
theorem t_s_Ta_readOne_33 : s_Ta_readOne_33.all (am_ok 9 cX9_readOne) = true := by decide +kernel
def s_Ta_readOne_34 : List am_Q := [(48, .iconst 1, 0, 0, 0, .int (nI 1))]
theorem t_s_Ta_readOne_34 : s_Ta_readOne_34.all (am_ok 9 cX9_readOne) = true := by decide +kernel
def s_Ta_readOne_35 : List am_Q := [(40, .iconst 1, 0, 0, 0, .int (nI 1)), (41, .goto 4, 45, 0, 0, .null)]
theorem t_s_Ta_readOne_35 : s_Ta_readOne_35.all (am_ok 9 cX9_readOne) = true := by decide +kernel
def s_Ta_readOne_36 : List am_Q := [(48, .iconst 1, 0, 0, 0, .int (nI 1))]
theorem t_s_Ta_readOne_36 : s_Ta_readOne_36.all (am_ok 9 cX9_readOne) = true := by decide +kernel
def s_Ta_readOne_37 : List am_Q := [(9, .iconst 1, 0, 0, 0, .int (nI 1)), (10, .goto 4, 14, 0, 0, .null)]
theorem t_s_Ta_readOne_37 : s_Ta_readOne_37.all (am_ok 9 cX9_readOne) = true := by decide +kernel
def Ta_readOne_134 (τ : am_T) (a1 : Int32) (s0 : Int32) : Option (Int32 × am_T) :=
  if s0 = a1 then
  ((Ta_step (am_si τ 113 9 (nI 1))).bind (fun x9 =>
  some ((nI 1), x9)))
else
  ((Ta_step (am_si τ 113 9 (nI 0))).bind (fun x8 =>
  some ((nI 1), x8)))
set_option maxRecDepth 20000 in
theorem ok_Ta_readOne_134 {X : am_X} {v : Int32} {τ' : am_T} (hF : am_F X "ShareHouse$Tape" cX9_readOne 4) (hR : am_R X 6 128) (hB : am_B X (some .boolean) (some (.int v)) (am_D τ')) {τ : am_T} {a1 : Int32} {s0 : Int32} (h : Ta_readOne_134 τ a1 s0 = some (v, τ')) : am_W X 4 (134, [(0, .ref 113), (1, .int a1)], [.int s0, .ref 113], am_D τ) := by
  unfold Ta_readOne_134 at h
  refine am_seg s_Ta_readOne_15 (y := (135, [(0, .ref 113), (1, .int a1)], [.int a1, .int s0, .ref 113], am_D τ)) hF t_s_Ta_readOne_15 rfl rfl ?_
  refine am_ite h (fun hc h => ?_) (fun hc h => ?_)
  · refine am_icmp_ne_f (t := 142) d_X9_readOne_135 (by decide) hc hF ?_
    refine am_seg s_Ta_readOne_19 (y := (143, [(0, .ref 113), (1, .int a1)], [.int (nI 1), .ref 113], am_D τ)) hF t_s_Ta_readOne_19 rfl rfl ?_
    refine am_putZ (ci := 9) (b := 9) d_X9_readOne_143 (Nat.le_of_ble_eq_true rfl) (Nat.le_of_ble_eq_true rfl) rfl rfl (Nat.le_of_ble_eq_true rfl) am_fl120 rfl rfl (by decide) hF ?_
    refine am_seg s_Ta_readOne_20 (y := (147, [(0, .ref 113), (1, .int a1)], [.ref 113], am_D (am_si τ 113 9 (nI 1)))) hF t_s_Ta_readOne_20 rfl rfl ?_
    refine am_bd h (fun x9 hx h => ?_)
    refine am_callV (As := []) (r := none) (st := []) (σ' := am_D x9) (ci := 9) hF hR d_X9_readOne_147 (c_Ta_step (τ' := x9) hx) (Nat.le_refl _) (Nat.le_refl _) wl_Ta_44 wi_yX9_step we_yX9_step wn_ShareHouse_Tape wc_yX9_step (Nat.le_of_ble_eq_true rfl) (Nat.le_of_ble_eq_true rfl) rfl rfl wy_yX9_step rfl ⟨by decide, by decide⟩ (Nat.le_of_ble_eq_true rfl) ?_
    refine am_seg s_Ta_readOne_21 (y := (151, [(0, .ref 113), (1, .int a1)], [.int (nI 1)], am_D x9)) hF t_s_Ta_readOne_21 rfl rfl ?_
    obtain ⟨rfl, rfl⟩ := am_pair h
    exact am_zret d_X9_readOne_151 rfl hF hB
  · refine am_icmp_ne_t (t := 142) d_X9_readOne_135 (by decide) hc hF ?_
    refine am_seg s_Ta_readOne_16 (y := (143, [(0, .ref 113), (1, .int a1)], [.int (nI 0), .ref 113], am_D τ)) hF t_s_Ta_readOne_16 rfl rfl ?_
    refine am_putZ (ci := 9) (b := 9) d_X9_readOne_143 (Nat.le_of_ble_eq_true rfl) (Nat.le_of_ble_eq_true rfl) rfl rfl (Nat.le_of_ble_eq_true rfl) am_fl120 rfl rfl (by decide) hF ?_
    refine am_seg s_Ta_readOne_17 (y := (147, [(0, .ref 113), (1, .int a1)], [.ref 113], am_D (am_si τ 113 9 (nI 0)))) hF t_s_Ta_readOne_17 rfl rfl ?_
    refine am_bd h (fun x8 hx h => ?_)
    refine am_callV (As := []) (r := none) (st := []) (σ' := am_D x8) (ci := 9) hF hR d_X9_readOne_147 (c_Ta_step (τ' := x8) hx) (Nat.le_refl _) (Nat.le_refl _) wl_Ta_44 wi_yX9_step we_yX9_step wn_ShareHouse_Tape wc_yX9_step (Nat.le_of_ble_eq_true rfl) (Nat.le_of_ble_eq_true rfl) rfl rfl wy_yX9_step rfl ⟨by decide, by decide⟩ (Nat.le_of_ble_eq_true rfl) ?_
    refine am_seg s_Ta_readOne_18 (y := (151, [(0, .ref 113), (1, .int a1)], [.int (nI 1)], am_D x8)) hF t_s_Ta_readOne_18 rfl rfl ?_
    obtain ⟨rfl, rfl⟩ := am_pair h
    exact am_zret d_X9_readOne_151 rfl hF hB
def Ta_readOne_72 (τ : am_T) (a1 : Int32) (a2 : Int32) : Option (Int32 × am_T) :=
  (Ta_step τ).bind (fun x4 =>
  (Ta_numberAtHand x4).bind (fun x5 =>
  (X_within x5.2 x5.1 (nI 0) (nI 9)).bind (fun x6 =>
  if x6.1 = 0 then
  (some ((nI 0), x6.2))
else
  (if (x6.2.1 113 9) = 0 then
  ((Ta_step (am_si x6.2 113 9 (nI 0))).bind (fun x7 =>
  some ((nI 1), x7)))
else
  (if a2 = 0 then
  (if x5.1 ≤ (x6.2.1 113 7) then
  (Ta_readOne_134 x6.2 a1 (nI 0))
else
  (Ta_readOne_134 x6.2 a1 (nI 1)))
else
  (if (x6.2.1 113 7) ≤ x5.1 then
  (Ta_readOne_134 x6.2 a1 (nI 0))
else
  (Ta_readOne_134 x6.2 a1 (nI 1))))))))
set_option maxRecDepth 20000 in
theorem ok_Ta_readOne_72 {X : am_X} {v : Int32} {τ' : am_T} (hF : am_F X "ShareHouse$Tape" cX9_readOne 4) (hR : am_R X 6 128) (hB : am_B X (some .boolean) (some (.int v)) (am_D τ')) {τ : am_T} {a1 : Int32} {a2 : Int32} (h : Ta_readOne_72 τ a1 a2 = some (v, τ')) : am_W X 4 (72, [(0, .ref 113), (1, .int a1), (2, .int a2)], [], am_D τ) := by
  unfold Ta_readOne_72 at h
  refine am_seg s_Ta_readOne_5 (y := (73, [(0, .ref 113), (1, .int a1), (2, .int a2)], [.ref 113], am_D τ)) hF t_s_Ta_readOne_5 rfl rfl ?_
  refine am_bd h (fun x4 hx h => ?_)
  refine am_callV (As := []) (r := none) (st := []) (σ' := am_D x4) (ci := 9) hF hR d_X9_readOne_73 (c_Ta_step (τ' := x4) hx) (Nat.le_refl _) (Nat.le_refl _) wl_Ta_44 wi_yX9_step we_yX9_step wn_ShareHouse_Tape wc_yX9_step (Nat.le_of_ble_eq_true rfl) (Nat.le_of_ble_eq_true rfl) rfl rfl wy_yX9_step rfl ⟨by decide, by decide⟩ (Nat.le_of_ble_eq_true rfl) ?_
  refine am_seg s_Ta_readOne_6 (y := (77, [(0, .ref 113), (1, .int a1), (2, .int a2)], [.ref 113], am_D x4)) hF t_s_Ta_readOne_6 rfl rfl ?_
  refine am_bd h (fun x5 hx h => ?_)
  refine am_callV (As := []) (r := (some (.int x5.1))) (st := []) (σ' := am_D x5.2) (ci := 9) hF hR d_X9_readOne_77 (c_Ta_numberAtHand (τ' := x5.2) hx) (Nat.le_refl _) (Nat.le_refl _) wl_Ta_110 wi_yX9_numberAtHand we_yX9_numberAtHand wn_ShareHouse_Tape wc_yX9_numberAtHand (Nat.le_of_ble_eq_true rfl) (Nat.le_of_ble_eq_true rfl) rfl rfl wy_yX9_numberAtHand rfl ⟨by decide, by decide⟩ (Nat.le_of_ble_eq_true rfl) ?_
  refine am_seg s_Ta_readOne_7 (y := (85, [(3, .int x5.1), (0, .ref 113), (1, .int a1), (2, .int a2)], [.int (nI 9), .int (nI 0), .int x5.1], am_D x5.2)) hF t_s_Ta_readOne_7 rfl rfl ?_
  refine am_bd h (fun x6 hx h => ?_)
  refine am_callSN (As := [.int x5.1, .int (nI 0), .int (nI 9)]) (r := (some (.int x6.1))) (st := []) (σ' := am_D x6.2) (host := "ShareHouse") hF hR d_X9_readOne_85 (c_X_within (τ' := x6.2) hx) (Nat.le_refl _) (Nat.le_refl _) wk_Ta_113 ws_yX11_within wn_ShareHouse wc_yX11_within wy_yX11_within rfl ⟨by decide, by decide⟩ (Nat.le_of_ble_eq_true rfl) ?_
  refine am_ite h (fun hc h => ?_) (fun hc h => ?_)
  · refine am_if_ne_f (t := 93) d_X9_readOne_88 (by decide) hc hF ?_
    refine am_seg s_Ta_readOne_26 (y := (92, [(3, .int x5.1), (0, .ref 113), (1, .int a1), (2, .int a2)], [.int (nI 0)], am_D x6.2)) hF t_s_Ta_readOne_26 rfl rfl ?_
    obtain ⟨rfl, rfl⟩ := am_pair h
    exact am_zret d_X9_readOne_92 rfl hF hB
  · refine am_if_ne_t (t := 93) d_X9_readOne_88 (by decide) hc hF ?_
    refine am_seg s_Ta_readOne_8 (y := (98, [(3, .int x5.1), (0, .ref 113), (1, .int a1), (2, .int a2)], [.int (x6.2.1 113 9), .ref 113], am_D x6.2)) hF t_s_Ta_readOne_8 rfl rfl ?_
    refine am_ite h (fun hc h => ?_) (fun hc h => ?_)
    · refine am_if_eq_t (t := 142) d_X9_readOne_98 (by decide) hc hF ?_
      refine am_seg s_Ta_readOne_9 (y := (143, [(3, .int x5.1), (0, .ref 113), (1, .int a1), (2, .int a2)], [.int (nI 0), .ref 113], am_D x6.2)) hF t_s_Ta_readOne_9 rfl rfl ?_
      refine am_putZ (ci := 9) (b := 9) d_X9_readOne_143 (Nat.le_of_ble_eq_true rfl) (Nat.le_of_ble_eq_true rfl) rfl rfl (Nat.le_of_ble_eq_true rfl) am_fl120 rfl rfl (by decide) hF ?_
      refine am_seg s_Ta_readOne_10 (y := (147, [(3, .int x5.1), (0, .ref 113), (1, .int a1), (2, .int a2)], [.ref 113], am_D (am_si x6.2 113 9 (nI 0)))) hF t_s_Ta_readOne_10 rfl rfl ?_
      refine am_bd h (fun x7 hx h => ?_)
      refine am_callV (As := []) (r := none) (st := []) (σ' := am_D x7) (ci := 9) hF hR d_X9_readOne_147 (c_Ta_step (τ' := x7) hx) (Nat.le_refl _) (Nat.le_refl _) wl_Ta_44 wi_yX9_step we_yX9_step wn_ShareHouse_Tape wc_yX9_step (Nat.le_of_ble_eq_true rfl) (Nat.le_of_ble_eq_true rfl) rfl rfl wy_yX9_step rfl ⟨by decide, by decide⟩ (Nat.le_of_ble_eq_true rfl) ?_
      refine am_seg s_Ta_readOne_11 (y := (151, [(3, .int x5.1), (0, .ref 113), (1, .int a1), (2, .int a2)], [.int (nI 1)], am_D x7)) hF t_s_Ta_readOne_11 rfl rfl ?_
      obtain ⟨rfl, rfl⟩ := am_pair h
      exact am_zret d_X9_readOne_151 rfl hF hB
    · refine am_if_eq_f (t := 142) d_X9_readOne_98 (by decide) hc hF ?_
      refine am_seg s_Ta_readOne_12 (y := (102, [(3, .int x5.1), (0, .ref 113), (1, .int a1), (2, .int a2)], [.int a2, .ref 113], am_D x6.2)) hF t_s_Ta_readOne_12 rfl rfl ?_
      refine am_ite h (fun hc h => ?_) (fun hc h => ?_)
      · refine am_if_eq_t (t := 121) d_X9_readOne_102 (by decide) hc hF ?_
        refine am_seg s_Ta_readOne_13 (y := (126, [(3, .int x5.1), (0, .ref 113), (1, .int a1), (2, .int a2)], [.int x5.1, .int (x6.2.1 113 7), .ref 113], am_D x6.2)) hF t_s_Ta_readOne_13 rfl rfl ?_
        refine am_ite h (fun hc h => ?_) (fun hc h => ?_)
        · refine am_icmp_ge_t (t := 133) d_X9_readOne_126 (by decide) hc hF ?_
          refine am_seg s_Ta_readOne_14 (y := (134, [(3, .int x5.1), (0, .ref 113), (1, .int a1), (2, .int a2)], [.int (nI 0), .ref 113], am_D x6.2)) hF t_s_Ta_readOne_14 rfl rfl ?_
          refine am_pick [1, 2] rfl ?_
          exact ok_Ta_readOne_134 hF hR hB h
        · refine am_icmp_ge_f (t := 133) d_X9_readOne_126 (by decide) hc hF ?_
          refine am_seg s_Ta_readOne_22 (y := (134, [(3, .int x5.1), (0, .ref 113), (1, .int a1), (2, .int a2)], [.int (nI 1), .ref 113], am_D x6.2)) hF t_s_Ta_readOne_22 rfl rfl ?_
          refine am_pick [1, 2] rfl ?_
          exact ok_Ta_readOne_134 hF hR hB h
      · refine am_if_eq_f (t := 121) d_X9_readOne_102 (by decide) hc hF ?_
        refine am_seg s_Ta_readOne_23 (y := (110, [(3, .int x5.1), (0, .ref 113), (1, .int a1), (2, .int a2)], [.int x5.1, .int (x6.2.1 113 7), .ref 113], am_D x6.2)) hF t_s_Ta_readOne_23 rfl rfl ?_
        refine am_ite h (fun hc h => ?_) (fun hc h => ?_)
        · refine am_icmp_le_t (t := 117) d_X9_readOne_110 (by decide) hc hF ?_
          refine am_seg s_Ta_readOne_24 (y := (134, [(3, .int x5.1), (0, .ref 113), (1, .int a1), (2, .int a2)], [.int (nI 0), .ref 113], am_D x6.2)) hF t_s_Ta_readOne_24 rfl rfl ?_
          refine am_pick [1, 2] rfl ?_
          exact ok_Ta_readOne_134 hF hR hB h
        · refine am_icmp_le_f (t := 117) d_X9_readOne_110 (by decide) hc hF ?_
          refine am_seg s_Ta_readOne_25 (y := (134, [(3, .int x5.1), (0, .ref 113), (1, .int a1), (2, .int a2)], [.int (nI 1), .ref 113], am_D x6.2)) hF t_s_Ta_readOne_25 rfl rfl ?_
          refine am_pick [1, 2] rfl ?_
          exact ok_Ta_readOne_134 hF hR hB h
def Ta_readOne_14 (τ : am_T) (s0 : Int32) : Option (Int32 × am_T) :=
  (Ta_take τ 1016).bind (fun x2 =>
  if x2.1 = 0 then
  ((Ta_isAtHand x2.2 1017).bind (fun x3 =>
  if x3.1 = 0 then
  ((Ta_isAtHand x3.2 1018).bind (fun x10 =>
  if x10.1 = 0 then
  (some ((nI 0), x10.2))
else
  (Ta_readOne_72 x10.2 s0 x3.1)))
else
  (Ta_readOne_72 x3.2 s0 x3.1)))
else
  (if (x2.2.1 113 9) = 0 then
  (some ((nI 1), (am_si x2.2 113 9 (nI 0))))
else
  (if (x2.2.1 113 8) = s0 then
  (some ((nI 1), (am_si x2.2 113 9 (nI 1))))
else
  (some ((nI 1), (am_si x2.2 113 9 (nI 0)))))))
set_option maxRecDepth 20000 in
theorem ok_Ta_readOne_14 {X : am_X} {v : Int32} {τ' : am_T} (hF : am_F X "ShareHouse$Tape" cX9_readOne 4) (hR : am_R X 6 128) (hB : am_B X (some .boolean) (some (.int v)) (am_D τ')) {τ : am_T} {s0 : Int32} (h : Ta_readOne_14 τ s0 = some (v, τ')) : am_W X 4 (14, [(0, .ref 113)], [.int s0], am_D τ) := by
  unfold Ta_readOne_14 at h
  refine am_seg s_Ta_readOne_2 (y := (18, [(1, .int s0), (0, .ref 113)], [.ref 1016, .ref 113], am_D τ)) hF t_s_Ta_readOne_2 rfl rfl ?_
  refine am_bd h (fun x2 hx h => ?_)
  refine am_callV (As := [.ref 1016]) (r := (some (.int x2.1))) (st := []) (σ' := am_D x2.2) (ci := 9) hF hR d_X9_readOne_18 (c_Ta_take (τ' := x2.2) hx) (Nat.le_refl _) (Nat.le_refl _) wl_Ta_69 wi_yX9_take we_yX9_take wn_ShareHouse_Tape wc_yX9_take (Nat.le_of_ble_eq_true rfl) (Nat.le_of_ble_eq_true rfl) rfl rfl wy_yX9_take rfl ⟨by decide, by decide⟩ (Nat.le_of_ble_eq_true rfl) ?_
  refine am_ite h (fun hc h => ?_) (fun hc h => ?_)
  · refine am_if_eq_t (t := 50) d_X9_readOne_21 (by decide) hc hF ?_
    refine am_seg s_Ta_readOne_3 (y := (53, [(1, .int s0), (0, .ref 113)], [.ref 1017, .ref 113], am_D x2.2)) hF t_s_Ta_readOne_3 rfl rfl ?_
    refine am_bd h (fun x3 hx h => ?_)
    refine am_callV (As := [.ref 1017]) (r := (some (.int x3.1))) (st := []) (σ' := am_D x3.2) (ci := 9) hF hR d_X9_readOne_53 (c_Ta_isAtHand (τ' := x3.2) hx) (Nat.le_refl _) (Nat.le_refl _) wl_Ta_94 wi_yX9_isAtHand we_yX9_isAtHand wn_ShareHouse_Tape wc_yX9_isAtHand (Nat.le_of_ble_eq_true rfl) (Nat.le_of_ble_eq_true rfl) rfl rfl wy_yX9_isAtHand rfl ⟨by decide, by decide⟩ (Nat.le_of_ble_eq_true rfl) ?_
    refine am_seg s_Ta_readOne_4 (y := (58, [(2, .int x3.1), (1, .int s0), (0, .ref 113)], [.int x3.1], am_D x3.2)) hF t_s_Ta_readOne_4 rfl rfl ?_
    refine am_ite h (fun hc h => ?_) (fun hc h => ?_)
    · refine am_if_ne_f (t := 72) d_X9_readOne_58 (by decide) hc hF ?_
      refine am_seg s_Ta_readOne_27 (y := (64, [(2, .int x3.1), (1, .int s0), (0, .ref 113)], [.ref 1018, .ref 113], am_D x3.2)) hF t_s_Ta_readOne_27 rfl rfl ?_
      refine am_bd h (fun x10 hx h => ?_)
      refine am_callV (As := [.ref 1018]) (r := (some (.int x10.1))) (st := []) (σ' := am_D x10.2) (ci := 9) hF hR d_X9_readOne_64 (c_Ta_isAtHand (τ' := x10.2) hx) (Nat.le_refl _) (Nat.le_refl _) wl_Ta_94 wi_yX9_isAtHand we_yX9_isAtHand wn_ShareHouse_Tape wc_yX9_isAtHand (Nat.le_of_ble_eq_true rfl) (Nat.le_of_ble_eq_true rfl) rfl rfl wy_yX9_isAtHand rfl ⟨by decide, by decide⟩ (Nat.le_of_ble_eq_true rfl) ?_
      refine am_ite h (fun hc h => ?_) (fun hc h => ?_)
      · refine am_if_ne_f (t := 72) d_X9_readOne_67 (by decide) hc hF ?_
        refine am_seg s_Ta_readOne_28 (y := (71, [(2, .int x3.1), (1, .int s0), (0, .ref 113)], [.int (nI 0)], am_D x10.2)) hF t_s_Ta_readOne_28 rfl rfl ?_
        obtain ⟨rfl, rfl⟩ := am_pair h
        exact am_zret d_X9_readOne_71 rfl hF hB
      · refine am_if_ne_t (t := 72) d_X9_readOne_67 (by decide) hc hF ?_
        refine am_pick [2, 1, 0] rfl ?_
        exact ok_Ta_readOne_72 hF hR hB h
    · refine am_if_ne_t (t := 72) d_X9_readOne_58 (by decide) hc hF ?_
      refine am_pick [2, 1, 0] rfl ?_
      exact ok_Ta_readOne_72 hF hR hB h
  · refine am_if_eq_f (t := 50) d_X9_readOne_21 (by decide) hc hF ?_
    refine am_seg s_Ta_readOne_29 (y := (29, [(1, .int s0), (0, .ref 113)], [.int (x2.2.1 113 9), .ref 113], am_D x2.2)) hF t_s_Ta_readOne_29 rfl rfl ?_
    refine am_ite h (fun hc h => ?_) (fun hc h => ?_)
    · refine am_if_eq_t (t := 44) d_X9_readOne_29 (by decide) hc hF ?_
      refine am_seg s_Ta_readOne_30 (y := (45, [(1, .int s0), (0, .ref 113)], [.int (nI 0), .ref 113], am_D x2.2)) hF t_s_Ta_readOne_30 rfl rfl ?_
      refine am_putZ (ci := 9) (b := 9) d_X9_readOne_45 (Nat.le_of_ble_eq_true rfl) (Nat.le_of_ble_eq_true rfl) rfl rfl (Nat.le_of_ble_eq_true rfl) am_fl120 rfl rfl (by decide) hF ?_
      refine am_seg s_Ta_readOne_31 (y := (49, [(1, .int s0), (0, .ref 113)], [.int (nI 1)], am_D (am_si x2.2 113 9 (nI 0)))) hF t_s_Ta_readOne_31 rfl rfl ?_
      obtain ⟨rfl, rfl⟩ := am_pair h
      exact am_zret d_X9_readOne_49 rfl hF hB
    · refine am_if_eq_f (t := 44) d_X9_readOne_29 (by decide) hc hF ?_
      refine am_seg s_Ta_readOne_32 (y := (37, [(1, .int s0), (0, .ref 113)], [.int s0, .int (x2.2.1 113 8), .ref 113], am_D x2.2)) hF t_s_Ta_readOne_32 rfl rfl ?_
      refine am_ite h (fun hc h => ?_) (fun hc h => ?_)
      · refine am_icmp_ne_f (t := 44) d_X9_readOne_37 (by decide) hc hF ?_
        refine am_seg s_Ta_readOne_35 (y := (45, [(1, .int s0), (0, .ref 113)], [.int (nI 1), .ref 113], am_D x2.2)) hF t_s_Ta_readOne_35 rfl rfl ?_
        refine am_putZ (ci := 9) (b := 9) d_X9_readOne_45 (Nat.le_of_ble_eq_true rfl) (Nat.le_of_ble_eq_true rfl) rfl rfl (Nat.le_of_ble_eq_true rfl) am_fl120 rfl rfl (by decide) hF ?_
        refine am_seg s_Ta_readOne_36 (y := (49, [(1, .int s0), (0, .ref 113)], [.int (nI 1)], am_D (am_si x2.2 113 9 (nI 1)))) hF t_s_Ta_readOne_36 rfl rfl ?_
        obtain ⟨rfl, rfl⟩ := am_pair h
        exact am_zret d_X9_readOne_49 rfl hF hB
      · refine am_icmp_ne_t (t := 44) d_X9_readOne_37 (by decide) hc hF ?_
        refine am_seg s_Ta_readOne_33 (y := (45, [(1, .int s0), (0, .ref 113)], [.int (nI 0), .ref 113], am_D x2.2)) hF t_s_Ta_readOne_33 rfl rfl ?_
        refine am_putZ (ci := 9) (b := 9) d_X9_readOne_45 (Nat.le_of_ble_eq_true rfl) (Nat.le_of_ble_eq_true rfl) rfl rfl (Nat.le_of_ble_eq_true rfl) am_fl120 rfl rfl (by decide) hF ?_
        refine am_seg s_Ta_readOne_34 (y := (49, [(1, .int s0), (0, .ref 113)], [.int (nI 1)], am_D (am_si x2.2 113 9 (nI 0)))) hF t_s_Ta_readOne_34 rfl rfl ?_
        obtain ⟨rfl, rfl⟩ := am_pair h
        exact am_zret d_X9_readOne_49 rfl hF hB
def Ta_readOne (τ : am_T) : Option (Int32 × am_T) :=
  (Ta_take τ 1015).bind (fun x1 =>
  if x1.1 = 0 then
  (Ta_readOne_14 x1.2 (nI 1))
else
  (Ta_readOne_14 x1.2 (nI 0)))
set_option maxRecDepth 20000 in
theorem ok_Ta_readOne {X : am_X} {v : Int32} {τ τ' : am_T} (hF : am_F X "ShareHouse$Tape" cX9_readOne 4) (hR : am_R X 6 128) (hB : am_B X (some .boolean) (some (.int v)) (am_D τ')) (h : Ta_readOne τ = some (v, τ')) : am_W X 4 (0, [(0, .ref 113)], [], am_D τ) := by
  unfold Ta_readOne at h
  refine am_seg s_Ta_readOne_0 (y := (3, [(0, .ref 113)], [.ref 1015, .ref 113], am_D τ)) hF t_s_Ta_readOne_0 rfl rfl ?_
  refine am_bd h (fun x1 hx h => ?_)
  refine am_callV (As := [.ref 1015]) (r := (some (.int x1.1))) (st := []) (σ' := am_D x1.2) (ci := 9) hF hR d_X9_readOne_3 (c_Ta_take (τ' := x1.2) hx) (Nat.le_refl _) (Nat.le_refl _) wl_Ta_69 wi_yX9_take we_yX9_take wn_ShareHouse_Tape wc_yX9_take (Nat.le_of_ble_eq_true rfl) (Nat.le_of_ble_eq_true rfl) rfl rfl wy_yX9_take rfl ⟨by decide, by decide⟩ (Nat.le_of_ble_eq_true rfl) ?_
  refine am_ite h (fun hc h => ?_) (fun hc h => ?_)
  · refine am_if_ne_f (t := 13) d_X9_readOne_6 (by decide) hc hF ?_
    refine am_seg s_Ta_readOne_37 (y := (14, [(0, .ref 113)], [.int (nI 1)], am_D x1.2)) hF t_s_Ta_readOne_37 rfl rfl ?_
    exact ok_Ta_readOne_14 hF hR hB h
  · refine am_if_ne_t (t := 13) d_X9_readOne_6 (by decide) hc hF ?_
    refine am_seg s_Ta_readOne_1 (y := (14, [(0, .ref 113)], [.int (nI 0)], am_D x1.2)) hF t_s_Ta_readOne_1 rfl rfl ?_
    exact ok_Ta_readOne_14 hF hR hB h
theorem c_Ta_readOne {v : Int32} {τ τ' : am_T} (h : Ta_readOne τ = some (v, τ')) : am_C yX9_readOne cX9_readOne 4 (some .boolean) 6 128 [.ref 113] (am_D τ) (some (.int v)) (am_D τ') :=
  am_enter (by decide +kernel) (Nat.le_of_ble_eq_true rfl) ⟨Nat.le_refl _, Nat.le_refl _⟩ (fun X hF hR hB => ok_Ta_readOne hF hR hB h)
def s_Ta_readCondition_0 : List am_Q := [(0, .iconst 1, 0, 0, 0, .int (nI 1)), (1, .istore_n 1, 0, 0, 0, .null)]
theorem t_s_Ta_readCondition_0 : s_Ta_readCondition_0.all (am_ok 9 cX9_readCondition) = true := by decide +kernel
def s_Ta_readCondition_1 : List am_Q := [(2, .iload_n 1, 0, 0, 0, .null), (3, .sipush 200, 0, 0, 0, .int (nI 200))]
theorem t_s_Ta_readCondition_1 : s_Ta_readCondition_1.all (am_ok 9 cX9_readCondition) = true := by decide +kernel
theorem d_X9_readCondition_6 : decode cX9_readCondition 6 = .ok (.if_icmp .gt 39, 3) := by decide +kernel
def s_Ta_readCondition_2 : List am_Q := [(45, .iconst 1, 0, 0, 0, .int (nI 1))]
theorem t_s_Ta_readCondition_2 : s_Ta_readCondition_2.all (am_ok 9 cX9_readCondition) = true := by decide +kernel
theorem d_X9_readCondition_46 : decode cX9_readCondition 46 = .ok (.ireturn, 1) := by decide +kernel
def s_Ta_readCondition_3 : List am_Q := [(9, .aload_n 0, 0, 0, 0, .null)]
theorem t_s_Ta_readCondition_3 : s_Ta_readCondition_3.all (am_ok 9 cX9_readCondition) = true := by decide +kernel
theorem d_X9_readCondition_10 : decode cX9_readCondition 10 = .ok (.invokevirtual 132, 3) := by decide +kernel
theorem d_X9_readCondition_13 : decode cX9_readCondition 13 = .ok (.ifCond .ne 5, 3) := by decide +kernel
def s_Ta_readCondition_4 : List am_Q := [(18, .aload_n 0, 0, 0, 0, .null), (19, .getfield 21, 9, 3, 113, .null), (22, .iconst 4, 0, 0, 0, .int (nI 4)), (23, .iload_n 1, 0, 0, 0, .null)]
theorem t_s_Ta_readCondition_4 : s_Ta_readCondition_4.all (am_ok 9 cX9_readCondition) = true := by decide +kernel
theorem d_X9_readCondition_24 : decode cX9_readCondition 24 = .ok (.invokevirtual 57, 3) := by decide +kernel
def s_Ta_readCondition_5 : List am_Q := [(27, .aload_n 0, 0, 0, 0, .null), (28, .ldc 90, 7, 0, 0, .ref 1007)]
theorem t_s_Ta_readCondition_5 : s_Ta_readCondition_5.all (am_ok 9 cX9_readCondition) = true := by decide +kernel
theorem d_X9_readCondition_30 : decode cX9_readCondition 30 = .ok (.invokevirtual 69, 3) := by decide +kernel
theorem d_X9_readCondition_33 : decode cX9_readCondition 33 = .ok (.ifCond .ne 6, 3) := by decide +kernel
def s_Ta_readCondition_6 : List am_Q := [(39, .iinc 1 1, 0, 0, 0, .int (nI 1)), (42, .goto (-40), 2, 0, 0, .null)]
theorem t_s_Ta_readCondition_6 : s_Ta_readCondition_6.all (am_ok 9 cX9_readCondition) = true := by decide +kernel
def s_Ta_readCondition_7 : List am_Q := [(36, .goto 9, 45, 0, 0, .null), (45, .iconst 1, 0, 0, 0, .int (nI 1))]
theorem t_s_Ta_readCondition_7 : s_Ta_readCondition_7.all (am_ok 9 cX9_readCondition) = true := by decide +kernel
def s_Ta_readCondition_8 : List am_Q := [(16, .iconst 0, 0, 0, 0, .int (nI 0))]
theorem t_s_Ta_readCondition_8 : s_Ta_readCondition_8.all (am_ok 9 cX9_readCondition) = true := by decide +kernel
theorem d_X9_readCondition_17 : decode cX9_readCondition 17 = .ok (.ireturn, 1) := by decide +kernel
def Ta_readCondition_2 : Nat → am_T → Int32 → Option (Int32 × am_T)
  | 0, _, _ => none
  | n + 1, τ, a1 =>
    if (nI 200) < a1 then
  (some ((nI 1), τ))
else
  ((Ta_readOne τ).bind (fun x1 =>
  if x1.1 = 0 then
  (some ((nI 0), x1.2))
else
  ((Le_put x1.2 116 (nI 4) a1).bind (fun x2 =>
  (Ta_take x2 1007).bind (fun x3 =>
  if x3.1 = 0 then
  (some ((nI 1), x3.2))
else
  ((Ta_readCondition_2 n) x3.2 (a1 + (nI 1))))))))
set_option maxRecDepth 20000 in
theorem ok_Ta_readCondition_2 {X : am_X} {v : Int32} {τ' : am_T} (hF : am_F X "ShareHouse$Tape" cX9_readCondition 2) (hR : am_R X 7 151) (hB : am_B X (some .boolean) (some (.int v)) (am_D τ')) : ∀ (n : Nat) (τ : am_T) (a1 : Int32), Ta_readCondition_2 n τ a1 = some (v, τ') → am_W X 2 (2, [(0, .ref 113), (1, .int a1)], [], am_D τ) := by
  intro n
  induction n with
  | zero => intro τ a1 h; unfold Ta_readCondition_2 at h; cases h
  | succ n ih =>
    intro τ a1 h
    unfold Ta_readCondition_2 at h
    refine am_seg s_Ta_readCondition_1 (y := (6, [(0, .ref 113), (1, .int a1)], [.int (nI 200), .int a1], am_D τ)) hF t_s_Ta_readCondition_1 rfl rfl ?_
    refine am_ite h (fun hc h => ?_) (fun hc h => ?_)
    · refine am_icmp_gt_t (t := 45) d_X9_readCondition_6 (by decide) hc hF ?_
      refine am_seg s_Ta_readCondition_2 (y := (46, [(0, .ref 113), (1, .int a1)], [.int (nI 1)], am_D τ)) hF t_s_Ta_readCondition_2 rfl rfl ?_
      obtain ⟨rfl, rfl⟩ := am_pair h
      exact am_zret d_X9_readCondition_46 rfl hF hB
    · refine am_icmp_gt_f (t := 45) d_X9_readCondition_6 (by decide) hc hF ?_
      refine am_seg s_Ta_readCondition_3 (y := (10, [(0, .ref 113), (1, .int a1)], [.ref 113], am_D τ)) hF t_s_Ta_readCondition_3 rfl rfl ?_
      refine am_bd h (fun x1 hx h => ?_)
      refine am_callV (As := []) (r := (some (.int x1.1))) (st := []) (σ' := am_D x1.2) (ci := 9) hF hR d_X9_readCondition_10 (c_Ta_readOne (τ' := x1.2) hx) (Nat.le_refl _) (Nat.le_refl _) wl_Ta_132 wi_yX9_readOne we_yX9_readOne wn_ShareHouse_Tape wc_yX9_readOne (Nat.le_of_ble_eq_true rfl) (Nat.le_of_ble_eq_true rfl) rfl rfl wy_yX9_readOne rfl ⟨by decide, by decide⟩ (Nat.le_of_ble_eq_true rfl) ?_
      refine am_ite h (fun hc h => ?_) (fun hc h => ?_)
      · refine am_if_ne_f (t := 18) d_X9_readCondition_13 (by decide) hc hF ?_
        refine am_seg s_Ta_readCondition_8 (y := (17, [(0, .ref 113), (1, .int a1)], [.int (nI 0)], am_D x1.2)) hF t_s_Ta_readCondition_8 rfl rfl ?_
        obtain ⟨rfl, rfl⟩ := am_pair h
        exact am_zret d_X9_readCondition_17 rfl hF hB
      · refine am_if_ne_t (t := 18) d_X9_readCondition_13 (by decide) hc hF ?_
        refine am_seg s_Ta_readCondition_4 (y := (24, [(0, .ref 113), (1, .int a1)], [.int a1, .int (nI 4), .ref 116], am_D x1.2)) hF t_s_Ta_readCondition_4 rfl rfl ?_
        refine am_bd h (fun x2 hx h => ?_)
        refine am_callV (As := [.int (nI 4), .int a1]) (r := none) (st := []) (σ' := am_D x2) (ci := 4) hF hR d_X9_readCondition_24 (c_Le_put (τ' := x2) hx) (Nat.le_refl _) (Nat.le_refl _) wl_Ta_57 wi_yX4_put we_yX4_put wn_ShareHouse_Lease wc_yX4_put (Nat.le_of_ble_eq_true rfl) (Nat.le_of_ble_eq_true rfl) rfl rfl wy_yX4_put rfl ⟨by decide, by decide⟩ (Nat.le_of_ble_eq_true rfl) ?_
        refine am_seg s_Ta_readCondition_5 (y := (30, [(0, .ref 113), (1, .int a1)], [.ref 1007, .ref 113], am_D x2)) hF t_s_Ta_readCondition_5 rfl rfl ?_
        refine am_bd h (fun x3 hx h => ?_)
        refine am_callV (As := [.ref 1007]) (r := (some (.int x3.1))) (st := []) (σ' := am_D x3.2) (ci := 9) hF hR d_X9_readCondition_30 (c_Ta_take (τ' := x3.2) hx) (Nat.le_refl _) (Nat.le_refl _) wl_Ta_69 wi_yX9_take we_yX9_take wn_ShareHouse_Tape wc_yX9_take (Nat.le_of_ble_eq_true rfl) (Nat.le_of_ble_eq_true rfl) rfl rfl wy_yX9_take rfl ⟨by decide, by decide⟩ (Nat.le_of_ble_eq_true rfl) ?_
        refine am_ite h (fun hc h => ?_) (fun hc h => ?_)
        · refine am_if_ne_f (t := 39) d_X9_readCondition_33 (by decide) hc hF ?_
          refine am_seg s_Ta_readCondition_7 (y := (46, [(0, .ref 113), (1, .int a1)], [.int (nI 1)], am_D x3.2)) hF t_s_Ta_readCondition_7 rfl rfl ?_
          obtain ⟨rfl, rfl⟩ := am_pair h
          exact am_zret d_X9_readCondition_46 rfl hF hB
        · refine am_if_ne_t (t := 39) d_X9_readCondition_33 (by decide) hc hF ?_
          refine am_seg s_Ta_readCondition_6 (y := (2, [(1, .int (a1 + (nI 1))), (0, .ref 113)], [], am_D x3.2)) hF t_s_Ta_readCondition_6 rfl rfl ?_
          refine am_pick [1, 0] rfl ?_
          exact ih _ _ h
def Ta_readCondition (τ : am_T) : Option (Int32 × am_T) :=
  Ta_readCondition_2 5000 τ (nI 1)
set_option maxRecDepth 20000 in
theorem ok_Ta_readCondition {X : am_X} {v : Int32} {τ τ' : am_T} (hF : am_F X "ShareHouse$Tape" cX9_readCondition 2) (hR : am_R X 7 151) (hB : am_B X (some .boolean) (some (.int v)) (am_D τ')) (h : Ta_readCondition τ = some (v, τ')) : am_W X 2 (0, [(0, .ref 113)], [], am_D τ) := by
  unfold Ta_readCondition at h
  refine am_seg s_Ta_readCondition_0 (y := (2, [(1, .int (nI 1)), (0, .ref 113)], [], am_D τ)) hF t_s_Ta_readCondition_0 rfl rfl ?_
  refine am_pick [1, 0] rfl ?_
  exact ok_Ta_readCondition_2 hF hR hB _ _ _ h
theorem c_Ta_readCondition {v : Int32} {τ τ' : am_T} (h : Ta_readCondition τ = some (v, τ')) : am_C yX9_readCondition cX9_readCondition 2 (some .boolean) 7 151 [.ref 113] (am_D τ) (some (.int v)) (am_D τ') :=
  am_enter (by decide +kernel) (Nat.le_of_ble_eq_true rfl) ⟨Nat.le_refl _, Nat.le_refl _⟩ (fun X hF hR hB => ok_Ta_readCondition hF hR hB h)
def s_Ta_readClause_0 : List am_Q := [(0, .aload_n 0, 0, 0, 0, .null), (1, .getfield 21, 9, 3, 113, .null), (4, .iconst 4, 0, 0, 0, .int (nI 4)), (5, .iconst 0, 0, 0, 0, .int (nI 0))]
theorem t_s_Ta_readClause_0 : s_Ta_readClause_0.all (am_ok 9 cX9_readClause) = true := by decide +kernel
theorem d_X9_readClause_6 : decode cX9_readClause 6 = .ok (.invokevirtual 57, 3) := by decide +kernel
def s_Ta_readClause_1 : List am_Q := [(9, .aload_n 0, 0, 0, 0, .null), (10, .iconst 1, 0, 0, 0, .int (nI 1))]
theorem t_s_Ta_readClause_1 : s_Ta_readClause_1.all (am_ok 9 cX9_readClause) = true := by decide +kernel
theorem d_X9_readClause_11 : decode cX9_readClause 11 = .ok (.putfield 61, 3) := by decide +kernel
def s_Ta_readClause_2 : List am_Q := [(14, .aload_n 0, 0, 0, 0, .null)]
theorem t_s_Ta_readClause_2 : s_Ta_readClause_2.all (am_ok 9 cX9_readClause) = true := by decide +kernel
theorem d_X9_readClause_15 : decode cX9_readClause 15 = .ok (.invokevirtual 64, 3) := by decide +kernel
theorem d_X9_readClause_18 : decode cX9_readClause 18 = .ok (.ifCond .eq 46, 3) := by decide +kernel
def s_Ta_readClause_3 : List am_Q := [(64, .iconst 0, 0, 0, 0, .int (nI 0))]
theorem t_s_Ta_readClause_3 : s_Ta_readClause_3.all (am_ok 9 cX9_readClause) = true := by decide +kernel
def s_Ta_readClause_4 : List am_Q := [(65, .istore_n 1, 0, 0, 0, .null), (66, .aload_n 0, 0, 0, 0, .null), (67, .getfield 21, 9, 3, 113, .null), (70, .iconst 5, 0, 0, 0, .int (nI 5)), (71, .aload_n 0, 0, 0, 0, .null), (72, .getfield 61, 9, 9, 120, .null)]
theorem t_s_Ta_readClause_4 : s_Ta_readClause_4.all (am_ok 9 cX9_readClause) = true := by decide +kernel
theorem d_X9_readClause_75 : decode cX9_readClause 75 = .ok (.ifCond .eq 7, 3) := by decide +kernel
def s_Ta_readClause_5 : List am_Q := [(82, .iconst 0, 0, 0, 0, .int (nI 0))]
theorem t_s_Ta_readClause_5 : s_Ta_readClause_5.all (am_ok 9 cX9_readClause) = true := by decide +kernel
theorem d_X9_readClause_83 : decode cX9_readClause 83 = .ok (.invokevirtual 57, 3) := by decide +kernel
def s_Ta_readClause_6 : List am_Q := [(86, .iload_n 1, 0, 0, 0, .null)]
theorem t_s_Ta_readClause_6 : s_Ta_readClause_6.all (am_ok 9 cX9_readClause) = true := by decide +kernel
theorem d_X9_readClause_87 : decode cX9_readClause 87 = .ok (.ireturn, 1) := by decide +kernel
def s_Ta_readClause_7 : List am_Q := [(78, .iconst 1, 0, 0, 0, .int (nI 1)), (79, .goto 4, 83, 0, 0, .null)]
theorem t_s_Ta_readClause_7 : s_Ta_readClause_7.all (am_ok 9 cX9_readClause) = true := by decide +kernel
def s_Ta_readClause_8 : List am_Q := [(86, .iload_n 1, 0, 0, 0, .null)]
theorem t_s_Ta_readClause_8 : s_Ta_readClause_8.all (am_ok 9 cX9_readClause) = true := by decide +kernel
def s_Ta_readClause_9 : List am_Q := [(21, .aload_n 0, 0, 0, 0, .null), (22, .ldc 67, 8, 0, 0, .ref 1008)]
theorem t_s_Ta_readClause_9 : s_Ta_readClause_9.all (am_ok 9 cX9_readClause) = true := by decide +kernel
theorem d_X9_readClause_24 : decode cX9_readClause 24 = .ok (.invokevirtual 69, 3) := by decide +kernel
theorem d_X9_readClause_27 : decode cX9_readClause 27 = .ok (.ifCond .eq 37, 3) := by decide +kernel
def s_Ta_readClause_10 : List am_Q := [(64, .iconst 0, 0, 0, 0, .int (nI 0))]
theorem t_s_Ta_readClause_10 : s_Ta_readClause_10.all (am_ok 9 cX9_readClause) = true := by decide +kernel
def s_Ta_readClause_11 : List am_Q := [(30, .aload_n 0, 0, 0, 0, .null)]
theorem t_s_Ta_readClause_11 : s_Ta_readClause_11.all (am_ok 9 cX9_readClause) = true := by decide +kernel
theorem d_X9_readClause_31 : decode cX9_readClause 31 = .ok (.invokevirtual 73, 3) := by decide +kernel
theorem d_X9_readClause_34 : decode cX9_readClause 34 = .ok (.ifCond .eq 30, 3) := by decide +kernel
def s_Ta_readClause_12 : List am_Q := [(64, .iconst 0, 0, 0, 0, .int (nI 0))]
theorem t_s_Ta_readClause_12 : s_Ta_readClause_12.all (am_ok 9 cX9_readClause) = true := by decide +kernel
def s_Ta_readClause_13 : List am_Q := [(37, .aload_n 0, 0, 0, 0, .null), (38, .ldc 76, 14, 0, 0, .ref 1014)]
theorem t_s_Ta_readClause_13 : s_Ta_readClause_13.all (am_ok 9 cX9_readClause) = true := by decide +kernel
theorem d_X9_readClause_40 : decode cX9_readClause 40 = .ok (.invokevirtual 69, 3) := by decide +kernel
theorem d_X9_readClause_43 : decode cX9_readClause 43 = .ok (.ifCond .eq 10, 3) := by decide +kernel
def s_Ta_readClause_14 : List am_Q := [(53, .aload_n 0, 0, 0, 0, .null)]
theorem t_s_Ta_readClause_14 : s_Ta_readClause_14.all (am_ok 9 cX9_readClause) = true := by decide +kernel
theorem d_X9_readClause_54 : decode cX9_readClause 54 = .ok (.invokevirtual 81, 3) := by decide +kernel
theorem d_X9_readClause_57 : decode cX9_readClause 57 = .ok (.ifCond .eq 7, 3) := by decide +kernel
def s_Ta_readClause_15 : List am_Q := [(64, .iconst 0, 0, 0, 0, .int (nI 0))]
theorem t_s_Ta_readClause_15 : s_Ta_readClause_15.all (am_ok 9 cX9_readClause) = true := by decide +kernel
def s_Ta_readClause_16 : List am_Q := [(60, .iconst 1, 0, 0, 0, .int (nI 1)), (61, .goto 4, 65, 0, 0, .null)]
theorem t_s_Ta_readClause_16 : s_Ta_readClause_16.all (am_ok 9 cX9_readClause) = true := by decide +kernel
def s_Ta_readClause_17 : List am_Q := [(46, .aload_n 0, 0, 0, 0, .null)]
theorem t_s_Ta_readClause_17 : s_Ta_readClause_17.all (am_ok 9 cX9_readClause) = true := by decide +kernel
theorem d_X9_readClause_47 : decode cX9_readClause 47 = .ok (.invokevirtual 78, 3) := by decide +kernel
theorem d_X9_readClause_50 : decode cX9_readClause 50 = .ok (.ifCond .eq 14, 3) := by decide +kernel
def s_Ta_readClause_18 : List am_Q := [(64, .iconst 0, 0, 0, 0, .int (nI 0))]
theorem t_s_Ta_readClause_18 : s_Ta_readClause_18.all (am_ok 9 cX9_readClause) = true := by decide +kernel
def Ta_readClause_65 (τ : am_T) (s0 : Int32) : Option (Int32 × am_T) :=
  if (τ.1 113 9) = 0 then
  ((Le_put τ 116 (nI 5) (nI 0)).bind (fun x3 =>
  am_g (am_z01 s0) (some (s0, x3))))
else
  ((Le_put τ 116 (nI 5) (nI 1)).bind (fun x4 =>
  am_g (am_z01 s0) (some (s0, x4))))
set_option maxRecDepth 20000 in
theorem ok_Ta_readClause_65 {X : am_X} {v : Int32} {τ' : am_T} (hF : am_F X "ShareHouse$Tape" cX9_readClause 2) (hR : am_R X 8 172) (hB : am_B X (some .boolean) (some (.int v)) (am_D τ')) {τ : am_T} {s0 : Int32} (h : Ta_readClause_65 τ s0 = some (v, τ')) : am_W X 2 (65, [(0, .ref 113)], [.int s0], am_D τ) := by
  unfold Ta_readClause_65 at h
  refine am_seg s_Ta_readClause_4 (y := (75, [(1, .int s0), (0, .ref 113)], [.int (τ.1 113 9), .int (nI 5), .ref 116], am_D τ)) hF t_s_Ta_readClause_4 rfl rfl ?_
  refine am_ite h (fun hc h => ?_) (fun hc h => ?_)
  · refine am_if_eq_t (t := 82) d_X9_readClause_75 (by decide) hc hF ?_
    refine am_seg s_Ta_readClause_5 (y := (83, [(1, .int s0), (0, .ref 113)], [.int (nI 0), .int (nI 5), .ref 116], am_D τ)) hF t_s_Ta_readClause_5 rfl rfl ?_
    refine am_bd h (fun x3 hx h => ?_)
    refine am_callV (As := [.int (nI 5), .int (nI 0)]) (r := none) (st := []) (σ' := am_D x3) (ci := 4) hF hR d_X9_readClause_83 (c_Le_put (τ' := x3) hx) (Nat.le_refl _) (Nat.le_refl _) wl_Ta_57 wi_yX4_put we_yX4_put wn_ShareHouse_Lease wc_yX4_put (Nat.le_of_ble_eq_true rfl) (Nat.le_of_ble_eq_true rfl) rfl rfl wy_yX4_put rfl ⟨by decide, by decide⟩ (Nat.le_of_ble_eq_true rfl) ?_
    refine am_seg s_Ta_readClause_6 (y := (87, [(1, .int s0), (0, .ref 113)], [.int s0], am_D x3)) hF t_s_Ta_readClause_6 rfl rfl ?_
    refine am_gd h (fun hz h => ?_)
    obtain ⟨rfl, rfl⟩ := am_pair h
    exact am_zret d_X9_readClause_87 (am_z01_n hz) hF hB
  · refine am_if_eq_f (t := 82) d_X9_readClause_75 (by decide) hc hF ?_
    refine am_seg s_Ta_readClause_7 (y := (83, [(1, .int s0), (0, .ref 113)], [.int (nI 1), .int (nI 5), .ref 116], am_D τ)) hF t_s_Ta_readClause_7 rfl rfl ?_
    refine am_bd h (fun x4 hx h => ?_)
    refine am_callV (As := [.int (nI 5), .int (nI 1)]) (r := none) (st := []) (σ' := am_D x4) (ci := 4) hF hR d_X9_readClause_83 (c_Le_put (τ' := x4) hx) (Nat.le_refl _) (Nat.le_refl _) wl_Ta_57 wi_yX4_put we_yX4_put wn_ShareHouse_Lease wc_yX4_put (Nat.le_of_ble_eq_true rfl) (Nat.le_of_ble_eq_true rfl) rfl rfl wy_yX4_put rfl ⟨by decide, by decide⟩ (Nat.le_of_ble_eq_true rfl) ?_
    refine am_seg s_Ta_readClause_8 (y := (87, [(1, .int s0), (0, .ref 113)], [.int s0], am_D x4)) hF t_s_Ta_readClause_8 rfl rfl ?_
    refine am_gd h (fun hz h => ?_)
    obtain ⟨rfl, rfl⟩ := am_pair h
    exact am_zret d_X9_readClause_87 (am_z01_n hz) hF hB
def Ta_readClause_53 (τ : am_T) : Option (Int32 × am_T) :=
  (Ta_takeSemicolon τ).bind (fun x8 =>
  if x8.1 = 0 then
  (Ta_readClause_65 x8.2 (nI 0))
else
  (Ta_readClause_65 x8.2 (nI 1)))
set_option maxRecDepth 20000 in
theorem ok_Ta_readClause_53 {X : am_X} {v : Int32} {τ' : am_T} (hF : am_F X "ShareHouse$Tape" cX9_readClause 2) (hR : am_R X 8 172) (hB : am_B X (some .boolean) (some (.int v)) (am_D τ')) {τ : am_T} (h : Ta_readClause_53 τ = some (v, τ')) : am_W X 2 (53, [(0, .ref 113)], [], am_D τ) := by
  unfold Ta_readClause_53 at h
  refine am_seg s_Ta_readClause_14 (y := (54, [(0, .ref 113)], [.ref 113], am_D τ)) hF t_s_Ta_readClause_14 rfl rfl ?_
  refine am_bd h (fun x8 hx h => ?_)
  refine am_callV (As := []) (r := (some (.int x8.1))) (st := []) (σ' := am_D x8.2) (ci := 9) hF hR d_X9_readClause_54 (c_Ta_takeSemicolon (τ' := x8.2) hx) (Nat.le_refl _) (Nat.le_refl _) wl_Ta_81 wi_yX9_takeSemicolon we_yX9_takeSemicolon wn_ShareHouse_Tape wc_yX9_takeSemicolon (Nat.le_of_ble_eq_true rfl) (Nat.le_of_ble_eq_true rfl) rfl rfl wy_yX9_takeSemicolon rfl ⟨by decide, by decide⟩ (Nat.le_of_ble_eq_true rfl) ?_
  refine am_ite h (fun hc h => ?_) (fun hc h => ?_)
  · refine am_if_eq_t (t := 64) d_X9_readClause_57 (by decide) hc hF ?_
    refine am_seg s_Ta_readClause_15 (y := (65, [(0, .ref 113)], [.int (nI 0)], am_D x8.2)) hF t_s_Ta_readClause_15 rfl rfl ?_
    exact ok_Ta_readClause_65 hF hR hB h
  · refine am_if_eq_f (t := 64) d_X9_readClause_57 (by decide) hc hF ?_
    refine am_seg s_Ta_readClause_16 (y := (65, [(0, .ref 113)], [.int (nI 1)], am_D x8.2)) hF t_s_Ta_readClause_16 rfl rfl ?_
    exact ok_Ta_readClause_65 hF hR hB h
def Ta_readClause (τ : am_T) : Option (Int32 × am_T) :=
  (Le_put τ 116 (nI 4) (nI 0)).bind (fun x1 =>
  (Ta_readHeads (am_si x1 113 9 (nI 1))).bind (fun x2 =>
  if x2.1 = 0 then
  (Ta_readClause_65 x2.2 (nI 0))
else
  ((Ta_take x2.2 1008).bind (fun x5 =>
  if x5.1 = 0 then
  (Ta_readClause_65 x5.2 (nI 0))
else
  ((Ta_readShare x5.2).bind (fun x6 =>
  if x6.1 = 0 then
  (Ta_readClause_65 x6.2 (nI 0))
else
  ((Ta_take x6.2 1014).bind (fun x7 =>
  if x7.1 = 0 then
  (Ta_readClause_53 x7.2)
else
  ((Ta_readCondition x7.2).bind (fun x9 =>
  if x9.1 = 0 then
  (Ta_readClause_65 x9.2 (nI 0))
else
  (Ta_readClause_53 x9.2)))))))))))
set_option maxRecDepth 20000 in
theorem ok_Ta_readClause {X : am_X} {v : Int32} {τ τ' : am_T} (hF : am_F X "ShareHouse$Tape" cX9_readClause 2) (hR : am_R X 8 172) (hB : am_B X (some .boolean) (some (.int v)) (am_D τ')) (h : Ta_readClause τ = some (v, τ')) : am_W X 2 (0, [(0, .ref 113)], [], am_D τ) := by
  unfold Ta_readClause at h
  refine am_seg s_Ta_readClause_0 (y := (6, [(0, .ref 113)], [.int (nI 0), .int (nI 4), .ref 116], am_D τ)) hF t_s_Ta_readClause_0 rfl rfl ?_
  refine am_bd h (fun x1 hx h => ?_)
  refine am_callV (As := [.int (nI 4), .int (nI 0)]) (r := none) (st := []) (σ' := am_D x1) (ci := 4) hF hR d_X9_readClause_6 (c_Le_put (τ' := x1) hx) (Nat.le_refl _) (Nat.le_refl _) wl_Ta_57 wi_yX4_put we_yX4_put wn_ShareHouse_Lease wc_yX4_put (Nat.le_of_ble_eq_true rfl) (Nat.le_of_ble_eq_true rfl) rfl rfl wy_yX4_put rfl ⟨by decide, by decide⟩ (Nat.le_of_ble_eq_true rfl) ?_
  refine am_seg s_Ta_readClause_1 (y := (11, [(0, .ref 113)], [.int (nI 1), .ref 113], am_D x1)) hF t_s_Ta_readClause_1 rfl rfl ?_
  refine am_putZ (ci := 9) (b := 9) d_X9_readClause_11 (Nat.le_of_ble_eq_true rfl) (Nat.le_of_ble_eq_true rfl) rfl rfl (Nat.le_of_ble_eq_true rfl) am_fl120 rfl rfl (by decide) hF ?_
  refine am_seg s_Ta_readClause_2 (y := (15, [(0, .ref 113)], [.ref 113], am_D (am_si x1 113 9 (nI 1)))) hF t_s_Ta_readClause_2 rfl rfl ?_
  refine am_bd h (fun x2 hx h => ?_)
  refine am_callV (As := []) (r := (some (.int x2.1))) (st := []) (σ' := am_D x2.2) (ci := 9) hF hR d_X9_readClause_15 (c_Ta_readHeads (τ' := x2.2) hx) (Nat.le_refl _) (Nat.le_refl _) wl_Ta_64 wi_yX9_readHeads we_yX9_readHeads wn_ShareHouse_Tape wc_yX9_readHeads (Nat.le_of_ble_eq_true rfl) (Nat.le_of_ble_eq_true rfl) rfl rfl wy_yX9_readHeads rfl ⟨by decide, by decide⟩ (Nat.le_of_ble_eq_true rfl) ?_
  refine am_ite h (fun hc h => ?_) (fun hc h => ?_)
  · refine am_if_eq_t (t := 64) d_X9_readClause_18 (by decide) hc hF ?_
    refine am_seg s_Ta_readClause_3 (y := (65, [(0, .ref 113)], [.int (nI 0)], am_D x2.2)) hF t_s_Ta_readClause_3 rfl rfl ?_
    exact ok_Ta_readClause_65 hF hR hB h
  · refine am_if_eq_f (t := 64) d_X9_readClause_18 (by decide) hc hF ?_
    refine am_seg s_Ta_readClause_9 (y := (24, [(0, .ref 113)], [.ref 1008, .ref 113], am_D x2.2)) hF t_s_Ta_readClause_9 rfl rfl ?_
    refine am_bd h (fun x5 hx h => ?_)
    refine am_callV (As := [.ref 1008]) (r := (some (.int x5.1))) (st := []) (σ' := am_D x5.2) (ci := 9) hF hR d_X9_readClause_24 (c_Ta_take (τ' := x5.2) hx) (Nat.le_refl _) (Nat.le_refl _) wl_Ta_69 wi_yX9_take we_yX9_take wn_ShareHouse_Tape wc_yX9_take (Nat.le_of_ble_eq_true rfl) (Nat.le_of_ble_eq_true rfl) rfl rfl wy_yX9_take rfl ⟨by decide, by decide⟩ (Nat.le_of_ble_eq_true rfl) ?_
    refine am_ite h (fun hc h => ?_) (fun hc h => ?_)
    · refine am_if_eq_t (t := 64) d_X9_readClause_27 (by decide) hc hF ?_
      refine am_seg s_Ta_readClause_10 (y := (65, [(0, .ref 113)], [.int (nI 0)], am_D x5.2)) hF t_s_Ta_readClause_10 rfl rfl ?_
      exact ok_Ta_readClause_65 hF hR hB h
    · refine am_if_eq_f (t := 64) d_X9_readClause_27 (by decide) hc hF ?_
      refine am_seg s_Ta_readClause_11 (y := (31, [(0, .ref 113)], [.ref 113], am_D x5.2)) hF t_s_Ta_readClause_11 rfl rfl ?_
      refine am_bd h (fun x6 hx h => ?_)
      refine am_callV (As := []) (r := (some (.int x6.1))) (st := []) (σ' := am_D x6.2) (ci := 9) hF hR d_X9_readClause_31 (c_Ta_readShare (τ' := x6.2) hx) (Nat.le_refl _) (Nat.le_refl _) wl_Ta_73 wi_yX9_readShare we_yX9_readShare wn_ShareHouse_Tape wc_yX9_readShare (Nat.le_of_ble_eq_true rfl) (Nat.le_of_ble_eq_true rfl) rfl rfl wy_yX9_readShare rfl ⟨by decide, by decide⟩ (Nat.le_of_ble_eq_true rfl) ?_
      refine am_ite h (fun hc h => ?_) (fun hc h => ?_)
      · refine am_if_eq_t (t := 64) d_X9_readClause_34 (by decide) hc hF ?_
        refine am_seg s_Ta_readClause_12 (y := (65, [(0, .ref 113)], [.int (nI 0)], am_D x6.2)) hF t_s_Ta_readClause_12 rfl rfl ?_
        exact ok_Ta_readClause_65 hF hR hB h
      · refine am_if_eq_f (t := 64) d_X9_readClause_34 (by decide) hc hF ?_
        refine am_seg s_Ta_readClause_13 (y := (40, [(0, .ref 113)], [.ref 1014, .ref 113], am_D x6.2)) hF t_s_Ta_readClause_13 rfl rfl ?_
        refine am_bd h (fun x7 hx h => ?_)
        refine am_callV (As := [.ref 1014]) (r := (some (.int x7.1))) (st := []) (σ' := am_D x7.2) (ci := 9) hF hR d_X9_readClause_40 (c_Ta_take (τ' := x7.2) hx) (Nat.le_refl _) (Nat.le_refl _) wl_Ta_69 wi_yX9_take we_yX9_take wn_ShareHouse_Tape wc_yX9_take (Nat.le_of_ble_eq_true rfl) (Nat.le_of_ble_eq_true rfl) rfl rfl wy_yX9_take rfl ⟨by decide, by decide⟩ (Nat.le_of_ble_eq_true rfl) ?_
        refine am_ite h (fun hc h => ?_) (fun hc h => ?_)
        · refine am_if_eq_t (t := 53) d_X9_readClause_43 (by decide) hc hF ?_
          exact ok_Ta_readClause_53 hF hR hB h
        · refine am_if_eq_f (t := 53) d_X9_readClause_43 (by decide) hc hF ?_
          refine am_seg s_Ta_readClause_17 (y := (47, [(0, .ref 113)], [.ref 113], am_D x7.2)) hF t_s_Ta_readClause_17 rfl rfl ?_
          refine am_bd h (fun x9 hx h => ?_)
          refine am_callV (As := []) (r := (some (.int x9.1))) (st := []) (σ' := am_D x9.2) (ci := 9) hF hR d_X9_readClause_47 (c_Ta_readCondition (τ' := x9.2) hx) (Nat.le_refl _) (Nat.le_refl _) wl_Ta_78 wi_yX9_readCondition we_yX9_readCondition wn_ShareHouse_Tape wc_yX9_readCondition (Nat.le_of_ble_eq_true rfl) (Nat.le_of_ble_eq_true rfl) rfl rfl wy_yX9_readCondition rfl ⟨by decide, by decide⟩ (Nat.le_of_ble_eq_true rfl) ?_
          refine am_ite h (fun hc h => ?_) (fun hc h => ?_)
          · refine am_if_eq_t (t := 64) d_X9_readClause_50 (by decide) hc hF ?_
            refine am_seg s_Ta_readClause_18 (y := (65, [(0, .ref 113)], [.int (nI 0)], am_D x9.2)) hF t_s_Ta_readClause_18 rfl rfl ?_
            exact ok_Ta_readClause_65 hF hR hB h
          · refine am_if_eq_f (t := 64) d_X9_readClause_50 (by decide) hc hF ?_
            exact ok_Ta_readClause_53 hF hR hB h
theorem c_Ta_readClause {v : Int32} {τ τ' : am_T} (h : Ta_readClause τ = some (v, τ')) : am_C yX9_readClause cX9_readClause 2 (some .boolean) 8 172 [.ref 113] (am_D τ) (some (.int v)) (am_D τ') :=
  am_enter (by decide +kernel) (Nat.le_of_ble_eq_true rfl) ⟨Nat.le_refl _, Nat.le_refl _⟩ (fun X hF hR hB => ok_Ta_readClause hF hR hB h)
def s_Ta_read_0 : List am_Q := [(0, .aload_n 0, 0, 0, 0, .null), (1, .iload_n 1, 0, 0, 0, .null), (2, .putfield 33, 9, 7, 118, .null), (5, .aload_n 0, 0, 0, 0, .null), (6, .iload_n 2, 0, 0, 0, .null)]
theorem t_s_Ta_read_0 : s_Ta_read_0.all (am_ok 9 cX9_read) = true := by decide +kernel
theorem d_X9_read_7 : decode cX9_read 7 = .ok (.putfield 36, 3) := by decide +kernel
def s_Ta_read_1 : List am_Q := [(10, .aload_n 0, 0, 0, 0, .null), (11, .getfield 21, 9, 3, 113, .null), (14, .iconst 0, 0, 0, 0, .int (nI 0)), (15, .putfield 40, 4, 1, 2, .null), (18, .aload_n 0, 0, 0, 0, .null), (19, .iconst 0, 0, 0, 0, .int (nI 0)), (20, .putfield 41, 9, 5, 116, .null), (23, .aload_n 0, 0, 0, 0, .null)]
theorem t_s_Ta_read_1 : s_Ta_read_1.all (am_ok 9 cX9_read) = true := by decide +kernel
theorem d_X9_read_24 : decode cX9_read 24 = .ok (.invokevirtual 44, 3) := by decide +kernel
def s_Ta_read_2 : List am_Q := [(27, .iconst 0, 0, 0, 0, .int (nI 0)), (28, .istore_n 3, 0, 0, 0, .null)]
theorem t_s_Ta_read_2 : s_Ta_read_2.all (am_ok 9 cX9_read) = true := by decide +kernel
def s_Ta_read_3 : List am_Q := [(29, .iload_n 3, 0, 0, 0, .null), (30, .sipush 200, 0, 0, 0, .int (nI 200))]
theorem t_s_Ta_read_3 : s_Ta_read_3.all (am_ok 9 cX9_read) = true := by decide +kernel
theorem d_X9_read_33 : decode cX9_read 33 = .ok (.if_icmp .ge 53, 3) := by decide +kernel
def s_Ta_read_4 : List am_Q := [(86, .iconst (-1), 0, 0, 0, .int (-1 : Int32))]
theorem t_s_Ta_read_4 : s_Ta_read_4.all (am_ok 9 cX9_read) = true := by decide +kernel
theorem d_X9_read_87 : decode cX9_read 87 = .ok (.ireturn, 1) := by decide +kernel
def s_Ta_read_5 : List am_Q := [(36, .aload_n 0, 0, 0, 0, .null), (37, .getfield 47, 9, 6, 117, .null)]
theorem t_s_Ta_read_5 : s_Ta_read_5.all (am_ok 9 cX9_read) = true := by decide +kernel
theorem d_X9_read_40 : decode cX9_read 40 = .ok (.ifCond .eq 46, 3) := by decide +kernel
def s_Ta_read_6 : List am_Q := [(86, .iconst (-1), 0, 0, 0, .int (-1 : Int32))]
theorem t_s_Ta_read_6 : s_Ta_read_6.all (am_ok 9 cX9_read) = true := by decide +kernel
def s_Ta_read_7 : List am_Q := [(43, .aload_n 0, 0, 0, 0, .null), (44, .getfield 21, 9, 3, 113, .null), (47, .getfield 40, 4, 1, 2, .null), (50, .bipush 12, 0, 0, 0, .int (nI 12))]
theorem t_s_Ta_read_7 : s_Ta_read_7.all (am_ok 9 cX9_read) = true := by decide +kernel
theorem d_X9_read_52 : decode cX9_read 52 = .ok (.if_icmp .ge 10, 3) := by decide +kernel
def s_Ta_read_8 : List am_Q := [(62, .aload_n 0, 0, 0, 0, .null), (63, .getfield 54, 9, 4, 115, .null)]
theorem t_s_Ta_read_8 : s_Ta_read_8.all (am_ok 9 cX9_read) = true := by decide +kernel
theorem d_X9_read_66 : decode cX9_read 66 = .ok (.ireturn, 1) := by decide +kernel
def s_Ta_read_9 : List am_Q := [(55, .aload_n 0, 0, 0, 0, .null)]
theorem t_s_Ta_read_9 : s_Ta_read_9.all (am_ok 9 cX9_read) = true := by decide +kernel
theorem d_X9_read_56 : decode cX9_read 56 = .ok (.invokevirtual 50, 3) := by decide +kernel
theorem d_X9_read_59 : decode cX9_read 59 = .ok (.ifCond .ne 8, 3) := by decide +kernel
def s_Ta_read_10 : List am_Q := [(67, .aload_n 0, 0, 0, 0, .null), (68, .getfield 21, 9, 3, 113, .null), (71, .dup, 0, 0, 0, .null), (72, .getfield 40, 4, 1, 2, .null), (75, .iconst 1, 0, 0, 0, .int (nI 1)), (76, .iadd, 0, 0, 0, .null), (77, .putfield 40, 4, 1, 2, .null), (80, .iinc 3 1, 0, 0, 0, .int (nI 1)), (83, .goto (-54), 29, 0, 0, .null)]
theorem t_s_Ta_read_10 : s_Ta_read_10.all (am_ok 9 cX9_read) = true := by decide +kernel
def s_Ta_read_11 : List am_Q := [(62, .aload_n 0, 0, 0, 0, .null), (63, .getfield 54, 9, 4, 115, .null)]
theorem t_s_Ta_read_11 : s_Ta_read_11.all (am_ok 9 cX9_read) = true := by decide +kernel
def Ta_read_29 : Nat → am_T → Int32 → Option (Int32 × am_T)
  | 0, _, _ => none
  | n + 1, τ, a3 =>
    if (nI 200) ≤ a3 then
  (some ((-1 : Int32), τ))
else
  (if (τ.1 113 6) = 0 then
  (some ((-1 : Int32), τ))
else
  (if (nI 12) ≤ (τ.1 116 1) then
  (some ((τ.1 113 4), τ))
else
  ((Ta_readClause τ).bind (fun x2 =>
  if x2.1 = 0 then
  (some ((x2.2.1 113 4), x2.2))
else
  ((Ta_read_29 n) (am_si x2.2 116 1 ((x2.2.1 116 1) + (nI 1))) (a3 + (nI 1)))))))
set_option maxRecDepth 20000 in
theorem ok_Ta_read_29 {X : am_X} {v : Int32} {τ' : am_T} (hF : am_F X "ShareHouse$Tape" cX9_read 4) (hR : am_R X 9 193) (hB : am_B X (some .int) (some (.int v)) (am_D τ')) : ∀ (n : Nat) (τ : am_T) (a3 : Int32), Ta_read_29 n τ a3 = some (v, τ') → am_W X 4 (29, [(0, .ref 113), (3, .int a3)], [], am_D τ) := by
  intro n
  induction n with
  | zero => intro τ a3 h; unfold Ta_read_29 at h; cases h
  | succ n ih =>
    intro τ a3 h
    unfold Ta_read_29 at h
    refine am_seg s_Ta_read_3 (y := (33, [(0, .ref 113), (3, .int a3)], [.int (nI 200), .int a3], am_D τ)) hF t_s_Ta_read_3 rfl rfl ?_
    refine am_ite h (fun hc h => ?_) (fun hc h => ?_)
    · refine am_icmp_ge_t (t := 86) d_X9_read_33 (by decide) hc hF ?_
      refine am_seg s_Ta_read_4 (y := (87, [(0, .ref 113), (3, .int a3)], [.int (-1 : Int32)], am_D τ)) hF t_s_Ta_read_4 rfl rfl ?_
      obtain ⟨rfl, rfl⟩ := am_pair h
      exact am_iret d_X9_read_87 hF hB
    · refine am_icmp_ge_f (t := 86) d_X9_read_33 (by decide) hc hF ?_
      refine am_seg s_Ta_read_5 (y := (40, [(0, .ref 113), (3, .int a3)], [.int (τ.1 113 6)], am_D τ)) hF t_s_Ta_read_5 rfl rfl ?_
      refine am_ite h (fun hc h => ?_) (fun hc h => ?_)
      · refine am_if_eq_t (t := 86) d_X9_read_40 (by decide) hc hF ?_
        refine am_seg s_Ta_read_6 (y := (87, [(0, .ref 113), (3, .int a3)], [.int (-1 : Int32)], am_D τ)) hF t_s_Ta_read_6 rfl rfl ?_
        obtain ⟨rfl, rfl⟩ := am_pair h
        exact am_iret d_X9_read_87 hF hB
      · refine am_if_eq_f (t := 86) d_X9_read_40 (by decide) hc hF ?_
        refine am_seg s_Ta_read_7 (y := (52, [(0, .ref 113), (3, .int a3)], [.int (nI 12), .int (τ.1 116 1)], am_D τ)) hF t_s_Ta_read_7 rfl rfl ?_
        refine am_ite h (fun hc h => ?_) (fun hc h => ?_)
        · refine am_icmp_ge_t (t := 62) d_X9_read_52 (by decide) hc hF ?_
          refine am_seg s_Ta_read_8 (y := (66, [(0, .ref 113), (3, .int a3)], [.int (τ.1 113 4)], am_D τ)) hF t_s_Ta_read_8 rfl rfl ?_
          obtain ⟨rfl, rfl⟩ := am_pair h
          exact am_iret d_X9_read_66 hF hB
        · refine am_icmp_ge_f (t := 62) d_X9_read_52 (by decide) hc hF ?_
          refine am_seg s_Ta_read_9 (y := (56, [(0, .ref 113), (3, .int a3)], [.ref 113], am_D τ)) hF t_s_Ta_read_9 rfl rfl ?_
          refine am_bd h (fun x2 hx h => ?_)
          refine am_callV (As := []) (r := (some (.int x2.1))) (st := []) (σ' := am_D x2.2) (ci := 9) hF hR d_X9_read_56 (c_Ta_readClause (τ' := x2.2) hx) (Nat.le_refl _) (Nat.le_refl _) wl_Ta_50 wi_yX9_readClause we_yX9_readClause wn_ShareHouse_Tape wc_yX9_readClause (Nat.le_of_ble_eq_true rfl) (Nat.le_of_ble_eq_true rfl) rfl rfl wy_yX9_readClause rfl ⟨by decide, by decide⟩ (Nat.le_of_ble_eq_true rfl) ?_
          refine am_ite h (fun hc h => ?_) (fun hc h => ?_)
          · refine am_if_ne_f (t := 67) d_X9_read_59 (by decide) hc hF ?_
            refine am_seg s_Ta_read_11 (y := (66, [(0, .ref 113), (3, .int a3)], [.int (x2.2.1 113 4)], am_D x2.2)) hF t_s_Ta_read_11 rfl rfl ?_
            obtain ⟨rfl, rfl⟩ := am_pair h
            exact am_iret d_X9_read_66 hF hB
          · refine am_if_ne_t (t := 67) d_X9_read_59 (by decide) hc hF ?_
            refine am_seg s_Ta_read_10 (y := (29, [(3, .int (a3 + (nI 1))), (0, .ref 113)], [], am_D (am_si x2.2 116 1 ((x2.2.1 116 1) + (nI 1))))) hF t_s_Ta_read_10 rfl rfl ?_
            refine am_pick [1, 0] rfl ?_
            exact ih _ _ h
def Ta_read (τ : am_T) (a1 : Int32) (a2 : Int32) : Option (Int32 × am_T) :=
  am_g (am_z01 a2) ((Ta_step (am_si (am_si (am_si (am_si τ 113 7 a1) 113 8 a2) 116 1 (nI 0)) 113 5 (nI 0))).bind (fun x1 =>
  Ta_read_29 5000 x1 (nI 0)))
set_option maxRecDepth 20000 in
theorem ok_Ta_read {X : am_X} {a1 : Int32} {a2 : Int32} {v : Int32} {τ τ' : am_T} (hF : am_F X "ShareHouse$Tape" cX9_read 4) (hR : am_R X 9 193) (hB : am_B X (some .int) (some (.int v)) (am_D τ')) (h : Ta_read τ a1 a2 = some (v, τ')) : am_W X 4 (0, [(0, .ref 113), (1, .int a1), (2, .int a2)], [], am_D τ) := by
  unfold Ta_read at h
  refine am_seg s_Ta_read_0 (y := (7, [(0, .ref 113), (1, .int a1), (2, .int a2)], [.int a2, .ref 113], am_D (am_si τ 113 7 a1))) hF t_s_Ta_read_0 rfl rfl ?_
  refine am_gd h (fun hz h => ?_)
  refine am_putZ (ci := 9) (b := 8) d_X9_read_7 (Nat.le_of_ble_eq_true rfl) (Nat.le_of_ble_eq_true rfl) rfl rfl (Nat.le_of_ble_eq_true rfl) am_fl119 rfl rfl (am_z01_of hz) hF ?_
  refine am_seg s_Ta_read_1 (y := (24, [(0, .ref 113), (1, .int a1), (2, .int a2)], [.ref 113], am_D (am_si (am_si (am_si (am_si τ 113 7 a1) 113 8 a2) 116 1 (nI 0)) 113 5 (nI 0)))) hF t_s_Ta_read_1 rfl rfl ?_
  refine am_bd h (fun x1 hx h => ?_)
  refine am_callV (As := []) (r := none) (st := []) (σ' := am_D x1) (ci := 9) hF hR d_X9_read_24 (c_Ta_step (τ' := x1) hx) (Nat.le_refl _) (Nat.le_refl _) wl_Ta_44 wi_yX9_step we_yX9_step wn_ShareHouse_Tape wc_yX9_step (Nat.le_of_ble_eq_true rfl) (Nat.le_of_ble_eq_true rfl) rfl rfl wy_yX9_step rfl ⟨by decide, by decide⟩ (Nat.le_of_ble_eq_true rfl) ?_
  refine am_seg s_Ta_read_2 (y := (29, [(3, .int (nI 0)), (0, .ref 113), (1, .int a1), (2, .int a2)], [], am_D x1)) hF t_s_Ta_read_2 rfl rfl ?_
  refine am_pick [1, 0] rfl ?_
  exact ok_Ta_read_29 hF hR hB _ _ _ h
theorem c_Ta_read {a1 : Int32} {a2 : Int32} {v : Int32} {τ τ' : am_T} (h : Ta_read τ a1 a2 = some (v, τ')) : am_C yX9_read cX9_read 4 (some .int) 9 193 [.ref 113, .int a1, .int a2] (am_D τ) (some (.int v)) (am_D τ') :=
  am_enter (by decide +kernel) (Nat.le_of_ble_eq_true rfl) ⟨Nat.le_refl _, Nat.le_refl _⟩ (fun X hF hR hB => ok_Ta_read hF hR hB h)
def s_Le_become_0 : List am_Q := [(0, .aload_n 1, 0, 0, 0, .null)]
theorem t_s_Le_become_0 : s_Le_become_0.all (am_ok 4 cX4_become) = true := by decide +kernel
theorem d_X4_become_1 : decode cX4_become 1 = .ok (.getfield 9, 3) := by decide +kernel
def s_Le_become_1 : List am_Q := [(4, .aload_n 0, 0, 0, 0, .null)]
theorem t_s_Le_become_1 : s_Le_become_1.all (am_ok 4 cX4_become) = true := by decide +kernel
theorem d_X4_become_5 : decode cX4_become 5 = .ok (.getfield 9, 3) := by decide +kernel
theorem d_X4_become_8 : decode cX4_become 8 = .ok (.invokestatic 13, 3) := by decide +kernel
def s_Le_become_2 : List am_Q := [(11, .aload_n 0, 0, 0, 0, .null), (12, .aload_n 1, 0, 0, 0, .null)]
theorem t_s_Le_become_2 : s_Le_become_2.all (am_ok 4 cX4_become) = true := by decide +kernel
theorem d_X4_become_13 : decode cX4_become 13 = .ok (.getfield 19, 3) := by decide +kernel
theorem d_X4_become_16 : decode cX4_become 16 = .ok (.putfield 19, 3) := by decide +kernel
theorem d_X4_become_19 : decode cX4_become 19 = .ok (.return_, 1) := by decide +kernel
def Le_become (τ : am_T) (a0 : Nat) (a1 : Nat) : Option (am_T) :=
  am_g (am_isO a1 4) ((am_RF a1 0).bind fun q1 =>
  am_g (am_isO a0 4) ((am_RF a0 0).bind fun q2 =>
  (X_copyI τ q1 q2).bind (fun x3 =>
  am_g (am_isO a1 4) (am_g (am_isO a0 4) (some (am_si x3 a0 1 (x3.1 a1 1)))))))
set_option maxRecDepth 20000 in
theorem ok_Le_become {X : am_X} {a0 : Nat} {a1 : Nat} {τ τ' : am_T} (hF : am_F X "ShareHouse$Lease" cX4_become 2) (hR : am_R X 2 61) (hB : am_B X none none (am_D τ')) (h : Le_become τ a0 a1 = some τ') : am_W X 2 (0, [(0, .ref a0), (1, .ref a1)], [], am_D τ) := by
  unfold Le_become at h
  refine am_seg s_Le_become_0 (y := (1, [(0, .ref a0), (1, .ref a1)], [.ref a1], am_D τ)) hF t_s_Le_become_0 rfl rfl ?_
  refine am_gd h (fun hg h => ?_)
  refine am_bd h (fun q1 hq h => ?_)
  refine am_get (b := 0) (v := .ref q1) d_X4_become_1 (am_isO_of hg).1 (am_isO_of hg).2.1 (am_isO_of hg).2.2 rfl (Nat.le_of_ble_eq_true rfl) am_fl0 (by show (am_RF _ _).map Value.ref = _; rw [hq]; rfl) hF ?_
  refine am_seg s_Le_become_1 (y := (5, [(0, .ref a0), (1, .ref a1)], [.ref a0, .ref q1], am_D τ)) hF t_s_Le_become_1 rfl rfl ?_
  refine am_gd h (fun hg h => ?_)
  refine am_bd h (fun q2 hq h => ?_)
  refine am_get (b := 0) (v := .ref q2) d_X4_become_5 (am_isO_of hg).1 (am_isO_of hg).2.1 (am_isO_of hg).2.2 rfl (Nat.le_of_ble_eq_true rfl) am_fl0 (by show (am_RF _ _).map Value.ref = _; rw [hq]; rfl) hF ?_
  refine am_bd h (fun x3 hx h => ?_)
  refine am_callSN (As := [.ref q1, .ref q2]) (r := none) (st := []) (σ' := am_D x3) (host := "ShareHouse") hF hR d_X4_become_8 (c_X_copyI (τ' := x3) hx) (Nat.le_refl _) (Nat.le_refl _) wk_Le_13 ws_yX11_copy wn_ShareHouse wc_yX11_copy wy_yX11_copy rfl ⟨by decide, by decide⟩ (Nat.le_of_ble_eq_true rfl) ?_
  refine am_seg s_Le_become_2 (y := (13, [(0, .ref a0), (1, .ref a1)], [.ref a1, .ref a0], am_D x3)) hF t_s_Le_become_2 rfl rfl ?_
  refine am_gd h (fun hg h => ?_)
  refine am_get (b := 1) (v := .int (x3.1 a1 1)) d_X4_become_13 (am_isO_of hg).1 (am_isO_of hg).2.1 (am_isO_of hg).2.2 rfl (Nat.le_of_ble_eq_true rfl) am_fl1 rfl hF ?_
  refine am_gd h (fun hg h => ?_)
  refine am_putI (ci := 4) (b := 1) d_X4_become_16 (am_isO_of hg).1 (am_isO_of hg).2.1 (am_isO_of hg).2.2 rfl (Nat.le_of_ble_eq_true rfl) am_fl1 rfl rfl hF ?_
  obtain rfl := am_one h
  exact am_vret d_X4_become_19 hF hB
theorem c_Le_become {a0 : Nat} {a1 : Nat} {τ τ' : am_T} (h : Le_become τ a0 a1 = some τ') : am_C yX4_become cX4_become 2 none 2 61 [.ref a0, .ref a1] (am_D τ) none (am_D τ') :=
  am_enter (by decide +kernel) (Nat.le_of_ble_eq_true rfl) ⟨Nat.le_refl _, Nat.le_refl _⟩ (fun X hF hR hB => ok_Le_become hF hR hB h)
def s_X_readLease_0 : List am_Q := [(0, .aload_n 0, 0, 0, 0, .null), (1, .getfield 10, 11, 0, 145, .null), (4, .getfield 51, 3, 3, 95, .null), (7, .astore_n 2, 0, 0, 0, .null), (8, .aload_n 0, 0, 0, 0, .null), (9, .getfield 22, 11, 3, 148, .null), (12, .aload_n 2, 0, 0, 0, .null), (13, .getfield 79, 2, 0, 6, .null), (16, .iload_n 1, 0, 0, 0, .null)]
theorem t_s_X_readLease_0 : s_X_readLease_0.all (am_ok 11 cX11_readLease) = true := by decide +kernel
theorem d_X11_readLease_17 : decode cX11_readLease 17 = .ok (.iaload, 1) := by decide +kernel
def s_X_readLease_1 : List am_Q := [(18, .aload_n 2, 0, 0, 0, .null), (19, .getfield 83, 2, 2, 11, .null), (22, .iload_n 1, 0, 0, 0, .null)]
theorem t_s_X_readLease_1 : s_X_readLease_1.all (am_ok 11 cX11_readLease) = true := by decide +kernel
theorem d_X11_readLease_23 : decode cX11_readLease 23 = .ok (.baload, 1) := by decide +kernel
theorem d_X11_readLease_24 : decode cX11_readLease 24 = .ok (.invokevirtual 87, 3) := by decide +kernel
def s_X_readLease_2 : List am_Q := [(27, .istore_n 3, 0, 0, 0, .null), (28, .iload_n 3, 0, 0, 0, .null)]
theorem t_s_X_readLease_2 : s_X_readLease_2.all (am_ok 11 cX11_readLease) = true := by decide +kernel
theorem d_X11_readLease_29 : decode cX11_readLease 29 = .ok (.ifCond .lt 8, 3) := by decide +kernel
def s_X_readLease_3 : List am_Q := [(37, .aload_n 2, 0, 0, 0, .null), (38, .getfield 91, 2, 3, 14, .null), (41, .iload_n 1, 0, 0, 0, .null)]
theorem t_s_X_readLease_3 : s_X_readLease_3.all (am_ok 11 cX11_readLease) = true := by decide +kernel
theorem d_X11_readLease_42 : decode cX11_readLease 42 = .ok (.aaload, 1) := by decide +kernel
def s_X_readLease_4 : List am_Q := [(43, .aload_n 0, 0, 0, 0, .null), (44, .getfield 22, 11, 3, 148, .null), (47, .getfield 95, 9, 3, 114, .null)]
theorem t_s_X_readLease_4 : s_X_readLease_4.all (am_ok 11 cX11_readLease) = true := by decide +kernel
theorem d_X11_readLease_50 : decode cX11_readLease 50 = .ok (.invokevirtual 99, 3) := by decide +kernel
def s_X_readLease_5 : List am_Q := [(53, .aload_n 0, 0, 0, 0, .null), (54, .getfield 22, 11, 3, 148, .null), (57, .getfield 95, 9, 3, 114, .null), (60, .getfield 105, 4, 1, 3, .null)]
theorem t_s_X_readLease_5 : s_X_readLease_5.all (am_ok 11 cX11_readLease) = true := by decide +kernel
theorem d_X11_readLease_63 : decode cX11_readLease 63 = .ok (.ireturn, 1) := by decide +kernel
def s_X_readLease_6 : List am_Q := [(32, .bipush (-100), 0, 0, 0, .int (-100 : Int32)), (34, .iload_n 3, 0, 0, 0, .null), (35, .isub, 0, 0, 0, .null)]
theorem t_s_X_readLease_6 : s_X_readLease_6.all (am_ok 11 cX11_readLease) = true := by decide +kernel
theorem d_X11_readLease_36 : decode cX11_readLease 36 = .ok (.ireturn, 1) := by decide +kernel
def X_readLease (τ : am_T) (a1 : Int32) : Option (Int32 × am_T) :=
  am_g (am_in a1 8) (am_g (am_in a1 8) ((Ta_read τ (τ.1 5 (a1.toNatClampNeg)) (τ.1 7 (a1.toNatClampNeg))).bind (fun x1 =>
  if x1.1 < 0 then
  (am_g (am_in a1 8) ((am_RF 8 (a1.toNatClampNeg)).bind (fun q2 =>
  am_g (am_isO q2 4) ((Le_become x1.2 q2 116).bind (fun x3 =>
  some ((x3.1 116 1), x3))))))
else
  (some (((-100 : Int32) - x1.1), x1.2)))))
set_option maxRecDepth 20000 in
theorem ok_X_readLease {X : am_X} {a1 : Int32} {v : Int32} {τ τ' : am_T} (hF : am_F X "ShareHouse" cX11_readLease 4) (hR : am_R X 10 216) (hB : am_B X (some .int) (some (.int v)) (am_D τ')) (h : X_readLease τ a1 = some (v, τ')) : am_W X 4 (0, [(0, .ref 0), (1, .int a1)], [], am_D τ) := by
  unfold X_readLease at h
  refine am_seg s_X_readLease_0 (y := (17, [(2, .ref 4), (0, .ref 0), (1, .int a1)], [.int a1, .ref 5, .ref 113], am_D τ)) hF t_s_X_readLease_0 rfl rfl ?_
  refine am_gd h (fun hi h => ?_)
  refine am_iald (n := 8) (j := (a1.toNatClampNeg)) d_X11_readLease_17 (Nat.le_of_ble_eq_true rfl) (Nat.le_of_ble_eq_true rfl) rfl hi rfl hF ?_
  refine am_seg s_X_readLease_1 (y := (23, [(2, .ref 4), (0, .ref 0), (1, .int a1)], [.int a1, .ref 7, .int (τ.1 5 (a1.toNatClampNeg)), .ref 113], am_D τ)) hF t_s_X_readLease_1 rfl rfl ?_
  refine am_gd h (fun hi h => ?_)
  refine am_zald (n := 8) (j := (a1.toNatClampNeg)) d_X11_readLease_23 (Nat.le_of_ble_eq_true rfl) (Nat.le_of_ble_eq_true rfl) rfl hi rfl hF ?_
  refine am_bd h (fun x1 hx h => ?_)
  refine am_callV (As := [.int (τ.1 5 (a1.toNatClampNeg)), .int (τ.1 7 (a1.toNatClampNeg))]) (r := (some (.int x1.1))) (st := []) (σ' := am_D x1.2) (ci := 9) hF hR d_X11_readLease_24 (c_Ta_read (τ' := x1.2) hx) (Nat.le_refl _) (Nat.le_refl _) wl_X_87 wi_yX9_read we_yX9_read wn_ShareHouse_Tape wc_yX9_read (Nat.le_of_ble_eq_true rfl) (Nat.le_of_ble_eq_true rfl) rfl rfl wy_yX9_read rfl ⟨by decide, by decide⟩ (Nat.le_of_ble_eq_true rfl) ?_
  refine am_seg s_X_readLease_2 (y := (29, [(3, .int x1.1), (2, .ref 4), (0, .ref 0), (1, .int a1)], [.int x1.1], am_D x1.2)) hF t_s_X_readLease_2 rfl rfl ?_
  refine am_ite h (fun hc h => ?_) (fun hc h => ?_)
  · refine am_if_lt_t (t := 37) d_X11_readLease_29 (by decide) hc hF ?_
    refine am_seg s_X_readLease_3 (y := (42, [(3, .int x1.1), (2, .ref 4), (0, .ref 0), (1, .int a1)], [.int a1, .ref 8], am_D x1.2)) hF t_s_X_readLease_3 rfl rfl ?_
    refine am_gd h (fun hi h => ?_)
    refine am_bd h (fun q2 hq h => ?_)
    refine am_aald (n := 8) (j := (a1.toNatClampNeg)) (q := q2) d_X11_readLease_42 (Nat.le_of_ble_eq_true rfl) (Nat.le_of_ble_eq_true rfl) rfl hi rfl hq hF ?_
    refine am_seg s_X_readLease_4 (y := (50, [(3, .int x1.1), (2, .ref 4), (0, .ref 0), (1, .int a1)], [.ref 116, .ref q2], am_D x1.2)) hF t_s_X_readLease_4 rfl rfl ?_
    refine am_gd h (fun hg h => ?_)
    refine am_bd h (fun x3 hx h => ?_)
    refine am_callV (As := [.ref 116]) (r := none) (st := []) (σ' := am_D x3) (ci := 4) hF hR d_X11_readLease_50 (c_Le_become (τ' := x3) hx) (Nat.le_refl _) (Nat.le_refl _) wl_X_99 wi_yX4_become we_yX4_become wn_ShareHouse_Lease wc_yX4_become (am_isO_of hg).1 (am_isO_of hg).2.1 (am_isO_of hg).2.2 rfl wy_yX4_become rfl ⟨by decide, by decide⟩ (Nat.le_of_ble_eq_true rfl) ?_
    refine am_seg s_X_readLease_5 (y := (63, [(3, .int x1.1), (2, .ref 4), (0, .ref 0), (1, .int a1)], [.int (x3.1 116 1)], am_D x3)) hF t_s_X_readLease_5 rfl rfl ?_
    obtain ⟨rfl, rfl⟩ := am_pair h
    exact am_iret d_X11_readLease_63 hF hB
  · refine am_if_lt_f (t := 37) d_X11_readLease_29 (by decide) hc hF ?_
    refine am_seg s_X_readLease_6 (y := (36, [(3, .int x1.1), (2, .ref 4), (0, .ref 0), (1, .int a1)], [.int ((-100 : Int32) - x1.1)], am_D x1.2)) hF t_s_X_readLease_6 rfl rfl ?_
    obtain ⟨rfl, rfl⟩ := am_pair h
    exact am_iret d_X11_readLease_36 hF hB
theorem c_X_readLease {a1 : Int32} {v : Int32} {τ τ' : am_T} (h : X_readLease τ a1 = some (v, τ')) : am_C yX11_readLease cX11_readLease 4 (some .int) 10 216 [.ref 0, .int a1] (am_D τ) (some (.int v)) (am_D τ') :=
  am_enter (by decide +kernel) (Nat.le_of_ble_eq_true rfl) ⟨Nat.le_refl _, Nat.le_refl _⟩ (fun X hF hR hB => ok_X_readLease hF hR hB h)

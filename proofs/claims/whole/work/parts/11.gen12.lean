def s_M_tellClause_0 : List am_Q := [(0, .aload_n 0, 0, 0, 0, .null), (1, .getfield 162, 12, 14, 166, .null), (4, .bipush 12, 0, 0, 0, .int (nI 12))]
theorem t_s_M_tellClause_0 : s_M_tellClause_0.all (am_ok 12 cX12_tellClause) = true := by decide +kernel
theorem d_X12_tellClause_6 : decode cX12_tellClause 6 = .ok (.if_icmp .ne 8, 3) := by decide +kernel
def s_M_tellClause_1 : List am_Q := [(14, .aload_n 0, 0, 0, 0, .null)]
theorem t_s_M_tellClause_1 : s_M_tellClause_1.all (am_ok 12 cX12_tellClause) = true := by decide +kernel
theorem d_X12_tellClause_15 : decode cX12_tellClause 15 = .ok (.invokevirtual 165, 3) := by decide +kernel
def s_M_tellClause_2 : List am_Q := [(18, .istore_n 2, 0, 0, 0, .null), (19, .aload_n 0, 0, 0, 0, .null), (20, .getfield 73, 12, 7, 159, .null)]
theorem t_s_M_tellClause_2 : s_M_tellClause_2.all (am_ok 12 cX12_tellClause) = true := by decide +kernel
theorem d_X12_tellClause_23 : decode cX12_tellClause 23 = .ok (.ifCond .ge 11, 3) := by decide +kernel
def s_M_tellClause_3 : List am_Q := [(34, .aload_n 0, 0, 0, 0, .null), (35, .getfield 73, 12, 7, 159, .null)]
theorem t_s_M_tellClause_3 : s_M_tellClause_3.all (am_ok 12 cX12_tellClause) = true := by decide +kernel
theorem d_X12_tellClause_38 : decode cX12_tellClause 38 = .ok (.ifCond .ge 7, 3) := by decide +kernel
def s_M_tellClause_4 : List am_Q := [(45, .aload_n 0, 0, 0, 0, .null), (46, .getfield 73, 12, 7, 159, .null)]
theorem t_s_M_tellClause_4 : s_M_tellClause_4.all (am_ok 12 cX12_tellClause) = true := by decide +kernel
theorem d_X12_tellClause_49 : decode cX12_tellClause 49 = .ok (.ifCond .ge 8, 3) := by decide +kernel
def s_M_tellClause_5 : List am_Q := [(57, .aload_n 0, 0, 0, 0, .null), (58, .getfield 73, 12, 7, 159, .null)]
theorem t_s_M_tellClause_5 : s_M_tellClause_5.all (am_ok 12 cX12_tellClause) = true := by decide +kernel
theorem d_X12_tellClause_61 : decode cX12_tellClause 61 = .ok (.ifCond .ge 11, 3) := by decide +kernel
def s_M_tellClause_6 : List am_Q := [(72, .bipush 6, 0, 0, 0, .int (nI 6)), (74, .aload_n 0, 0, 0, 0, .null), (75, .getfield 162, 12, 14, 166, .null), (78, .imul, 0, 0, 0, .null), (79, .istore_n 3, 0, 0, 0, .null), (80, .aload_n 0, 0, 0, 0, .null), (81, .getfield 19, 12, 13, 165, .null), (84, .iload_n 3, 0, 0, 0, .null), (85, .iload_n 2, 0, 0, 0, .null)]
theorem t_s_M_tellClause_6 : s_M_tellClause_6.all (am_ok 12 cX12_tellClause) = true := by decide +kernel
theorem d_X12_tellClause_86 : decode cX12_tellClause 86 = .ok (.iastore, 1) := by decide +kernel
def s_M_tellClause_7 : List am_Q := [(87, .aload_n 0, 0, 0, 0, .null), (88, .getfield 19, 12, 13, 165, .null), (91, .iload_n 3, 0, 0, 0, .null), (92, .iconst 1, 0, 0, 0, .int (nI 1)), (93, .iadd, 0, 0, 0, .null), (94, .aload_n 0, 0, 0, 0, .null), (95, .getfield 126, 12, 8, 160, .null)]
theorem t_s_M_tellClause_7 : s_M_tellClause_7.all (am_ok 12 cX12_tellClause) = true := by decide +kernel
theorem d_X12_tellClause_98 : decode cX12_tellClause 98 = .ok (.iastore, 1) := by decide +kernel
def s_M_tellClause_8 : List am_Q := [(99, .aload_n 0, 0, 0, 0, .null), (100, .getfield 19, 12, 13, 165, .null), (103, .iload_n 3, 0, 0, 0, .null), (104, .iconst 2, 0, 0, 0, .int (nI 2)), (105, .iadd, 0, 0, 0, .null), (106, .aload_n 0, 0, 0, 0, .null), (107, .getfield 112, 12, 9, 161, .null)]
theorem t_s_M_tellClause_8 : s_M_tellClause_8.all (am_ok 12 cX12_tellClause) = true := by decide +kernel
theorem d_X12_tellClause_110 : decode cX12_tellClause 110 = .ok (.iastore, 1) := by decide +kernel
def s_M_tellClause_9 : List am_Q := [(111, .aload_n 0, 0, 0, 0, .null), (112, .getfield 19, 12, 13, 165, .null), (115, .iload_n 3, 0, 0, 0, .null), (116, .iconst 3, 0, 0, 0, .int (nI 3)), (117, .iadd, 0, 0, 0, .null), (118, .aload_n 0, 0, 0, 0, .null), (119, .getfield 115, 12, 10, 162, .null)]
theorem t_s_M_tellClause_9 : s_M_tellClause_9.all (am_ok 12 cX12_tellClause) = true := by decide +kernel
theorem d_X12_tellClause_122 : decode cX12_tellClause 122 = .ok (.iastore, 1) := by decide +kernel
def s_M_tellClause_10 : List am_Q := [(123, .aload_n 0, 0, 0, 0, .null), (124, .getfield 19, 12, 13, 165, .null), (127, .iload_n 3, 0, 0, 0, .null), (128, .iconst 4, 0, 0, 0, .int (nI 4)), (129, .iadd, 0, 0, 0, .null), (130, .aload_n 0, 0, 0, 0, .null), (131, .getfield 141, 12, 11, 163, .null)]
theorem t_s_M_tellClause_10 : s_M_tellClause_10.all (am_ok 12 cX12_tellClause) = true := by decide +kernel
theorem d_X12_tellClause_134 : decode cX12_tellClause 134 = .ok (.iastore, 1) := by decide +kernel
def s_M_tellClause_11 : List am_Q := [(135, .aload_n 0, 0, 0, 0, .null), (136, .getfield 19, 12, 13, 165, .null), (139, .iload_n 3, 0, 0, 0, .null), (140, .iconst 5, 0, 0, 0, .int (nI 5)), (141, .iadd, 0, 0, 0, .null), (142, .aload_n 0, 0, 0, 0, .null), (143, .getfield 153, 12, 12, 164, .null)]
theorem t_s_M_tellClause_11 : s_M_tellClause_11.all (am_ok 12 cX12_tellClause) = true := by decide +kernel
theorem d_X12_tellClause_146 : decode cX12_tellClause 146 = .ok (.ifCond .eq 7, 3) := by decide +kernel
def s_M_tellClause_12 : List am_Q := [(153, .iconst 0, 0, 0, 0, .int (nI 0))]
theorem t_s_M_tellClause_12 : s_M_tellClause_12.all (am_ok 12 cX12_tellClause) = true := by decide +kernel
theorem d_X12_tellClause_154 : decode cX12_tellClause 154 = .ok (.iastore, 1) := by decide +kernel
def s_M_tellClause_13 : List am_Q := [(155, .aload_n 0, 0, 0, 0, .null), (156, .dup, 0, 0, 0, .null), (157, .getfield 162, 12, 14, 166, .null), (160, .iconst 1, 0, 0, 0, .int (nI 1)), (161, .iadd, 0, 0, 0, .null), (162, .putfield 162, 12, 14, 166, .null)]
theorem t_s_M_tellClause_13 : s_M_tellClause_13.all (am_ok 12 cX12_tellClause) = true := by decide +kernel
theorem d_X12_tellClause_165 : decode cX12_tellClause 165 = .ok (.return_, 1) := by decide +kernel
def s_M_tellClause_14 : List am_Q := [(149, .iconst 1, 0, 0, 0, .int (nI 1)), (150, .goto 4, 154, 0, 0, .null)]
theorem t_s_M_tellClause_14 : s_M_tellClause_14.all (am_ok 12 cX12_tellClause) = true := by decide +kernel
def s_M_tellClause_15 : List am_Q := [(64, .aload_n 0, 0, 0, 0, .null), (65, .ldc2_w 177, 0, 0, 28, .long (lN 59)), (68, .iconst 1, 0, 0, 0, .int (nI 1))]
theorem t_s_M_tellClause_15 : s_M_tellClause_15.all (am_ok 12 cX12_tellClause) = true := by decide +kernel
theorem d_X12_tellClause_69 : decode cX12_tellClause 69 = .ok (.invokevirtual 135, 3) := by decide +kernel
def s_M_tellClause_16 : List am_Q := [(52, .aload_n 0, 0, 0, 0, .null), (53, .iload_n 1, 0, 0, 0, .null)]
theorem t_s_M_tellClause_16 : s_M_tellClause_16.all (am_ok 12 cX12_tellClause) = true := by decide +kernel
theorem d_X12_tellClause_54 : decode cX12_tellClause 54 = .ok (.invokevirtual 173, 3) := by decide +kernel
def s_M_tellClause_17 : List am_Q := [(41, .aload_n 0, 0, 0, 0, .null)]
theorem t_s_M_tellClause_17 : s_M_tellClause_17.all (am_ok 12 cX12_tellClause) = true := by decide +kernel
theorem d_X12_tellClause_42 : decode cX12_tellClause 42 = .ok (.invokevirtual 170, 3) := by decide +kernel
def s_M_tellClause_18 : List am_Q := [(26, .aload_n 0, 0, 0, 0, .null), (27, .ldc2_w 168, 0, 0, 17, .long (lN 1885436275)), (30, .iconst 4, 0, 0, 0, .int (nI 4))]
theorem t_s_M_tellClause_18 : s_M_tellClause_18.all (am_ok 12 cX12_tellClause) = true := by decide +kernel
theorem d_X12_tellClause_31 : decode cX12_tellClause 31 = .ok (.invokevirtual 135, 3) := by decide +kernel
def s_M_tellClause_19 : List am_Q := [(9, .aload_n 0, 0, 0, 0, .null)]
theorem t_s_M_tellClause_19 : s_M_tellClause_19.all (am_ok 12 cX12_tellClause) = true := by decide +kernel
theorem d_X12_tellClause_10 : decode cX12_tellClause 10 = .ok (.invokevirtual 86, 3) := by decide +kernel
theorem d_X12_tellClause_13 : decode cX12_tellClause 13 = .ok (.return_, 1) := by decide +kernel
def M_tellClause_154 (τ : am_T) (s0 : Int32) (s1 : Int32) : Option (am_T) :=
  am_g (am_in s1 72) (some (am_si (am_si τ 144 (s1.toNatClampNeg) s0) 140 14 (((am_si τ 144 (s1.toNatClampNeg) s0).1 140 14) + (nI 1))))
set_option maxRecDepth 20000 in
theorem ok_M_tellClause_154 {X : am_X} {τ' : am_T} (hF : am_F X "ShareHouseModel" cX12_tellClause 4) (hR : am_R X 7 157) (hB : am_B X none none (am_D τ')) {τ : am_T} {s0 : Int32} {s1 : Int32} (h : M_tellClause_154 τ s0 s1 = some τ') : am_W X 4 (154, [(0, .ref 140)], [.int s0, .int s1, .ref 144], am_D τ) := by
  unfold M_tellClause_154 at h
  refine am_gd h (fun hi h => ?_)
  refine am_iast (n := 72) (j := (s1.toNatClampNeg)) d_X12_tellClause_154 (Nat.le_of_ble_eq_true rfl) (Nat.le_of_ble_eq_true rfl) rfl hi rfl hF ?_
  refine am_seg s_M_tellClause_13 (y := (165, [(0, .ref 140)], [], am_D (am_si (am_si τ 144 (s1.toNatClampNeg) s0) 140 14 (((am_si τ 144 (s1.toNatClampNeg) s0).1 140 14) + (nI 1))))) hF t_s_M_tellClause_13 rfl rfl ?_
  obtain rfl := am_one h
  exact am_vret d_X12_tellClause_165 hF hB
def M_tellClause_72 (τ : am_T) (a2 : Int32) : Option (am_T) :=
  am_g (am_in ((nI 6) * (τ.1 140 14)) 72) (am_g (am_in (((nI 6) * (τ.1 140 14)) + (nI 1)) 72) (am_g (am_in (((nI 6) * (τ.1 140 14)) + (nI 2)) 72) (am_g (am_in (((nI 6) * (τ.1 140 14)) + (nI 3)) 72) (am_g (am_in (((nI 6) * (τ.1 140 14)) + (nI 4)) 72) (if ((am_si (am_si (am_si (am_si (am_si τ 144 (((nI 6) * (τ.1 140 14)).toNatClampNeg) a2) 144 ((((nI 6) * (τ.1 140 14)) + (nI 1)).toNatClampNeg) ((am_si τ 144 (((nI 6) * (τ.1 140 14)).toNatClampNeg) a2).1 140 8)) 144 ((((nI 6) * (τ.1 140 14)) + (nI 2)).toNatClampNeg) ((am_si (am_si τ 144 (((nI 6) * (τ.1 140 14)).toNatClampNeg) a2) 144 ((((nI 6) * (τ.1 140 14)) + (nI 1)).toNatClampNeg) ((am_si τ 144 (((nI 6) * (τ.1 140 14)).toNatClampNeg) a2).1 140 8)).1 140 9)) 144 ((((nI 6) * (τ.1 140 14)) + (nI 3)).toNatClampNeg) ((am_si (am_si (am_si τ 144 (((nI 6) * (τ.1 140 14)).toNatClampNeg) a2) 144 ((((nI 6) * (τ.1 140 14)) + (nI 1)).toNatClampNeg) ((am_si τ 144 (((nI 6) * (τ.1 140 14)).toNatClampNeg) a2).1 140 8)) 144 ((((nI 6) * (τ.1 140 14)) + (nI 2)).toNatClampNeg) ((am_si (am_si τ 144 (((nI 6) * (τ.1 140 14)).toNatClampNeg) a2) 144 ((((nI 6) * (τ.1 140 14)) + (nI 1)).toNatClampNeg) ((am_si τ 144 (((nI 6) * (τ.1 140 14)).toNatClampNeg) a2).1 140 8)).1 140 9)).1 140 10)) 144 ((((nI 6) * (τ.1 140 14)) + (nI 4)).toNatClampNeg) ((am_si (am_si (am_si (am_si τ 144 (((nI 6) * (τ.1 140 14)).toNatClampNeg) a2) 144 ((((nI 6) * (τ.1 140 14)) + (nI 1)).toNatClampNeg) ((am_si τ 144 (((nI 6) * (τ.1 140 14)).toNatClampNeg) a2).1 140 8)) 144 ((((nI 6) * (τ.1 140 14)) + (nI 2)).toNatClampNeg) ((am_si (am_si τ 144 (((nI 6) * (τ.1 140 14)).toNatClampNeg) a2) 144 ((((nI 6) * (τ.1 140 14)) + (nI 1)).toNatClampNeg) ((am_si τ 144 (((nI 6) * (τ.1 140 14)).toNatClampNeg) a2).1 140 8)).1 140 9)) 144 ((((nI 6) * (τ.1 140 14)) + (nI 3)).toNatClampNeg) ((am_si (am_si (am_si τ 144 (((nI 6) * (τ.1 140 14)).toNatClampNeg) a2) 144 ((((nI 6) * (τ.1 140 14)) + (nI 1)).toNatClampNeg) ((am_si τ 144 (((nI 6) * (τ.1 140 14)).toNatClampNeg) a2).1 140 8)) 144 ((((nI 6) * (τ.1 140 14)) + (nI 2)).toNatClampNeg) ((am_si (am_si τ 144 (((nI 6) * (τ.1 140 14)).toNatClampNeg) a2) 144 ((((nI 6) * (τ.1 140 14)) + (nI 1)).toNatClampNeg) ((am_si τ 144 (((nI 6) * (τ.1 140 14)).toNatClampNeg) a2).1 140 8)).1 140 9)).1 140 10)).1 140 11)).1 140 12) = 0 then
  (M_tellClause_154 (am_si (am_si (am_si (am_si (am_si τ 144 (((nI 6) * (τ.1 140 14)).toNatClampNeg) a2) 144 ((((nI 6) * (τ.1 140 14)) + (nI 1)).toNatClampNeg) ((am_si τ 144 (((nI 6) * (τ.1 140 14)).toNatClampNeg) a2).1 140 8)) 144 ((((nI 6) * (τ.1 140 14)) + (nI 2)).toNatClampNeg) ((am_si (am_si τ 144 (((nI 6) * (τ.1 140 14)).toNatClampNeg) a2) 144 ((((nI 6) * (τ.1 140 14)) + (nI 1)).toNatClampNeg) ((am_si τ 144 (((nI 6) * (τ.1 140 14)).toNatClampNeg) a2).1 140 8)).1 140 9)) 144 ((((nI 6) * (τ.1 140 14)) + (nI 3)).toNatClampNeg) ((am_si (am_si (am_si τ 144 (((nI 6) * (τ.1 140 14)).toNatClampNeg) a2) 144 ((((nI 6) * (τ.1 140 14)) + (nI 1)).toNatClampNeg) ((am_si τ 144 (((nI 6) * (τ.1 140 14)).toNatClampNeg) a2).1 140 8)) 144 ((((nI 6) * (τ.1 140 14)) + (nI 2)).toNatClampNeg) ((am_si (am_si τ 144 (((nI 6) * (τ.1 140 14)).toNatClampNeg) a2) 144 ((((nI 6) * (τ.1 140 14)) + (nI 1)).toNatClampNeg) ((am_si τ 144 (((nI 6) * (τ.1 140 14)).toNatClampNeg) a2).1 140 8)).1 140 9)).1 140 10)) 144 ((((nI 6) * (τ.1 140 14)) + (nI 4)).toNatClampNeg) ((am_si (am_si (am_si (am_si τ 144 (((nI 6) * (τ.1 140 14)).toNatClampNeg) a2) 144 ((((nI 6) * (τ.1 140 14)) + (nI 1)).toNatClampNeg) ((am_si τ 144 (((nI 6) * (τ.1 140 14)).toNatClampNeg) a2).1 140 8)) 144 ((((nI 6) * (τ.1 140 14)) + (nI 2)).toNatClampNeg) ((am_si (am_si τ 144 (((nI 6) * (τ.1 140 14)).toNatClampNeg) a2) 144 ((((nI 6) * (τ.1 140 14)) + (nI 1)).toNatClampNeg) ((am_si τ 144 (((nI 6) * (τ.1 140 14)).toNatClampNeg) a2).1 140 8)).1 140 9)) 144 ((((nI 6) * (τ.1 140 14)) + (nI 3)).toNatClampNeg) ((am_si (am_si (am_si τ 144 (((nI 6) * (τ.1 140 14)).toNatClampNeg) a2) 144 ((((nI 6) * (τ.1 140 14)) + (nI 1)).toNatClampNeg) ((am_si τ 144 (((nI 6) * (τ.1 140 14)).toNatClampNeg) a2).1 140 8)) 144 ((((nI 6) * (τ.1 140 14)) + (nI 2)).toNatClampNeg) ((am_si (am_si τ 144 (((nI 6) * (τ.1 140 14)).toNatClampNeg) a2) 144 ((((nI 6) * (τ.1 140 14)) + (nI 1)).toNatClampNeg) ((am_si τ 144 (((nI 6) * (τ.1 140 14)).toNatClampNeg) a2).1 140 8)).1 140 9)).1 140 10)).1 140 11)) (nI 0) (((nI 6) * (τ.1 140 14)) + (nI 5)))
else
  (M_tellClause_154 (am_si (am_si (am_si (am_si (am_si τ 144 (((nI 6) * (τ.1 140 14)).toNatClampNeg) a2) 144 ((((nI 6) * (τ.1 140 14)) + (nI 1)).toNatClampNeg) ((am_si τ 144 (((nI 6) * (τ.1 140 14)).toNatClampNeg) a2).1 140 8)) 144 ((((nI 6) * (τ.1 140 14)) + (nI 2)).toNatClampNeg) ((am_si (am_si τ 144 (((nI 6) * (τ.1 140 14)).toNatClampNeg) a2) 144 ((((nI 6) * (τ.1 140 14)) + (nI 1)).toNatClampNeg) ((am_si τ 144 (((nI 6) * (τ.1 140 14)).toNatClampNeg) a2).1 140 8)).1 140 9)) 144 ((((nI 6) * (τ.1 140 14)) + (nI 3)).toNatClampNeg) ((am_si (am_si (am_si τ 144 (((nI 6) * (τ.1 140 14)).toNatClampNeg) a2) 144 ((((nI 6) * (τ.1 140 14)) + (nI 1)).toNatClampNeg) ((am_si τ 144 (((nI 6) * (τ.1 140 14)).toNatClampNeg) a2).1 140 8)) 144 ((((nI 6) * (τ.1 140 14)) + (nI 2)).toNatClampNeg) ((am_si (am_si τ 144 (((nI 6) * (τ.1 140 14)).toNatClampNeg) a2) 144 ((((nI 6) * (τ.1 140 14)) + (nI 1)).toNatClampNeg) ((am_si τ 144 (((nI 6) * (τ.1 140 14)).toNatClampNeg) a2).1 140 8)).1 140 9)).1 140 10)) 144 ((((nI 6) * (τ.1 140 14)) + (nI 4)).toNatClampNeg) ((am_si (am_si (am_si (am_si τ 144 (((nI 6) * (τ.1 140 14)).toNatClampNeg) a2) 144 ((((nI 6) * (τ.1 140 14)) + (nI 1)).toNatClampNeg) ((am_si τ 144 (((nI 6) * (τ.1 140 14)).toNatClampNeg) a2).1 140 8)) 144 ((((nI 6) * (τ.1 140 14)) + (nI 2)).toNatClampNeg) ((am_si (am_si τ 144 (((nI 6) * (τ.1 140 14)).toNatClampNeg) a2) 144 ((((nI 6) * (τ.1 140 14)) + (nI 1)).toNatClampNeg) ((am_si τ 144 (((nI 6) * (τ.1 140 14)).toNatClampNeg) a2).1 140 8)).1 140 9)) 144 ((((nI 6) * (τ.1 140 14)) + (nI 3)).toNatClampNeg) ((am_si (am_si (am_si τ 144 (((nI 6) * (τ.1 140 14)).toNatClampNeg) a2) 144 ((((nI 6) * (τ.1 140 14)) + (nI 1)).toNatClampNeg) ((am_si τ 144 (((nI 6) * (τ.1 140 14)).toNatClampNeg) a2).1 140 8)) 144 ((((nI 6) * (τ.1 140 14)) + (nI 2)).toNatClampNeg) ((am_si (am_si τ 144 (((nI 6) * (τ.1 140 14)).toNatClampNeg) a2) 144 ((((nI 6) * (τ.1 140 14)) + (nI 1)).toNatClampNeg) ((am_si τ 144 (((nI 6) * (τ.1 140 14)).toNatClampNeg) a2).1 140 8)).1 140 9)).1 140 10)).1 140 11)) (nI 1) (((nI 6) * (τ.1 140 14)) + (nI 5))))))))
set_option maxRecDepth 20000 in
theorem ok_M_tellClause_72 {X : am_X} {τ' : am_T} (hF : am_F X "ShareHouseModel" cX12_tellClause 4) (hR : am_R X 7 157) (hB : am_B X none none (am_D τ')) {τ : am_T} {a2 : Int32} (h : M_tellClause_72 τ a2 = some τ') : am_W X 4 (72, [(0, .ref 140), (2, .int a2)], [], am_D τ) := by
  unfold M_tellClause_72 at h
  refine am_seg s_M_tellClause_6 (y := (86, [(3, .int ((nI 6) * (τ.1 140 14))), (0, .ref 140), (2, .int a2)], [.int a2, .int ((nI 6) * (τ.1 140 14)), .ref 144], am_D τ)) hF t_s_M_tellClause_6 rfl rfl ?_
  refine am_gd h (fun hi h => ?_)
  refine am_iast (n := 72) (j := (((nI 6) * (τ.1 140 14)).toNatClampNeg)) d_X12_tellClause_86 (Nat.le_of_ble_eq_true rfl) (Nat.le_of_ble_eq_true rfl) rfl hi rfl hF ?_
  refine am_seg s_M_tellClause_7 (y := (98, [(3, .int ((nI 6) * (τ.1 140 14))), (0, .ref 140), (2, .int a2)], [.int ((am_si τ 144 (((nI 6) * (τ.1 140 14)).toNatClampNeg) a2).1 140 8), .int (((nI 6) * (τ.1 140 14)) + (nI 1)), .ref 144], am_D (am_si τ 144 (((nI 6) * (τ.1 140 14)).toNatClampNeg) a2))) hF t_s_M_tellClause_7 rfl rfl ?_
  refine am_gd h (fun hi h => ?_)
  refine am_iast (n := 72) (j := ((((nI 6) * (τ.1 140 14)) + (nI 1)).toNatClampNeg)) d_X12_tellClause_98 (Nat.le_of_ble_eq_true rfl) (Nat.le_of_ble_eq_true rfl) rfl hi rfl hF ?_
  refine am_seg s_M_tellClause_8 (y := (110, [(3, .int ((nI 6) * (τ.1 140 14))), (0, .ref 140), (2, .int a2)], [.int ((am_si (am_si τ 144 (((nI 6) * (τ.1 140 14)).toNatClampNeg) a2) 144 ((((nI 6) * (τ.1 140 14)) + (nI 1)).toNatClampNeg) ((am_si τ 144 (((nI 6) * (τ.1 140 14)).toNatClampNeg) a2).1 140 8)).1 140 9), .int (((nI 6) * (τ.1 140 14)) + (nI 2)), .ref 144], am_D (am_si (am_si τ 144 (((nI 6) * (τ.1 140 14)).toNatClampNeg) a2) 144 ((((nI 6) * (τ.1 140 14)) + (nI 1)).toNatClampNeg) ((am_si τ 144 (((nI 6) * (τ.1 140 14)).toNatClampNeg) a2).1 140 8)))) hF t_s_M_tellClause_8 rfl rfl ?_
  refine am_gd h (fun hi h => ?_)
  refine am_iast (n := 72) (j := ((((nI 6) * (τ.1 140 14)) + (nI 2)).toNatClampNeg)) d_X12_tellClause_110 (Nat.le_of_ble_eq_true rfl) (Nat.le_of_ble_eq_true rfl) rfl hi rfl hF ?_
  refine am_seg s_M_tellClause_9 (y := (122, [(3, .int ((nI 6) * (τ.1 140 14))), (0, .ref 140), (2, .int a2)], [.int ((am_si (am_si (am_si τ 144 (((nI 6) * (τ.1 140 14)).toNatClampNeg) a2) 144 ((((nI 6) * (τ.1 140 14)) + (nI 1)).toNatClampNeg) ((am_si τ 144 (((nI 6) * (τ.1 140 14)).toNatClampNeg) a2).1 140 8)) 144 ((((nI 6) * (τ.1 140 14)) + (nI 2)).toNatClampNeg) ((am_si (am_si τ 144 (((nI 6) * (τ.1 140 14)).toNatClampNeg) a2) 144 ((((nI 6) * (τ.1 140 14)) + (nI 1)).toNatClampNeg) ((am_si τ 144 (((nI 6) * (τ.1 140 14)).toNatClampNeg) a2).1 140 8)).1 140 9)).1 140 10), .int (((nI 6) * (τ.1 140 14)) + (nI 3)), .ref 144], am_D (am_si (am_si (am_si τ 144 (((nI 6) * (τ.1 140 14)).toNatClampNeg) a2) 144 ((((nI 6) * (τ.1 140 14)) + (nI 1)).toNatClampNeg) ((am_si τ 144 (((nI 6) * (τ.1 140 14)).toNatClampNeg) a2).1 140 8)) 144 ((((nI 6) * (τ.1 140 14)) + (nI 2)).toNatClampNeg) ((am_si (am_si τ 144 (((nI 6) * (τ.1 140 14)).toNatClampNeg) a2) 144 ((((nI 6) * (τ.1 140 14)) + (nI 1)).toNatClampNeg) ((am_si τ 144 (((nI 6) * (τ.1 140 14)).toNatClampNeg) a2).1 140 8)).1 140 9)))) hF t_s_M_tellClause_9 rfl rfl ?_
  refine am_gd h (fun hi h => ?_)
  refine am_iast (n := 72) (j := ((((nI 6) * (τ.1 140 14)) + (nI 3)).toNatClampNeg)) d_X12_tellClause_122 (Nat.le_of_ble_eq_true rfl) (Nat.le_of_ble_eq_true rfl) rfl hi rfl hF ?_
  refine am_seg s_M_tellClause_10 (y := (134, [(3, .int ((nI 6) * (τ.1 140 14))), (0, .ref 140), (2, .int a2)], [.int ((am_si (am_si (am_si (am_si τ 144 (((nI 6) * (τ.1 140 14)).toNatClampNeg) a2) 144 ((((nI 6) * (τ.1 140 14)) + (nI 1)).toNatClampNeg) ((am_si τ 144 (((nI 6) * (τ.1 140 14)).toNatClampNeg) a2).1 140 8)) 144 ((((nI 6) * (τ.1 140 14)) + (nI 2)).toNatClampNeg) ((am_si (am_si τ 144 (((nI 6) * (τ.1 140 14)).toNatClampNeg) a2) 144 ((((nI 6) * (τ.1 140 14)) + (nI 1)).toNatClampNeg) ((am_si τ 144 (((nI 6) * (τ.1 140 14)).toNatClampNeg) a2).1 140 8)).1 140 9)) 144 ((((nI 6) * (τ.1 140 14)) + (nI 3)).toNatClampNeg) ((am_si (am_si (am_si τ 144 (((nI 6) * (τ.1 140 14)).toNatClampNeg) a2) 144 ((((nI 6) * (τ.1 140 14)) + (nI 1)).toNatClampNeg) ((am_si τ 144 (((nI 6) * (τ.1 140 14)).toNatClampNeg) a2).1 140 8)) 144 ((((nI 6) * (τ.1 140 14)) + (nI 2)).toNatClampNeg) ((am_si (am_si τ 144 (((nI 6) * (τ.1 140 14)).toNatClampNeg) a2) 144 ((((nI 6) * (τ.1 140 14)) + (nI 1)).toNatClampNeg) ((am_si τ 144 (((nI 6) * (τ.1 140 14)).toNatClampNeg) a2).1 140 8)).1 140 9)).1 140 10)).1 140 11), .int (((nI 6) * (τ.1 140 14)) + (nI 4)), .ref 144], am_D (am_si (am_si (am_si (am_si τ 144 (((nI 6) * (τ.1 140 14)).toNatClampNeg) a2) 144 ((((nI 6) * (τ.1 140 14)) + (nI 1)).toNatClampNeg) ((am_si τ 144 (((nI 6) * (τ.1 140 14)).toNatClampNeg) a2).1 140 8)) 144 ((((nI 6) * (τ.1 140 14)) + (nI 2)).toNatClampNeg) ((am_si (am_si τ 144 (((nI 6) * (τ.1 140 14)).toNatClampNeg) a2) 144 ((((nI 6) * (τ.1 140 14)) + (nI 1)).toNatClampNeg) ((am_si τ 144 (((nI 6) * (τ.1 140 14)).toNatClampNeg) a2).1 140 8)).1 140 9)) 144 ((((nI 6) * (τ.1 140 14)) + (nI 3)).toNatClampNeg) ((am_si (am_si (am_si τ 144 (((nI 6) * (τ.1 140 14)).toNatClampNeg) a2) 144 ((((nI 6) * (τ.1 140 14)) + (nI 1)).toNatClampNeg) ((am_si τ 144 (((nI 6) * (τ.1 140 14)).toNatClampNeg) a2).1 140 8)) 144 ((((nI 6) * (τ.1 140 14)) + (nI 2)).toNatClampNeg) ((am_si (am_si τ 144 (((nI 6) * (τ.1 140 14)).toNatClampNeg) a2) 144 ((((nI 6) * (τ.1 140 14)) + (nI 1)).toNatClampNeg) ((am_si τ 144 (((nI 6) * (τ.1 140 14)).toNatClampNeg) a2).1 140 8)).1 140 9)).1 140 10)))) hF t_s_M_tellClause_10 rfl rfl ?_
  refine am_gd h (fun hi h => ?_)
  refine am_iast (n := 72) (j := ((((nI 6) * (τ.1 140 14)) + (nI 4)).toNatClampNeg)) d_X12_tellClause_134 (Nat.le_of_ble_eq_true rfl) (Nat.le_of_ble_eq_true rfl) rfl hi rfl hF ?_
  refine am_seg s_M_tellClause_11 (y := (146, [(3, .int ((nI 6) * (τ.1 140 14))), (0, .ref 140), (2, .int a2)], [.int ((am_si (am_si (am_si (am_si (am_si τ 144 (((nI 6) * (τ.1 140 14)).toNatClampNeg) a2) 144 ((((nI 6) * (τ.1 140 14)) + (nI 1)).toNatClampNeg) ((am_si τ 144 (((nI 6) * (τ.1 140 14)).toNatClampNeg) a2).1 140 8)) 144 ((((nI 6) * (τ.1 140 14)) + (nI 2)).toNatClampNeg) ((am_si (am_si τ 144 (((nI 6) * (τ.1 140 14)).toNatClampNeg) a2) 144 ((((nI 6) * (τ.1 140 14)) + (nI 1)).toNatClampNeg) ((am_si τ 144 (((nI 6) * (τ.1 140 14)).toNatClampNeg) a2).1 140 8)).1 140 9)) 144 ((((nI 6) * (τ.1 140 14)) + (nI 3)).toNatClampNeg) ((am_si (am_si (am_si τ 144 (((nI 6) * (τ.1 140 14)).toNatClampNeg) a2) 144 ((((nI 6) * (τ.1 140 14)) + (nI 1)).toNatClampNeg) ((am_si τ 144 (((nI 6) * (τ.1 140 14)).toNatClampNeg) a2).1 140 8)) 144 ((((nI 6) * (τ.1 140 14)) + (nI 2)).toNatClampNeg) ((am_si (am_si τ 144 (((nI 6) * (τ.1 140 14)).toNatClampNeg) a2) 144 ((((nI 6) * (τ.1 140 14)) + (nI 1)).toNatClampNeg) ((am_si τ 144 (((nI 6) * (τ.1 140 14)).toNatClampNeg) a2).1 140 8)).1 140 9)).1 140 10)) 144 ((((nI 6) * (τ.1 140 14)) + (nI 4)).toNatClampNeg) ((am_si (am_si (am_si (am_si τ 144 (((nI 6) * (τ.1 140 14)).toNatClampNeg) a2) 144 ((((nI 6) * (τ.1 140 14)) + (nI 1)).toNatClampNeg) ((am_si τ 144 (((nI 6) * (τ.1 140 14)).toNatClampNeg) a2).1 140 8)) 144 ((((nI 6) * (τ.1 140 14)) + (nI 2)).toNatClampNeg) ((am_si (am_si τ 144 (((nI 6) * (τ.1 140 14)).toNatClampNeg) a2) 144 ((((nI 6) * (τ.1 140 14)) + (nI 1)).toNatClampNeg) ((am_si τ 144 (((nI 6) * (τ.1 140 14)).toNatClampNeg) a2).1 140 8)).1 140 9)) 144 ((((nI 6) * (τ.1 140 14)) + (nI 3)).toNatClampNeg) ((am_si (am_si (am_si τ 144 (((nI 6) * (τ.1 140 14)).toNatClampNeg) a2) 144 ((((nI 6) * (τ.1 140 14)) + (nI 1)).toNatClampNeg) ((am_si τ 144 (((nI 6) * (τ.1 140 14)).toNatClampNeg) a2).1 140 8)) 144 ((((nI 6) * (τ.1 140 14)) + (nI 2)).toNatClampNeg) ((am_si (am_si τ 144 (((nI 6) * (τ.1 140 14)).toNatClampNeg) a2) 144 ((((nI 6) * (τ.1 140 14)) + (nI 1)).toNatClampNeg) ((am_si τ 144 (((nI 6) * (τ.1 140 14)).toNatClampNeg) a2).1 140 8)).1 140 9)).1 140 10)).1 140 11)).1 140 12), .int (((nI 6) * (τ.1 140 14)) + (nI 5)), .ref 144], am_D (am_si (am_si (am_si (am_si (am_si τ 144 (((nI 6) * (τ.1 140 14)).toNatClampNeg) a2) 144 ((((nI 6) * (τ.1 140 14)) + (nI 1)).toNatClampNeg) ((am_si τ 144 (((nI 6) * (τ.1 140 14)).toNatClampNeg) a2).1 140 8)) 144 ((((nI 6) * (τ.1 140 14)) + (nI 2)).toNatClampNeg) ((am_si (am_si τ 144 (((nI 6) * (τ.1 140 14)).toNatClampNeg) a2) 144 ((((nI 6) * (τ.1 140 14)) + (nI 1)).toNatClampNeg) ((am_si τ 144 (((nI 6) * (τ.1 140 14)).toNatClampNeg) a2).1 140 8)).1 140 9)) 144 ((((nI 6) * (τ.1 140 14)) + (nI 3)).toNatClampNeg) ((am_si (am_si (am_si τ 144 (((nI 6) * (τ.1 140 14)).toNatClampNeg) a2) 144 ((((nI 6) * (τ.1 140 14)) + (nI 1)).toNatClampNeg) ((am_si τ 144 (((nI 6) * (τ.1 140 14)).toNatClampNeg) a2).1 140 8)) 144 ((((nI 6) * (τ.1 140 14)) + (nI 2)).toNatClampNeg) ((am_si (am_si τ 144 (((nI 6) * (τ.1 140 14)).toNatClampNeg) a2) 144 ((((nI 6) * (τ.1 140 14)) + (nI 1)).toNatClampNeg) ((am_si τ 144 (((nI 6) * (τ.1 140 14)).toNatClampNeg) a2).1 140 8)).1 140 9)).1 140 10)) 144 ((((nI 6) * (τ.1 140 14)) + (nI 4)).toNatClampNeg) ((am_si (am_si (am_si (am_si τ 144 (((nI 6) * (τ.1 140 14)).toNatClampNeg) a2) 144 ((((nI 6) * (τ.1 140 14)) + (nI 1)).toNatClampNeg) ((am_si τ 144 (((nI 6) * (τ.1 140 14)).toNatClampNeg) a2).1 140 8)) 144 ((((nI 6) * (τ.1 140 14)) + (nI 2)).toNatClampNeg) ((am_si (am_si τ 144 (((nI 6) * (τ.1 140 14)).toNatClampNeg) a2) 144 ((((nI 6) * (τ.1 140 14)) + (nI 1)).toNatClampNeg) ((am_si τ 144 (((nI 6) * (τ.1 140 14)).toNatClampNeg) a2).1 140 8)).1 140 9)) 144 ((((nI 6) * (τ.1 140 14)) + (nI 3)).toNatClampNeg) ((am_si (am_si (am_si τ 144 (((nI 6) * (τ.1 140 14)).toNatClampNeg) a2) 144 ((((nI 6) * (τ.1 140 14)) + (nI 1)).toNatClampNeg) ((am_si τ 144 (((nI 6) * (τ.1 140 14)).toNatClampNeg) a2).1 140 8)) 144 ((((nI 6) * (τ.1 140 14)) + (nI 2)).toNatClampNeg) ((am_si (am_si τ 144 (((nI 6) * (τ.1 140 14)).toNatClampNeg) a2) 144 ((((nI 6) * (τ.1 140 14)) + (nI 1)).toNatClampNeg) ((am_si τ 144 (((nI 6) * (τ.1 140 14)).toNatClampNeg) a2).1 140 8)).1 140 9)).1 140 10)).1 140 11)))) hF t_s_M_tellClause_11 rfl rfl ?_
  refine am_ite h (fun hc h => ?_) (fun hc h => ?_)
  · refine am_if_eq_t (t := 153) d_X12_tellClause_146 (by decide) hc hF ?_
    refine am_seg s_M_tellClause_12 (y := (154, [(3, .int ((nI 6) * (τ.1 140 14))), (0, .ref 140), (2, .int a2)], [.int (nI 0), .int (((nI 6) * (τ.1 140 14)) + (nI 5)), .ref 144], am_D (am_si (am_si (am_si (am_si (am_si τ 144 (((nI 6) * (τ.1 140 14)).toNatClampNeg) a2) 144 ((((nI 6) * (τ.1 140 14)) + (nI 1)).toNatClampNeg) ((am_si τ 144 (((nI 6) * (τ.1 140 14)).toNatClampNeg) a2).1 140 8)) 144 ((((nI 6) * (τ.1 140 14)) + (nI 2)).toNatClampNeg) ((am_si (am_si τ 144 (((nI 6) * (τ.1 140 14)).toNatClampNeg) a2) 144 ((((nI 6) * (τ.1 140 14)) + (nI 1)).toNatClampNeg) ((am_si τ 144 (((nI 6) * (τ.1 140 14)).toNatClampNeg) a2).1 140 8)).1 140 9)) 144 ((((nI 6) * (τ.1 140 14)) + (nI 3)).toNatClampNeg) ((am_si (am_si (am_si τ 144 (((nI 6) * (τ.1 140 14)).toNatClampNeg) a2) 144 ((((nI 6) * (τ.1 140 14)) + (nI 1)).toNatClampNeg) ((am_si τ 144 (((nI 6) * (τ.1 140 14)).toNatClampNeg) a2).1 140 8)) 144 ((((nI 6) * (τ.1 140 14)) + (nI 2)).toNatClampNeg) ((am_si (am_si τ 144 (((nI 6) * (τ.1 140 14)).toNatClampNeg) a2) 144 ((((nI 6) * (τ.1 140 14)) + (nI 1)).toNatClampNeg) ((am_si τ 144 (((nI 6) * (τ.1 140 14)).toNatClampNeg) a2).1 140 8)).1 140 9)).1 140 10)) 144 ((((nI 6) * (τ.1 140 14)) + (nI 4)).toNatClampNeg) ((am_si (am_si (am_si (am_si τ 144 (((nI 6) * (τ.1 140 14)).toNatClampNeg) a2) 144 ((((nI 6) * (τ.1 140 14)) + (nI 1)).toNatClampNeg) ((am_si τ 144 (((nI 6) * (τ.1 140 14)).toNatClampNeg) a2).1 140 8)) 144 ((((nI 6) * (τ.1 140 14)) + (nI 2)).toNatClampNeg) ((am_si (am_si τ 144 (((nI 6) * (τ.1 140 14)).toNatClampNeg) a2) 144 ((((nI 6) * (τ.1 140 14)) + (nI 1)).toNatClampNeg) ((am_si τ 144 (((nI 6) * (τ.1 140 14)).toNatClampNeg) a2).1 140 8)).1 140 9)) 144 ((((nI 6) * (τ.1 140 14)) + (nI 3)).toNatClampNeg) ((am_si (am_si (am_si τ 144 (((nI 6) * (τ.1 140 14)).toNatClampNeg) a2) 144 ((((nI 6) * (τ.1 140 14)) + (nI 1)).toNatClampNeg) ((am_si τ 144 (((nI 6) * (τ.1 140 14)).toNatClampNeg) a2).1 140 8)) 144 ((((nI 6) * (τ.1 140 14)) + (nI 2)).toNatClampNeg) ((am_si (am_si τ 144 (((nI 6) * (τ.1 140 14)).toNatClampNeg) a2) 144 ((((nI 6) * (τ.1 140 14)) + (nI 1)).toNatClampNeg) ((am_si τ 144 (((nI 6) * (τ.1 140 14)).toNatClampNeg) a2).1 140 8)).1 140 9)).1 140 10)).1 140 11)))) hF t_s_M_tellClause_12 rfl rfl ?_
    refine am_pick [1] rfl ?_
    exact ok_M_tellClause_154 hF hR hB h
  · refine am_if_eq_f (t := 153) d_X12_tellClause_146 (by decide) hc hF ?_
    refine am_seg s_M_tellClause_14 (y := (154, [(3, .int ((nI 6) * (τ.1 140 14))), (0, .ref 140), (2, .int a2)], [.int (nI 1), .int (((nI 6) * (τ.1 140 14)) + (nI 5)), .ref 144], am_D (am_si (am_si (am_si (am_si (am_si τ 144 (((nI 6) * (τ.1 140 14)).toNatClampNeg) a2) 144 ((((nI 6) * (τ.1 140 14)) + (nI 1)).toNatClampNeg) ((am_si τ 144 (((nI 6) * (τ.1 140 14)).toNatClampNeg) a2).1 140 8)) 144 ((((nI 6) * (τ.1 140 14)) + (nI 2)).toNatClampNeg) ((am_si (am_si τ 144 (((nI 6) * (τ.1 140 14)).toNatClampNeg) a2) 144 ((((nI 6) * (τ.1 140 14)) + (nI 1)).toNatClampNeg) ((am_si τ 144 (((nI 6) * (τ.1 140 14)).toNatClampNeg) a2).1 140 8)).1 140 9)) 144 ((((nI 6) * (τ.1 140 14)) + (nI 3)).toNatClampNeg) ((am_si (am_si (am_si τ 144 (((nI 6) * (τ.1 140 14)).toNatClampNeg) a2) 144 ((((nI 6) * (τ.1 140 14)) + (nI 1)).toNatClampNeg) ((am_si τ 144 (((nI 6) * (τ.1 140 14)).toNatClampNeg) a2).1 140 8)) 144 ((((nI 6) * (τ.1 140 14)) + (nI 2)).toNatClampNeg) ((am_si (am_si τ 144 (((nI 6) * (τ.1 140 14)).toNatClampNeg) a2) 144 ((((nI 6) * (τ.1 140 14)) + (nI 1)).toNatClampNeg) ((am_si τ 144 (((nI 6) * (τ.1 140 14)).toNatClampNeg) a2).1 140 8)).1 140 9)).1 140 10)) 144 ((((nI 6) * (τ.1 140 14)) + (nI 4)).toNatClampNeg) ((am_si (am_si (am_si (am_si τ 144 (((nI 6) * (τ.1 140 14)).toNatClampNeg) a2) 144 ((((nI 6) * (τ.1 140 14)) + (nI 1)).toNatClampNeg) ((am_si τ 144 (((nI 6) * (τ.1 140 14)).toNatClampNeg) a2).1 140 8)) 144 ((((nI 6) * (τ.1 140 14)) + (nI 2)).toNatClampNeg) ((am_si (am_si τ 144 (((nI 6) * (τ.1 140 14)).toNatClampNeg) a2) 144 ((((nI 6) * (τ.1 140 14)) + (nI 1)).toNatClampNeg) ((am_si τ 144 (((nI 6) * (τ.1 140 14)).toNatClampNeg) a2).1 140 8)).1 140 9)) 144 ((((nI 6) * (τ.1 140 14)) + (nI 3)).toNatClampNeg) ((am_si (am_si (am_si τ 144 (((nI 6) * (τ.1 140 14)).toNatClampNeg) a2) 144 ((((nI 6) * (τ.1 140 14)) + (nI 1)).toNatClampNeg) ((am_si τ 144 (((nI 6) * (τ.1 140 14)).toNatClampNeg) a2).1 140 8)) 144 ((((nI 6) * (τ.1 140 14)) + (nI 2)).toNatClampNeg) ((am_si (am_si τ 144 (((nI 6) * (τ.1 140 14)).toNatClampNeg) a2) 144 ((((nI 6) * (τ.1 140 14)) + (nI 1)).toNatClampNeg) ((am_si τ 144 (((nI 6) * (τ.1 140 14)).toNatClampNeg) a2).1 140 8)).1 140 9)).1 140 10)).1 140 11)))) hF t_s_M_tellClause_14 rfl rfl ?_
    refine am_pick [1] rfl ?_
    exact ok_M_tellClause_154 hF hR hB h
def M_tellClause_57 (τ : am_T) (a2 : Int32) : Option (am_T) :=
  if 0 ≤ (τ.1 140 7) then
  (M_tellClause_72 τ a2)
else
  ((M_must τ (lN 59) (nI 1)).bind (fun x2 =>
  M_tellClause_72 x2 a2))
set_option maxRecDepth 20000 in
theorem ok_M_tellClause_57 {X : am_X} {τ' : am_T} (hF : am_F X "ShareHouseModel" cX12_tellClause 4) (hR : am_R X 7 157) (hB : am_B X none none (am_D τ')) {τ : am_T} {a2 : Int32} (h : M_tellClause_57 τ a2 = some τ') : am_W X 4 (57, [(0, .ref 140), (2, .int a2)], [], am_D τ) := by
  unfold M_tellClause_57 at h
  refine am_seg s_M_tellClause_5 (y := (61, [(0, .ref 140), (2, .int a2)], [.int (τ.1 140 7)], am_D τ)) hF t_s_M_tellClause_5 rfl rfl ?_
  refine am_ite h (fun hc h => ?_) (fun hc h => ?_)
  · refine am_if_ge_t (t := 72) d_X12_tellClause_61 (by decide) hc hF ?_
    exact ok_M_tellClause_72 hF hR hB h
  · refine am_if_ge_f (t := 72) d_X12_tellClause_61 (by decide) hc hF ?_
    refine am_seg s_M_tellClause_15 (y := (69, [(0, .ref 140), (2, .int a2)], [.int (nI 1), .long (lN 59), .ref 140], am_D τ)) hF t_s_M_tellClause_15 rfl rfl ?_
    refine am_bd h (fun x2 hx h => ?_)
    refine am_callV (As := [.long (lN 59), .int (nI 1)]) (r := none) (st := []) (σ' := am_D x2) (ci := 12) hF hR d_X12_tellClause_69 (c_M_must (τ' := x2) hx) (Nat.le_refl _) (Nat.le_refl _) wl_M_135 wi_yX12_must we_yX12_must wn_ShareHouseModel wc_yX12_must (Nat.le_of_ble_eq_true rfl) (Nat.le_of_ble_eq_true rfl) rfl rfl wy_yX12_must rfl ⟨by decide, by decide⟩ (Nat.le_of_ble_eq_true rfl) ?_
    exact ok_M_tellClause_72 hF hR hB h
def M_tellClause_45 (τ : am_T) (a1 : Int32) (a2 : Int32) : Option (am_T) :=
  if 0 ≤ (τ.1 140 7) then
  (M_tellClause_57 τ a2)
else
  ((M_cond τ a1).bind (fun x3 =>
  M_tellClause_57 x3 a2))
set_option maxRecDepth 20000 in
theorem ok_M_tellClause_45 {X : am_X} {τ' : am_T} (hF : am_F X "ShareHouseModel" cX12_tellClause 4) (hR : am_R X 7 157) (hB : am_B X none none (am_D τ')) {τ : am_T} {a1 : Int32} {a2 : Int32} (h : M_tellClause_45 τ a1 a2 = some τ') : am_W X 4 (45, [(0, .ref 140), (1, .int a1), (2, .int a2)], [], am_D τ) := by
  unfold M_tellClause_45 at h
  refine am_seg s_M_tellClause_4 (y := (49, [(0, .ref 140), (1, .int a1), (2, .int a2)], [.int (τ.1 140 7)], am_D τ)) hF t_s_M_tellClause_4 rfl rfl ?_
  refine am_ite h (fun hc h => ?_) (fun hc h => ?_)
  · refine am_if_ge_t (t := 57) d_X12_tellClause_49 (by decide) hc hF ?_
    refine am_pick [0, 2] rfl ?_
    exact ok_M_tellClause_57 hF hR hB h
  · refine am_if_ge_f (t := 57) d_X12_tellClause_49 (by decide) hc hF ?_
    refine am_seg s_M_tellClause_16 (y := (54, [(0, .ref 140), (1, .int a1), (2, .int a2)], [.int a1, .ref 140], am_D τ)) hF t_s_M_tellClause_16 rfl rfl ?_
    refine am_bd h (fun x3 hx h => ?_)
    refine am_callV (As := [.int a1]) (r := none) (st := []) (σ' := am_D x3) (ci := 12) hF hR d_X12_tellClause_54 (c_M_cond (τ' := x3) hx) (Nat.le_refl _) (Nat.le_refl _) wl_M_173 wi_yX12_cond we_yX12_cond wn_ShareHouseModel wc_yX12_cond (Nat.le_of_ble_eq_true rfl) (Nat.le_of_ble_eq_true rfl) rfl rfl wy_yX12_cond rfl ⟨by decide, by decide⟩ (Nat.le_of_ble_eq_true rfl) ?_
    refine am_pick [0, 2] rfl ?_
    exact ok_M_tellClause_57 hF hR hB h
def M_tellClause_34 (τ : am_T) (a1 : Int32) (a2 : Int32) : Option (am_T) :=
  if 0 ≤ (τ.1 140 7) then
  (M_tellClause_45 τ a1 a2)
else
  ((M_tellShare τ).bind (fun x4 =>
  M_tellClause_45 x4 a1 a2))
set_option maxRecDepth 20000 in
theorem ok_M_tellClause_34 {X : am_X} {τ' : am_T} (hF : am_F X "ShareHouseModel" cX12_tellClause 4) (hR : am_R X 7 157) (hB : am_B X none none (am_D τ')) {τ : am_T} {a1 : Int32} {a2 : Int32} (h : M_tellClause_34 τ a1 a2 = some τ') : am_W X 4 (34, [(0, .ref 140), (1, .int a1), (2, .int a2)], [], am_D τ) := by
  unfold M_tellClause_34 at h
  refine am_seg s_M_tellClause_3 (y := (38, [(0, .ref 140), (1, .int a1), (2, .int a2)], [.int (τ.1 140 7)], am_D τ)) hF t_s_M_tellClause_3 rfl rfl ?_
  refine am_ite h (fun hc h => ?_) (fun hc h => ?_)
  · refine am_if_ge_t (t := 45) d_X12_tellClause_38 (by decide) hc hF ?_
    exact ok_M_tellClause_45 hF hR hB h
  · refine am_if_ge_f (t := 45) d_X12_tellClause_38 (by decide) hc hF ?_
    refine am_seg s_M_tellClause_17 (y := (42, [(0, .ref 140), (1, .int a1), (2, .int a2)], [.ref 140], am_D τ)) hF t_s_M_tellClause_17 rfl rfl ?_
    refine am_bd h (fun x4 hx h => ?_)
    refine am_callV (As := []) (r := none) (st := []) (σ' := am_D x4) (ci := 12) hF hR d_X12_tellClause_42 (c_M_tellShare (τ' := x4) hx) (Nat.le_refl _) (Nat.le_refl _) wl_M_170 wi_yX12_tellShare we_yX12_tellShare wn_ShareHouseModel wc_yX12_tellShare (Nat.le_of_ble_eq_true rfl) (Nat.le_of_ble_eq_true rfl) rfl rfl wy_yX12_tellShare rfl ⟨by decide, by decide⟩ (Nat.le_of_ble_eq_true rfl) ?_
    exact ok_M_tellClause_45 hF hR hB h
def M_tellClause (τ : am_T) (a1 : Int32) : Option (am_T) :=
  if (τ.1 140 14) = (nI 12) then
  ((M_bad τ).bind (fun x6 =>
  some x6))
else
  ((M_heads τ).bind (fun x1 =>
  if 0 ≤ (x1.2.1 140 7) then
  (M_tellClause_34 x1.2 a1 x1.1)
else
  ((M_must x1.2 (lN 1885436275) (nI 4)).bind (fun x5 =>
  M_tellClause_34 x5 a1 x1.1))))
set_option maxRecDepth 20000 in
theorem ok_M_tellClause {X : am_X} {a1 : Int32} {τ τ' : am_T} (hF : am_F X "ShareHouseModel" cX12_tellClause 4) (hR : am_R X 7 157) (hB : am_B X none none (am_D τ')) (h : M_tellClause τ a1 = some τ') : am_W X 4 (0, [(0, .ref 140), (1, .int a1)], [], am_D τ) := by
  unfold M_tellClause at h
  refine am_seg s_M_tellClause_0 (y := (6, [(0, .ref 140), (1, .int a1)], [.int (nI 12), .int (τ.1 140 14)], am_D τ)) hF t_s_M_tellClause_0 rfl rfl ?_
  refine am_ite h (fun hc h => ?_) (fun hc h => ?_)
  · refine am_icmp_ne_f (t := 14) d_X12_tellClause_6 (by decide) hc hF ?_
    refine am_seg s_M_tellClause_19 (y := (10, [(0, .ref 140), (1, .int a1)], [.ref 140], am_D τ)) hF t_s_M_tellClause_19 rfl rfl ?_
    refine am_bd h (fun x6 hx h => ?_)
    refine am_callV (As := []) (r := none) (st := []) (σ' := am_D x6) (ci := 12) hF hR d_X12_tellClause_10 (c_M_bad (τ' := x6) hx) (Nat.le_refl _) (Nat.le_refl _) wl_M_86 wi_yX12_bad we_yX12_bad wn_ShareHouseModel wc_yX12_bad (Nat.le_of_ble_eq_true rfl) (Nat.le_of_ble_eq_true rfl) rfl rfl wy_yX12_bad rfl ⟨by decide, by decide⟩ (Nat.le_of_ble_eq_true rfl) ?_
    obtain rfl := am_one h
    exact am_vret d_X12_tellClause_13 hF hB
  · refine am_icmp_ne_t (t := 14) d_X12_tellClause_6 (by decide) hc hF ?_
    refine am_seg s_M_tellClause_1 (y := (15, [(0, .ref 140), (1, .int a1)], [.ref 140], am_D τ)) hF t_s_M_tellClause_1 rfl rfl ?_
    refine am_bd h (fun x1 hx h => ?_)
    refine am_callV (As := []) (r := (some (.int x1.1))) (st := []) (σ' := am_D x1.2) (ci := 12) hF hR d_X12_tellClause_15 (c_M_heads (τ' := x1.2) hx) (Nat.le_refl _) (Nat.le_refl _) wl_M_165 wi_yX12_heads we_yX12_heads wn_ShareHouseModel wc_yX12_heads (Nat.le_of_ble_eq_true rfl) (Nat.le_of_ble_eq_true rfl) rfl rfl wy_yX12_heads rfl ⟨by decide, by decide⟩ (Nat.le_of_ble_eq_true rfl) ?_
    refine am_seg s_M_tellClause_2 (y := (23, [(2, .int x1.1), (0, .ref 140), (1, .int a1)], [.int (x1.2.1 140 7)], am_D x1.2)) hF t_s_M_tellClause_2 rfl rfl ?_
    refine am_ite h (fun hc h => ?_) (fun hc h => ?_)
    · refine am_if_ge_t (t := 34) d_X12_tellClause_23 (by decide) hc hF ?_
      refine am_pick [1, 2, 0] rfl ?_
      exact ok_M_tellClause_34 hF hR hB h
    · refine am_if_ge_f (t := 34) d_X12_tellClause_23 (by decide) hc hF ?_
      refine am_seg s_M_tellClause_18 (y := (31, [(2, .int x1.1), (0, .ref 140), (1, .int a1)], [.int (nI 4), .long (lN 1885436275), .ref 140], am_D x1.2)) hF t_s_M_tellClause_18 rfl rfl ?_
      refine am_bd h (fun x5 hx h => ?_)
      refine am_callV (As := [.long (lN 1885436275), .int (nI 4)]) (r := none) (st := []) (σ' := am_D x5) (ci := 12) hF hR d_X12_tellClause_31 (c_M_must (τ' := x5) hx) (Nat.le_refl _) (Nat.le_refl _) wl_M_135 wi_yX12_must we_yX12_must wn_ShareHouseModel wc_yX12_must (Nat.le_of_ble_eq_true rfl) (Nat.le_of_ble_eq_true rfl) rfl rfl wy_yX12_must rfl ⟨by decide, by decide⟩ (Nat.le_of_ble_eq_true rfl) ?_
      refine am_pick [1, 2, 0] rfl ?_
      exact ok_M_tellClause_34 hF hR hB h
theorem c_M_tellClause {a1 : Int32} {τ τ' : am_T} (h : M_tellClause τ a1 = some τ') : am_C yX12_tellClause cX12_tellClause 4 none 7 157 [.ref 140, .int a1] (am_D τ) none (am_D τ') :=
  am_enter (by decide +kernel) (Nat.le_of_ble_eq_true rfl) ⟨Nat.le_refl _, Nat.le_refl _⟩ (fun X hF hR hB => ok_M_tellClause hF hR hB h)
def s_M_lease_0 : List am_Q := [(0, .aload_n 0, 0, 0, 0, .null), (1, .iload_n 1, 0, 0, 0, .null)]
theorem t_s_M_lease_0 : s_M_lease_0.all (am_ok 12 cX12_lease) = true := by decide +kernel
theorem d_X12_lease_2 : decode cX12_lease 2 = .ok (.invokevirtual 179, 3) := by decide +kernel
theorem d_X12_lease_5 : decode cX12_lease 5 = .ok (.ifCond .ne 10, 3) := by decide +kernel
def s_M_lease_1 : List am_Q := [(15, .aload_n 0, 0, 0, 0, .null), (16, .iconst 0, 0, 0, 0, .int (nI 0)), (17, .putfield 60, 12, 6, 158, .null), (20, .aload_n 0, 0, 0, 0, .null), (21, .iconst (-1), 0, 0, 0, .int (-1 : Int32)), (22, .putfield 73, 12, 7, 159, .null), (25, .aload_n 0, 0, 0, 0, .null), (26, .iconst 0, 0, 0, 0, .int (nI 0)), (27, .putfield 162, 12, 14, 166, .null), (30, .aload_n 0, 0, 0, 0, .null)]
theorem t_s_M_lease_1 : s_M_lease_1.all (am_ok 12 cX12_lease) = true := by decide +kernel
theorem d_X12_lease_31 : decode cX12_lease 31 = .ok (.invokevirtual 80, 3) := by decide +kernel
def s_M_lease_2 : List am_Q := [(34, .aload_n 0, 0, 0, 0, .null), (35, .getfield 73, 12, 7, 159, .null)]
theorem t_s_M_lease_2 : s_M_lease_2.all (am_ok 12 cX12_lease) = true := by decide +kernel
theorem d_X12_lease_38 : decode cX12_lease 38 = .ok (.ifCond .ge 22, 3) := by decide +kernel
def s_M_lease_3 : List am_Q := [(60, .aload_n 0, 0, 0, 0, .null), (61, .iconst 0, 0, 0, 0, .int (nI 0)), (62, .putfield 55, 12, 4, 156, .null), (65, .aload_n 0, 0, 0, 0, .null), (66, .getfield 73, 12, 7, 159, .null)]
theorem t_s_M_lease_3 : s_M_lease_3.all (am_ok 12 cX12_lease) = true := by decide +kernel
theorem d_X12_lease_69 : decode cX12_lease 69 = .ok (.ifCond .lt 11, 3) := by decide +kernel
def s_M_lease_4 : List am_Q := [(80, .iconst 0, 0, 0, 0, .int (nI 0)), (81, .istore_n 2, 0, 0, 0, .null)]
theorem t_s_M_lease_4 : s_M_lease_4.all (am_ok 12 cX12_lease) = true := by decide +kernel
def s_M_lease_5 : List am_Q := [(82, .iload_n 2, 0, 0, 0, .null), (83, .bipush 6, 0, 0, 0, .int (nI 6)), (85, .aload_n 0, 0, 0, 0, .null), (86, .getfield 162, 12, 14, 166, .null), (89, .imul, 0, 0, 0, .null)]
theorem t_s_M_lease_5 : s_M_lease_5.all (am_ok 12 cX12_lease) = true := by decide +kernel
theorem d_X12_lease_90 : decode cX12_lease 90 = .ok (.if_icmp .ge 29, 3) := by decide +kernel
def s_M_lease_6 : List am_Q := [(119, .aload_n 0, 0, 0, 0, .null), (120, .getfield 7, 12, 0, 152, .null), (123, .bipush 22, 0, 0, 0, .int (nI 22)), (125, .iconst 4, 0, 0, 0, .int (nI 4)), (126, .iload_n 1, 0, 0, 0, .null), (127, .imul, 0, 0, 0, .null), (128, .iadd, 0, 0, 0, .null), (129, .iconst 3, 0, 0, 0, .int (nI 3)), (130, .iadd, 0, 0, 0, .null), (131, .aload_n 0, 0, 0, 0, .null), (132, .getfield 162, 12, 14, 166, .null)]
theorem t_s_M_lease_6 : s_M_lease_6.all (am_ok 12 cX12_lease) = true := by decide +kernel
theorem d_X12_lease_135 : decode cX12_lease 135 = .ok (.iastore, 1) := by decide +kernel
def s_M_lease_7 : List am_Q := [(136, .aload_n 0, 0, 0, 0, .null), (137, .getfield 162, 12, 14, 166, .null)]
theorem t_s_M_lease_7 : s_M_lease_7.all (am_ok 12 cX12_lease) = true := by decide +kernel
theorem d_X12_lease_140 : decode cX12_lease 140 = .ok (.ireturn, 1) := by decide +kernel
def s_M_lease_8 : List am_Q := [(93, .aload_n 0, 0, 0, 0, .null), (94, .getfield 7, 12, 0, 152, .null), (97, .bipush 54, 0, 0, 0, .int (nI 54)), (99, .bipush 72, 0, 0, 0, .int (nI 72)), (101, .iload_n 1, 0, 0, 0, .null), (102, .imul, 0, 0, 0, .null), (103, .iadd, 0, 0, 0, .null), (104, .iload_n 2, 0, 0, 0, .null), (105, .iadd, 0, 0, 0, .null), (106, .aload_n 0, 0, 0, 0, .null), (107, .getfield 19, 12, 13, 165, .null), (110, .iload_n 2, 0, 0, 0, .null)]
theorem t_s_M_lease_8 : s_M_lease_8.all (am_ok 12 cX12_lease) = true := by decide +kernel
theorem d_X12_lease_111 : decode cX12_lease 111 = .ok (.iaload, 1) := by decide +kernel
theorem d_X12_lease_112 : decode cX12_lease 112 = .ok (.iastore, 1) := by decide +kernel
def s_M_lease_9 : List am_Q := [(113, .iinc 2 1, 0, 0, 0, .int (nI 1)), (116, .goto (-34), 82, 0, 0, .null)]
theorem t_s_M_lease_9 : s_M_lease_9.all (am_ok 12 cX12_lease) = true := by decide +kernel
def s_M_lease_10 : List am_Q := [(72, .bipush (-100), 0, 0, 0, .int (-100 : Int32)), (74, .aload_n 0, 0, 0, 0, .null), (75, .getfield 73, 12, 7, 159, .null), (78, .isub, 0, 0, 0, .null)]
theorem t_s_M_lease_10 : s_M_lease_10.all (am_ok 12 cX12_lease) = true := by decide +kernel
theorem d_X12_lease_79 : decode cX12_lease 79 = .ok (.ireturn, 1) := by decide +kernel
def s_M_lease_11 : List am_Q := [(41, .aload_n 0, 0, 0, 0, .null), (42, .getfield 63, 12, 5, 157, .null), (45, .aload_n 0, 0, 0, 0, .null), (46, .getfield 55, 12, 4, 156, .null)]
theorem t_s_M_lease_11 : s_M_lease_11.all (am_ok 12 cX12_lease) = true := by decide +kernel
theorem d_X12_lease_49 : decode cX12_lease 49 = .ok (.if_icmp .ge 11, 3) := by decide +kernel
def s_M_lease_12 : List am_Q := [(52, .aload_n 0, 0, 0, 0, .null), (53, .iload_n 1, 0, 0, 0, .null)]
theorem t_s_M_lease_12 : s_M_lease_12.all (am_ok 12 cX12_lease) = true := by decide +kernel
theorem d_X12_lease_54 : decode cX12_lease 54 = .ok (.invokevirtual 182, 3) := by decide +kernel
def s_M_lease_13 : List am_Q := [(57, .goto (-23), 34, 0, 0, .null)]
theorem t_s_M_lease_13 : s_M_lease_13.all (am_ok 12 cX12_lease) = true := by decide +kernel
def s_M_lease_14 : List am_Q := [(8, .aload_n 0, 0, 0, 0, .null), (9, .iconst 0, 0, 0, 0, .int (nI 0)), (10, .putfield 55, 12, 4, 156, .null), (13, .iconst (-1), 0, 0, 0, .int (-1 : Int32))]
theorem t_s_M_lease_14 : s_M_lease_14.all (am_ok 12 cX12_lease) = true := by decide +kernel
theorem d_X12_lease_14 : decode cX12_lease 14 = .ok (.ireturn, 1) := by decide +kernel
def M_lease_82 : Nat → am_T → Int32 → Int32 → Option (Int32 × am_T)
  | 0, _, _, _ => none
  | n + 1, τ, a1, a2 =>
    if ((nI 6) * (τ.1 140 14)) ≤ a2 then
  (am_g (am_in (((nI 22) + ((nI 4) * a1)) + (nI 3)) 1060) (some (((am_si τ 141 ((((nI 22) + ((nI 4) * a1)) + (nI 3)).toNatClampNeg) (τ.1 140 14)).1 140 14), (am_si τ 141 ((((nI 22) + ((nI 4) * a1)) + (nI 3)).toNatClampNeg) (τ.1 140 14)))))
else
  (am_g (am_in a2 72) (am_g (am_in (((nI 54) + ((nI 72) * a1)) + a2) 1060) ((M_lease_82 n) (am_si τ 141 ((((nI 54) + ((nI 72) * a1)) + a2).toNatClampNeg) (τ.1 144 (a2.toNatClampNeg))) a1 (a2 + (nI 1)))))
set_option maxRecDepth 20000 in
theorem ok_M_lease_82 {X : am_X} {v : Int32} {τ' : am_T} (hF : am_F X "ShareHouseModel" cX12_lease 3) (hR : am_R X 8 180) (hB : am_B X (some .int) (some (.int v)) (am_D τ')) : ∀ (n : Nat) (τ : am_T) (a1 : Int32) (a2 : Int32), M_lease_82 n τ a1 a2 = some (v, τ') → am_W X 3 (82, [(0, .ref 140), (1, .int a1), (2, .int a2)], [], am_D τ) := by
  intro n
  induction n with
  | zero => intro τ a1 a2 h; unfold M_lease_82 at h; cases h
  | succ n ih =>
    intro τ a1 a2 h
    unfold M_lease_82 at h
    refine am_seg s_M_lease_5 (y := (90, [(0, .ref 140), (1, .int a1), (2, .int a2)], [.int ((nI 6) * (τ.1 140 14)), .int a2], am_D τ)) hF t_s_M_lease_5 rfl rfl ?_
    refine am_ite h (fun hc h => ?_) (fun hc h => ?_)
    · refine am_icmp_ge_t (t := 119) d_X12_lease_90 (by decide) hc hF ?_
      refine am_seg s_M_lease_6 (y := (135, [(0, .ref 140), (1, .int a1), (2, .int a2)], [.int (τ.1 140 14), .int (((nI 22) + ((nI 4) * a1)) + (nI 3)), .ref 141], am_D τ)) hF t_s_M_lease_6 rfl rfl ?_
      refine am_gd h (fun hi h => ?_)
      refine am_iast (n := 1060) (j := ((((nI 22) + ((nI 4) * a1)) + (nI 3)).toNatClampNeg)) d_X12_lease_135 (Nat.le_of_ble_eq_true rfl) (Nat.le_of_ble_eq_true rfl) rfl hi rfl hF ?_
      refine am_seg s_M_lease_7 (y := (140, [(0, .ref 140), (1, .int a1), (2, .int a2)], [.int ((am_si τ 141 ((((nI 22) + ((nI 4) * a1)) + (nI 3)).toNatClampNeg) (τ.1 140 14)).1 140 14)], am_D (am_si τ 141 ((((nI 22) + ((nI 4) * a1)) + (nI 3)).toNatClampNeg) (τ.1 140 14)))) hF t_s_M_lease_7 rfl rfl ?_
      obtain ⟨rfl, rfl⟩ := am_pair h
      exact am_iret d_X12_lease_140 hF hB
    · refine am_icmp_ge_f (t := 119) d_X12_lease_90 (by decide) hc hF ?_
      refine am_seg s_M_lease_8 (y := (111, [(0, .ref 140), (1, .int a1), (2, .int a2)], [.int a2, .ref 144, .int (((nI 54) + ((nI 72) * a1)) + a2), .ref 141], am_D τ)) hF t_s_M_lease_8 rfl rfl ?_
      refine am_gd h (fun hi h => ?_)
      refine am_iald (n := 72) (j := (a2.toNatClampNeg)) d_X12_lease_111 (Nat.le_of_ble_eq_true rfl) (Nat.le_of_ble_eq_true rfl) rfl hi rfl hF ?_
      refine am_gd h (fun hi h => ?_)
      refine am_iast (n := 1060) (j := ((((nI 54) + ((nI 72) * a1)) + a2).toNatClampNeg)) d_X12_lease_112 (Nat.le_of_ble_eq_true rfl) (Nat.le_of_ble_eq_true rfl) rfl hi rfl hF ?_
      refine am_seg s_M_lease_9 (y := (82, [(2, .int (a2 + (nI 1))), (0, .ref 140), (1, .int a1)], [], am_D (am_si τ 141 ((((nI 54) + ((nI 72) * a1)) + a2).toNatClampNeg) (τ.1 144 (a2.toNatClampNeg))))) hF t_s_M_lease_9 rfl rfl ?_
      refine am_pick [1, 2, 0] rfl ?_
      exact ih _ _ _ h
def M_lease_60 (τ : am_T) (a1 : Int32) : Option (Int32 × am_T) :=
  if ((am_si τ 140 4 (nI 0)).1 140 7) < 0 then
  (M_lease_82 5000 (am_si τ 140 4 (nI 0)) a1 (nI 0))
else
  (some (((-100 : Int32) - ((am_si τ 140 4 (nI 0)).1 140 7)), (am_si τ 140 4 (nI 0))))
set_option maxRecDepth 20000 in
theorem ok_M_lease_60 {X : am_X} {v : Int32} {τ' : am_T} (hF : am_F X "ShareHouseModel" cX12_lease 3) (hR : am_R X 8 180) (hB : am_B X (some .int) (some (.int v)) (am_D τ')) {τ : am_T} {a1 : Int32} (h : M_lease_60 τ a1 = some (v, τ')) : am_W X 3 (60, [(0, .ref 140), (1, .int a1)], [], am_D τ) := by
  unfold M_lease_60 at h
  refine am_seg s_M_lease_3 (y := (69, [(0, .ref 140), (1, .int a1)], [.int ((am_si τ 140 4 (nI 0)).1 140 7)], am_D (am_si τ 140 4 (nI 0)))) hF t_s_M_lease_3 rfl rfl ?_
  refine am_ite h (fun hc h => ?_) (fun hc h => ?_)
  · refine am_if_lt_t (t := 80) d_X12_lease_69 (by decide) hc hF ?_
    refine am_seg s_M_lease_4 (y := (82, [(2, .int (nI 0)), (0, .ref 140), (1, .int a1)], [], am_D (am_si τ 140 4 (nI 0)))) hF t_s_M_lease_4 rfl rfl ?_
    refine am_pick [1, 2, 0] rfl ?_
    exact ok_M_lease_82 hF hR hB _ _ _ _ h
  · refine am_if_lt_f (t := 80) d_X12_lease_69 (by decide) hc hF ?_
    refine am_seg s_M_lease_10 (y := (79, [(0, .ref 140), (1, .int a1)], [.int ((-100 : Int32) - ((am_si τ 140 4 (nI 0)).1 140 7))], am_D (am_si τ 140 4 (nI 0)))) hF t_s_M_lease_10 rfl rfl ?_
    obtain ⟨rfl, rfl⟩ := am_pair h
    exact am_iret d_X12_lease_79 hF hB
def M_lease_34 : Nat → am_T → Int32 → Option (Int32 × am_T)
  | 0, _, _ => none
  | n + 1, τ, a1 =>
    if 0 ≤ (τ.1 140 7) then
  (M_lease_60 τ a1)
else
  (if (τ.1 140 4) ≤ (τ.1 140 5) then
  (M_lease_60 τ a1)
else
  ((M_tellClause τ a1).bind (fun x3 =>
  (M_lease_34 n) x3 a1)))
set_option maxRecDepth 20000 in
theorem ok_M_lease_34 {X : am_X} {v : Int32} {τ' : am_T} (hF : am_F X "ShareHouseModel" cX12_lease 3) (hR : am_R X 8 180) (hB : am_B X (some .int) (some (.int v)) (am_D τ')) : ∀ (n : Nat) (τ : am_T) (a1 : Int32), M_lease_34 n τ a1 = some (v, τ') → am_W X 3 (34, [(0, .ref 140), (1, .int a1)], [], am_D τ) := by
  intro n
  induction n with
  | zero => intro τ a1 h; unfold M_lease_34 at h; cases h
  | succ n ih =>
    intro τ a1 h
    unfold M_lease_34 at h
    refine am_seg s_M_lease_2 (y := (38, [(0, .ref 140), (1, .int a1)], [.int (τ.1 140 7)], am_D τ)) hF t_s_M_lease_2 rfl rfl ?_
    refine am_ite h (fun hc h => ?_) (fun hc h => ?_)
    · refine am_if_ge_t (t := 60) d_X12_lease_38 (by decide) hc hF ?_
      exact ok_M_lease_60 hF hR hB h
    · refine am_if_ge_f (t := 60) d_X12_lease_38 (by decide) hc hF ?_
      refine am_seg s_M_lease_11 (y := (49, [(0, .ref 140), (1, .int a1)], [.int (τ.1 140 4), .int (τ.1 140 5)], am_D τ)) hF t_s_M_lease_11 rfl rfl ?_
      refine am_ite h (fun hc h => ?_) (fun hc h => ?_)
      · refine am_icmp_ge_t (t := 60) d_X12_lease_49 (by decide) hc hF ?_
        exact ok_M_lease_60 hF hR hB h
      · refine am_icmp_ge_f (t := 60) d_X12_lease_49 (by decide) hc hF ?_
        refine am_seg s_M_lease_12 (y := (54, [(0, .ref 140), (1, .int a1)], [.int a1, .ref 140], am_D τ)) hF t_s_M_lease_12 rfl rfl ?_
        refine am_bd h (fun x3 hx h => ?_)
        refine am_callV (As := [.int a1]) (r := none) (st := []) (σ' := am_D x3) (ci := 12) hF hR d_X12_lease_54 (c_M_tellClause (τ' := x3) hx) (Nat.le_refl _) (Nat.le_refl _) wl_M_182 wi_yX12_tellClause we_yX12_tellClause wn_ShareHouseModel wc_yX12_tellClause (Nat.le_of_ble_eq_true rfl) (Nat.le_of_ble_eq_true rfl) rfl rfl wy_yX12_tellClause rfl ⟨by decide, by decide⟩ (Nat.le_of_ble_eq_true rfl) ?_
        refine am_seg s_M_lease_13 (y := (34, [(0, .ref 140), (1, .int a1)], [], am_D x3)) hF t_s_M_lease_13 rfl rfl ?_
        exact ih _ _ h
def M_lease (τ : am_T) (a1 : Int32) : Option (Int32 × am_T) :=
  (M_isFlat τ a1).bind (fun x1 =>
  if x1.1 = 0 then
  (some ((-1 : Int32), (am_si x1.2 140 4 (nI 0))))
else
  ((M_next (am_si (am_si (am_si x1.2 140 6 (nI 0)) 140 7 (-1 : Int32)) 140 14 (nI 0))).bind (fun x2 =>
  M_lease_34 5000 x2 a1)))
set_option maxRecDepth 20000 in
theorem ok_M_lease {X : am_X} {a1 : Int32} {v : Int32} {τ τ' : am_T} (hF : am_F X "ShareHouseModel" cX12_lease 3) (hR : am_R X 8 180) (hB : am_B X (some .int) (some (.int v)) (am_D τ')) (h : M_lease τ a1 = some (v, τ')) : am_W X 3 (0, [(0, .ref 140), (1, .int a1)], [], am_D τ) := by
  unfold M_lease at h
  refine am_seg s_M_lease_0 (y := (2, [(0, .ref 140), (1, .int a1)], [.int a1, .ref 140], am_D τ)) hF t_s_M_lease_0 rfl rfl ?_
  refine am_bd h (fun x1 hx h => ?_)
  refine am_callV (As := [.int a1]) (r := (some (.int x1.1))) (st := []) (σ' := am_D x1.2) (ci := 12) hF hR d_X12_lease_2 (c_M_isFlat (τ' := x1.2) hx) (Nat.le_refl _) (Nat.le_refl _) wl_M_179 wi_yX12_isFlat we_yX12_isFlat wn_ShareHouseModel wc_yX12_isFlat (Nat.le_of_ble_eq_true rfl) (Nat.le_of_ble_eq_true rfl) rfl rfl wy_yX12_isFlat rfl ⟨by decide, by decide⟩ (Nat.le_of_ble_eq_true rfl) ?_
  refine am_ite h (fun hc h => ?_) (fun hc h => ?_)
  · refine am_if_ne_f (t := 15) d_X12_lease_5 (by decide) hc hF ?_
    refine am_seg s_M_lease_14 (y := (14, [(0, .ref 140), (1, .int a1)], [.int (-1 : Int32)], am_D (am_si x1.2 140 4 (nI 0)))) hF t_s_M_lease_14 rfl rfl ?_
    obtain ⟨rfl, rfl⟩ := am_pair h
    exact am_iret d_X12_lease_14 hF hB
  · refine am_if_ne_t (t := 15) d_X12_lease_5 (by decide) hc hF ?_
    refine am_seg s_M_lease_1 (y := (31, [(0, .ref 140), (1, .int a1)], [.ref 140], am_D (am_si (am_si (am_si x1.2 140 6 (nI 0)) 140 7 (-1 : Int32)) 140 14 (nI 0)))) hF t_s_M_lease_1 rfl rfl ?_
    refine am_bd h (fun x2 hx h => ?_)
    refine am_callV (As := []) (r := none) (st := []) (σ' := am_D x2) (ci := 12) hF hR d_X12_lease_31 (c_M_next (τ' := x2) hx) (Nat.le_refl _) (Nat.le_refl _) wl_M_80 wi_yX12_next we_yX12_next wn_ShareHouseModel wc_yX12_next (Nat.le_of_ble_eq_true rfl) (Nat.le_of_ble_eq_true rfl) rfl rfl wy_yX12_next rfl ⟨by decide, by decide⟩ (Nat.le_of_ble_eq_true rfl) ?_
    exact ok_M_lease_34 hF hR hB _ _ _ h
theorem c_M_lease {a1 : Int32} {v : Int32} {τ τ' : am_T} (h : M_lease τ a1 = some (v, τ')) : am_C yX12_lease cX12_lease 3 (some .int) 8 180 [.ref 140, .int a1] (am_D τ) (some (.int v)) (am_D τ') :=
  am_enter (by decide +kernel) (Nat.le_of_ble_eq_true rfl) ⟨Nat.le_refl _, Nat.le_refl _⟩ (fun X hF hR hB => ok_M_lease hF hR hB h)
def s_M_clauseOf_0 : List am_Q := [(0, .aload_n 0, 0, 0, 0, .null), (1, .getfield 7, 12, 0, 152, .null), (4, .bipush 54, 0, 0, 0, .int (nI 54)), (6, .bipush 72, 0, 0, 0, .int (nI 72)), (8, .iload_n 1, 0, 0, 0, .null), (9, .imul, 0, 0, 0, .null), (10, .iadd, 0, 0, 0, .null), (11, .bipush 6, 0, 0, 0, .int (nI 6)), (13, .iload_n 2, 0, 0, 0, .null), (14, .imul, 0, 0, 0, .null), (15, .iadd, 0, 0, 0, .null), (16, .iload_n 3, 0, 0, 0, .null), (17, .iadd, 0, 0, 0, .null)]
theorem t_s_M_clauseOf_0 : s_M_clauseOf_0.all (am_ok 12 cX12_clauseOf) = true := by decide +kernel
theorem d_X12_clauseOf_18 : decode cX12_clauseOf 18 = .ok (.iaload, 1) := by decide +kernel
theorem d_X12_clauseOf_19 : decode cX12_clauseOf 19 = .ok (.ireturn, 1) := by decide +kernel
def M_clauseOf (τ : am_T) (a1 : Int32) (a2 : Int32) (a3 : Int32) : Option (Int32 × am_T) :=
  am_g (am_in ((((nI 54) + ((nI 72) * a1)) + ((nI 6) * a2)) + a3) 1060) (some ((τ.1 141 (((((nI 54) + ((nI 72) * a1)) + ((nI 6) * a2)) + a3).toNatClampNeg)), τ))
set_option maxRecDepth 20000 in
theorem ok_M_clauseOf {X : am_X} {a1 : Int32} {a2 : Int32} {a3 : Int32} {v : Int32} {τ τ' : am_T} (hF : am_F X "ShareHouseModel" cX12_clauseOf 4) (hR : am_R X 0 0) (hB : am_B X (some .int) (some (.int v)) (am_D τ')) (h : M_clauseOf τ a1 a2 a3 = some (v, τ')) : am_W X 4 (0, [(0, .ref 140), (1, .int a1), (2, .int a2), (3, .int a3)], [], am_D τ) := by
  unfold M_clauseOf at h
  refine am_seg s_M_clauseOf_0 (y := (18, [(0, .ref 140), (1, .int a1), (2, .int a2), (3, .int a3)], [.int ((((nI 54) + ((nI 72) * a1)) + ((nI 6) * a2)) + a3), .ref 141], am_D τ)) hF t_s_M_clauseOf_0 rfl rfl ?_
  refine am_gd h (fun hi h => ?_)
  refine am_iald (n := 1060) (j := (((((nI 54) + ((nI 72) * a1)) + ((nI 6) * a2)) + a3).toNatClampNeg)) d_X12_clauseOf_18 (Nat.le_of_ble_eq_true rfl) (Nat.le_of_ble_eq_true rfl) rfl hi rfl hF ?_
  obtain ⟨rfl, rfl⟩ := am_pair h
  exact am_iret d_X12_clauseOf_19 hF hB
theorem c_M_clauseOf {a1 : Int32} {a2 : Int32} {a3 : Int32} {v : Int32} {τ τ' : am_T} (h : M_clauseOf τ a1 a2 a3 = some (v, τ')) : am_C yX12_clauseOf cX12_clauseOf 4 (some .int) 0 0 [.ref 140, .int a1, .int a2, .int a3] (am_D τ) (some (.int v)) (am_D τ') :=
  am_enter (by decide +kernel) (Nat.le_of_ble_eq_true rfl) ⟨Nat.le_refl _, Nat.le_refl _⟩ (fun X hF hR hB => ok_M_clauseOf hF hR hB h)
def s_M_clause_0 : List am_Q := [(0, .aload_n 0, 0, 0, 0, .null), (1, .iload_n 1, 0, 0, 0, .null)]
theorem t_s_M_clause_0 : s_M_clause_0.all (am_ok 12 cX12_clause) = true := by decide +kernel
theorem d_X12_clause_2 : decode cX12_clause 2 = .ok (.invokevirtual 179, 3) := by decide +kernel
theorem d_X12_clause_5 : decode cX12_clause 5 = .ok (.ifCond .eq 28, 3) := by decide +kernel
def s_M_clause_1 : List am_Q := [(33, .iconst (-1), 0, 0, 0, .int (-1 : Int32))]
theorem t_s_M_clause_1 : s_M_clause_1.all (am_ok 12 cX12_clause) = true := by decide +kernel
theorem d_X12_clause_34 : decode cX12_clause 34 = .ok (.ireturn, 1) := by decide +kernel
def s_M_clause_2 : List am_Q := [(8, .iload_n 2, 0, 0, 0, .null), (9, .iconst 0, 0, 0, 0, .int (nI 0)), (10, .aload_n 0, 0, 0, 0, .null), (11, .iload_n 1, 0, 0, 0, .null), (12, .iconst 3, 0, 0, 0, .int (nI 3))]
theorem t_s_M_clause_2 : s_M_clause_2.all (am_ok 12 cX12_clause) = true := by decide +kernel
theorem d_X12_clause_13 : decode cX12_clause 13 = .ok (.invokevirtual 146, 3) := by decide +kernel
def s_M_clause_3 : List am_Q := [(16, .iconst 1, 0, 0, 0, .int (nI 1)), (17, .isub, 0, 0, 0, .null)]
theorem t_s_M_clause_3 : s_M_clause_3.all (am_ok 12 cX12_clause) = true := by decide +kernel
theorem d_X12_clause_18 : decode cX12_clause 18 = .ok (.invokestatic 51, 3) := by decide +kernel
theorem d_X12_clause_21 : decode cX12_clause 21 = .ok (.ifCond .eq 12, 3) := by decide +kernel
def s_M_clause_4 : List am_Q := [(33, .iconst (-1), 0, 0, 0, .int (-1 : Int32))]
theorem t_s_M_clause_4 : s_M_clause_4.all (am_ok 12 cX12_clause) = true := by decide +kernel
def s_M_clause_5 : List am_Q := [(24, .iload_n 3, 0, 0, 0, .null), (25, .iconst 0, 0, 0, 0, .int (nI 0)), (26, .iconst 5, 0, 0, 0, .int (nI 5))]
theorem t_s_M_clause_5 : s_M_clause_5.all (am_ok 12 cX12_clause) = true := by decide +kernel
theorem d_X12_clause_27 : decode cX12_clause 27 = .ok (.invokestatic 51, 3) := by decide +kernel
theorem d_X12_clause_30 : decode cX12_clause 30 = .ok (.ifCond .ne 5, 3) := by decide +kernel
def s_M_clause_6 : List am_Q := [(35, .aload_n 0, 0, 0, 0, .null), (36, .iload_n 1, 0, 0, 0, .null), (37, .iload_n 2, 0, 0, 0, .null), (38, .iload_n 3, 0, 0, 0, .null)]
theorem t_s_M_clause_6 : s_M_clause_6.all (am_ok 12 cX12_clause) = true := by decide +kernel
theorem d_X12_clause_39 : decode cX12_clause 39 = .ok (.invokevirtual 185, 3) := by decide +kernel
theorem d_X12_clause_42 : decode cX12_clause 42 = .ok (.ireturn, 1) := by decide +kernel
def s_M_clause_7 : List am_Q := [(33, .iconst (-1), 0, 0, 0, .int (-1 : Int32))]
theorem t_s_M_clause_7 : s_M_clause_7.all (am_ok 12 cX12_clause) = true := by decide +kernel
def M_clause (τ : am_T) (a1 : Int32) (a2 : Int32) (a3 : Int32) : Option (Int32 × am_T) :=
  (M_isFlat τ a1).bind (fun x1 =>
  if x1.1 = 0 then
  (some ((-1 : Int32), x1.2))
else
  ((M_flatOf x1.2 a1 (nI 3)).bind (fun x2 =>
  (M_in x2.2 a2 (nI 0) (x2.1 - (nI 1))).bind (fun x3 =>
  if x3.1 = 0 then
  (some ((-1 : Int32), x3.2))
else
  ((M_in x3.2 a3 (nI 0) (nI 5)).bind (fun x4 =>
  if x4.1 = 0 then
  (some ((-1 : Int32), x4.2))
else
  ((M_clauseOf x4.2 a1 a2 a3).bind (fun x5 =>
  some (x5.1, x5.2)))))))))
set_option maxRecDepth 20000 in
theorem ok_M_clause {X : am_X} {a1 : Int32} {a2 : Int32} {a3 : Int32} {v : Int32} {τ τ' : am_T} (hF : am_F X "ShareHouseModel" cX12_clause 4) (hR : am_R X 2 43) (hB : am_B X (some .int) (some (.int v)) (am_D τ')) (h : M_clause τ a1 a2 a3 = some (v, τ')) : am_W X 4 (0, [(0, .ref 140), (1, .int a1), (2, .int a2), (3, .int a3)], [], am_D τ) := by
  unfold M_clause at h
  refine am_seg s_M_clause_0 (y := (2, [(0, .ref 140), (1, .int a1), (2, .int a2), (3, .int a3)], [.int a1, .ref 140], am_D τ)) hF t_s_M_clause_0 rfl rfl ?_
  refine am_bd h (fun x1 hx h => ?_)
  refine am_callV (As := [.int a1]) (r := (some (.int x1.1))) (st := []) (σ' := am_D x1.2) (ci := 12) hF hR d_X12_clause_2 (c_M_isFlat (τ' := x1.2) hx) (Nat.le_refl _) (Nat.le_refl _) wl_M_179 wi_yX12_isFlat we_yX12_isFlat wn_ShareHouseModel wc_yX12_isFlat (Nat.le_of_ble_eq_true rfl) (Nat.le_of_ble_eq_true rfl) rfl rfl wy_yX12_isFlat rfl ⟨by decide, by decide⟩ (Nat.le_of_ble_eq_true rfl) ?_
  refine am_ite h (fun hc h => ?_) (fun hc h => ?_)
  · refine am_if_eq_t (t := 33) d_X12_clause_5 (by decide) hc hF ?_
    refine am_seg s_M_clause_1 (y := (34, [(0, .ref 140), (1, .int a1), (2, .int a2), (3, .int a3)], [.int (-1 : Int32)], am_D x1.2)) hF t_s_M_clause_1 rfl rfl ?_
    obtain ⟨rfl, rfl⟩ := am_pair h
    exact am_iret d_X12_clause_34 hF hB
  · refine am_if_eq_f (t := 33) d_X12_clause_5 (by decide) hc hF ?_
    refine am_seg s_M_clause_2 (y := (13, [(0, .ref 140), (1, .int a1), (2, .int a2), (3, .int a3)], [.int (nI 3), .int a1, .ref 140, .int (nI 0), .int a2], am_D x1.2)) hF t_s_M_clause_2 rfl rfl ?_
    refine am_bd h (fun x2 hx h => ?_)
    refine am_callV (As := [.int a1, .int (nI 3)]) (r := (some (.int x2.1))) (st := [.int (nI 0), .int a2]) (σ' := am_D x2.2) (ci := 12) hF hR d_X12_clause_13 (c_M_flatOf (τ' := x2.2) hx) (Nat.le_refl _) (Nat.le_refl _) wl_M_146 wi_yX12_flatOf we_yX12_flatOf wn_ShareHouseModel wc_yX12_flatOf (Nat.le_of_ble_eq_true rfl) (Nat.le_of_ble_eq_true rfl) rfl rfl wy_yX12_flatOf rfl ⟨by decide, by decide⟩ (Nat.le_of_ble_eq_true rfl) ?_
    refine am_seg s_M_clause_3 (y := (18, [(0, .ref 140), (1, .int a1), (2, .int a2), (3, .int a3)], [.int (x2.1 - (nI 1)), .int (nI 0), .int a2], am_D x2.2)) hF t_s_M_clause_3 rfl rfl ?_
    refine am_bd h (fun x3 hx h => ?_)
    refine am_callS (As := [.int a2, .int (nI 0), .int (x2.1 - (nI 1))]) (r := (some (.int x3.1))) (st := []) (σ' := am_D x3.2) hF hR d_X12_clause_18 (c_M_in (τ' := x3.2) hx) (Nat.le_refl _) (Nat.le_refl _) wl_M_51 ws_yX12_in wn_ShareHouseModel wc_yX12_in wy_yX12_in rfl ⟨by decide, by decide⟩ (Nat.le_of_ble_eq_true rfl) ?_
    refine am_ite h (fun hc h => ?_) (fun hc h => ?_)
    · refine am_if_eq_t (t := 33) d_X12_clause_21 (by decide) hc hF ?_
      refine am_seg s_M_clause_4 (y := (34, [(0, .ref 140), (1, .int a1), (2, .int a2), (3, .int a3)], [.int (-1 : Int32)], am_D x3.2)) hF t_s_M_clause_4 rfl rfl ?_
      obtain ⟨rfl, rfl⟩ := am_pair h
      exact am_iret d_X12_clause_34 hF hB
    · refine am_if_eq_f (t := 33) d_X12_clause_21 (by decide) hc hF ?_
      refine am_seg s_M_clause_5 (y := (27, [(0, .ref 140), (1, .int a1), (2, .int a2), (3, .int a3)], [.int (nI 5), .int (nI 0), .int a3], am_D x3.2)) hF t_s_M_clause_5 rfl rfl ?_
      refine am_bd h (fun x4 hx h => ?_)
      refine am_callS (As := [.int a3, .int (nI 0), .int (nI 5)]) (r := (some (.int x4.1))) (st := []) (σ' := am_D x4.2) hF hR d_X12_clause_27 (c_M_in (τ' := x4.2) hx) (Nat.le_refl _) (Nat.le_refl _) wl_M_51 ws_yX12_in wn_ShareHouseModel wc_yX12_in wy_yX12_in rfl ⟨by decide, by decide⟩ (Nat.le_of_ble_eq_true rfl) ?_
      refine am_ite h (fun hc h => ?_) (fun hc h => ?_)
      · refine am_if_ne_f (t := 35) d_X12_clause_30 (by decide) hc hF ?_
        refine am_seg s_M_clause_7 (y := (34, [(0, .ref 140), (1, .int a1), (2, .int a2), (3, .int a3)], [.int (-1 : Int32)], am_D x4.2)) hF t_s_M_clause_7 rfl rfl ?_
        obtain ⟨rfl, rfl⟩ := am_pair h
        exact am_iret d_X12_clause_34 hF hB
      · refine am_if_ne_t (t := 35) d_X12_clause_30 (by decide) hc hF ?_
        refine am_seg s_M_clause_6 (y := (39, [(0, .ref 140), (1, .int a1), (2, .int a2), (3, .int a3)], [.int a3, .int a2, .int a1, .ref 140], am_D x4.2)) hF t_s_M_clause_6 rfl rfl ?_
        refine am_bd h (fun x5 hx h => ?_)
        refine am_callV (As := [.int a1, .int a2, .int a3]) (r := (some (.int x5.1))) (st := []) (σ' := am_D x5.2) (ci := 12) hF hR d_X12_clause_39 (c_M_clauseOf (τ' := x5.2) hx) (Nat.le_refl _) (Nat.le_refl _) wl_M_185 wi_yX12_clauseOf we_yX12_clauseOf wn_ShareHouseModel wc_yX12_clauseOf (Nat.le_of_ble_eq_true rfl) (Nat.le_of_ble_eq_true rfl) rfl rfl wy_yX12_clauseOf rfl ⟨by decide, by decide⟩ (Nat.le_of_ble_eq_true rfl) ?_
        obtain ⟨rfl, rfl⟩ := am_pair h
        exact am_iret d_X12_clause_42 hF hB
theorem c_M_clause {a1 : Int32} {a2 : Int32} {a3 : Int32} {v : Int32} {τ τ' : am_T} (h : M_clause τ a1 a2 a3 = some (v, τ')) : am_C yX12_clause cX12_clause 4 (some .int) 2 43 [.ref 140, .int a1, .int a2, .int a3] (am_D τ) (some (.int v)) (am_D τ') :=
  am_enter (by decide +kernel) (Nat.le_of_ble_eq_true rfl) ⟨Nat.le_refl _, Nat.le_refl _⟩ (fun X hF hR hB => ok_M_clause hF hR hB h)
def s_M_isHead_0 : List am_Q := [(0, .iload_n 0, 0, 0, 0, .null), (1, .iconst 0, 0, 0, 0, .int (nI 0)), (2, .iconst 5, 0, 0, 0, .int (nI 5))]
theorem t_s_M_isHead_0 : s_M_isHead_0.all (am_ok 12 cX12_isHead) = true := by decide +kernel
theorem d_X12_isHead_3 : decode cX12_isHead 3 = .ok (.invokestatic 51, 3) := by decide +kernel
theorem d_X12_isHead_6 : decode cX12_isHead 6 = .ok (.ireturn, 1) := by decide +kernel
def M_isHead (τ : am_T) (a0 : Int32) : Option (Int32 × am_T) :=
  (M_in τ a0 (nI 0) (nI 5)).bind (fun x1 =>
  am_g (am_z01 x1.1) (some (x1.1, x1.2)))
set_option maxRecDepth 20000 in
theorem ok_M_isHead {X : am_X} {a0 : Int32} {v : Int32} {τ τ' : am_T} (hF : am_F X "ShareHouseModel" cX12_isHead 1) (hR : am_R X 1 22) (hB : am_B X (some .boolean) (some (.int v)) (am_D τ')) (h : M_isHead τ a0 = some (v, τ')) : am_W X 1 (0, [(0, .int a0)], [], am_D τ) := by
  unfold M_isHead at h
  refine am_seg s_M_isHead_0 (y := (3, [(0, .int a0)], [.int (nI 5), .int (nI 0), .int a0], am_D τ)) hF t_s_M_isHead_0 rfl rfl ?_
  refine am_bd h (fun x1 hx h => ?_)
  refine am_callS (As := [.int a0, .int (nI 0), .int (nI 5)]) (r := (some (.int x1.1))) (st := []) (σ' := am_D x1.2) hF hR d_X12_isHead_3 (c_M_in (τ' := x1.2) hx) (Nat.le_refl _) (Nat.le_refl _) wl_M_51 ws_yX12_in wn_ShareHouseModel wc_yX12_in wy_yX12_in rfl ⟨by decide, by decide⟩ (Nat.le_of_ble_eq_true rfl) ?_
  refine am_gd h (fun hz h => ?_)
  obtain ⟨rfl, rfl⟩ := am_pair h
  exact am_zret d_X12_isHead_6 (am_z01_n hz) hF hB
theorem c_M_isHead {a0 : Int32} {v : Int32} {τ τ' : am_T} (h : M_isHead τ a0 = some (v, τ')) : am_C yX12_isHead cX12_isHead 1 (some .boolean) 1 22 [.int a0] (am_D τ) (some (.int v)) (am_D τ') :=
  am_enter (by decide +kernel) (Nat.le_of_ble_eq_true rfl) ⟨Nat.le_refl _, Nat.le_refl _⟩ (fun X hF hR hB => ok_M_isHead hF hR hB h)
def s_M_common_0 : List am_Q := [(0, .lload_n 0, 0, 0, 0, .null), (1, .lstore 4, 0, 0, 0, .null), (3, .lload_n 2, 0, 0, 0, .null), (4, .lstore 6, 0, 0, 0, .null)]
theorem t_s_M_common_0 : s_M_common_0.all (am_ok 12 cX12_common) = true := by decide +kernel
def s_M_common_1 : List am_Q := [(6, .lload 6, 0, 0, 0, .null), (8, .lconst 0, 0, 0, 0, .long (lN 0)), (9, .lcmp, 0, 0, 0, .null)]
theorem t_s_M_common_1 : s_M_common_1.all (am_ok 12 cX12_common) = true := by decide +kernel
theorem d_X12_common_10 : decode cX12_common 10 = .ok (.ifCond .eq 21, 3) := by decide +kernel
def s_M_common_2 : List am_Q := [(31, .lload 4, 0, 0, 0, .null)]
theorem t_s_M_common_2 : s_M_common_2.all (am_ok 12 cX12_common) = true := by decide +kernel
theorem d_X12_common_33 : decode cX12_common 33 = .ok (.lreturn, 1) := by decide +kernel
def s_M_common_3 : List am_Q := [(13, .lload 4, 0, 0, 0, .null), (15, .lload 6, 0, 0, 0, .null)]
theorem t_s_M_common_3 : s_M_common_3.all (am_ok 12 cX12_common) = true := by decide +kernel
theorem d_X12_common_17 : decode cX12_common 17 = .ok (.lrem, 1) := by decide +kernel
def s_M_common_4 : List am_Q := [(18, .lstore 8, 0, 0, 0, .null), (20, .lload 6, 0, 0, 0, .null), (22, .lstore 4, 0, 0, 0, .null), (24, .lload 8, 0, 0, 0, .null), (26, .lstore 6, 0, 0, 0, .null), (28, .goto (-22), 6, 0, 0, .null)]
theorem t_s_M_common_4 : s_M_common_4.all (am_ok 12 cX12_common) = true := by decide +kernel
def M_common_6 : Nat → am_T → Int64 → Int64 → Option (Int64 × am_T)
  | 0, _, _, _ => none
  | n + 1, τ, a4, a6 =>
    if (lg_cmp a6 (lN 0)) = 0 then
  (some (a4, τ))
else
  (if a6 = 0 then none else
  (M_common_6 n) τ a6 (a4 - a4 / a6 * a6))
set_option maxRecDepth 20000 in
theorem ok_M_common_6 {X : am_X} {v : Int64} {τ' : am_T} (hF : am_F X "ShareHouseModel" cX12_common 10) (hR : am_R X 0 0) (hB : am_B X (some .long) (some (.long v)) (am_D τ')) : ∀ (n : Nat) (τ : am_T) (a4 : Int64) (a6 : Int64), M_common_6 n τ a4 a6 = some (v, τ') → am_W X 10 (6, [(4, .long a4), (6, .long a6)], [], am_D τ) := by
  intro n
  induction n with
  | zero => intro τ a4 a6 h; unfold M_common_6 at h; cases h
  | succ n ih =>
    intro τ a4 a6 h
    unfold M_common_6 at h
    refine am_seg s_M_common_1 (y := (10, [(4, .long a4), (6, .long a6)], [.int (lg_cmp a6 (lN 0))], am_D τ)) hF t_s_M_common_1 rfl rfl ?_
    refine am_ite h (fun hc h => ?_) (fun hc h => ?_)
    · refine am_if_eq_t (t := 31) d_X12_common_10 (by decide) hc hF ?_
      refine am_seg s_M_common_2 (y := (33, [(4, .long a4), (6, .long a6)], [.long a4], am_D τ)) hF t_s_M_common_2 rfl rfl ?_
      obtain ⟨rfl, rfl⟩ := am_pair h
      exact am_lret d_X12_common_33 hF hB
    · refine am_if_eq_f (t := 31) d_X12_common_10 (by decide) hc hF ?_
      refine am_seg s_M_common_3 (y := (17, [(4, .long a4), (6, .long a6)], [.long a6, .long a4], am_D τ)) hF t_s_M_common_3 rfl rfl ?_
      refine am_ite h (fun _ h => by cases h) (fun hc h => ?_)
      refine am_lrem d_X12_common_17 hc hF ?_
      refine am_seg s_M_common_4 (y := (6, [(6, .long (a4 - a4 / a6 * a6)), (4, .long a6), (8, .long (a4 - a4 / a6 * a6))], [], am_D τ)) hF t_s_M_common_4 rfl rfl ?_
      refine am_pick [1, 0] rfl ?_
      exact ih _ _ _ h
def M_common (τ : am_T) (a0 : Int64) (a2 : Int64) : Option (Int64 × am_T) :=
  M_common_6 5000 τ a0 a2
set_option maxRecDepth 20000 in
theorem ok_M_common {X : am_X} {a0 : Int64} {a2 : Int64} {v : Int64} {τ τ' : am_T} (hF : am_F X "ShareHouseModel" cX12_common 10) (hR : am_R X 0 0) (hB : am_B X (some .long) (some (.long v)) (am_D τ')) (h : M_common τ a0 a2 = some (v, τ')) : am_W X 10 (0, [(0, .long a0), (2, .long a2)], [], am_D τ) := by
  unfold M_common at h
  refine am_seg s_M_common_0 (y := (6, [(6, .long a2), (4, .long a0), (0, .long a0), (2, .long a2)], [], am_D τ)) hF t_s_M_common_0 rfl rfl ?_
  refine am_pick [1, 0] rfl ?_
  exact ok_M_common_6 hF hR hB _ _ _ _ h
theorem c_M_common {a0 : Int64} {a2 : Int64} {v : Int64} {τ τ' : am_T} (h : M_common τ a0 a2 = some (v, τ')) : am_C yX12_common cX12_common 10 (some .long) 0 0 [.long a0, .long a2] (am_D τ) (some (.long v)) (am_D τ') :=
  am_enter (by decide +kernel) (Nat.le_of_ble_eq_true rfl) ⟨Nat.le_refl _, Nat.le_refl _⟩ (fun X hF hR hB => ok_M_common hF hR hB h)
def s_M_together_0 : List am_Q := [(0, .iconst 0, 0, 0, 0, .int (nI 0)), (1, .istore_n 2, 0, 0, 0, .null), (2, .iconst 0, 0, 0, 0, .int (nI 0)), (3, .istore_n 3, 0, 0, 0, .null)]
theorem t_s_M_together_0 : s_M_together_0.all (am_ok 12 cX12_together) = true := by decide +kernel
def s_M_together_1 : List am_Q := [(4, .iload_n 3, 0, 0, 0, .null), (5, .aload_n 0, 0, 0, 0, .null), (6, .getfield 7, 12, 0, 152, .null), (9, .iconst 1, 0, 0, 0, .int (nI 1))]
theorem t_s_M_together_1 : s_M_together_1.all (am_ok 12 cX12_together) = true := by decide +kernel
theorem d_X12_together_10 : decode cX12_together 10 = .ok (.iaload, 1) := by decide +kernel
theorem d_X12_together_11 : decode cX12_together 11 = .ok (.if_icmp .ge 18, 3) := by decide +kernel
def s_M_together_2 : List am_Q := [(29, .iload_n 2, 0, 0, 0, .null)]
theorem t_s_M_together_2 : s_M_together_2.all (am_ok 12 cX12_together) = true := by decide +kernel
theorem d_X12_together_30 : decode cX12_together 30 = .ok (.ireturn, 1) := by decide +kernel
def s_M_together_3 : List am_Q := [(14, .iload_n 2, 0, 0, 0, .null), (15, .aload_n 0, 0, 0, 0, .null), (16, .iload_n 3, 0, 0, 0, .null), (17, .iload_n 1, 0, 0, 0, .null)]
theorem t_s_M_together_3 : s_M_together_3.all (am_ok 12 cX12_together) = true := by decide +kernel
theorem d_X12_together_18 : decode cX12_together 18 = .ok (.invokevirtual 146, 3) := by decide +kernel
def s_M_together_4 : List am_Q := [(21, .iadd, 0, 0, 0, .null), (22, .istore_n 2, 0, 0, 0, .null), (23, .iinc 3 1, 0, 0, 0, .int (nI 1)), (26, .goto (-22), 4, 0, 0, .null)]
theorem t_s_M_together_4 : s_M_together_4.all (am_ok 12 cX12_together) = true := by decide +kernel
def M_together_4 : Nat → am_T → Int32 → Int32 → Int32 → Option (Int32 × am_T)
  | 0, _, _, _, _ => none
  | n + 1, τ, a1, a2, a3 =>
    if (τ.1 141 1) ≤ a3 then
  (some (a2, τ))
else
  ((M_flatOf τ a3 a1).bind (fun x1 =>
  (M_together_4 n) x1.2 a1 (a2 + x1.1) (a3 + (nI 1))))
set_option maxRecDepth 20000 in
theorem ok_M_together_4 {X : am_X} {v : Int32} {τ' : am_T} (hF : am_F X "ShareHouseModel" cX12_together 4) (hR : am_R X 1 22) (hB : am_B X (some .int) (some (.int v)) (am_D τ')) : ∀ (n : Nat) (τ : am_T) (a1 : Int32) (a2 : Int32) (a3 : Int32), M_together_4 n τ a1 a2 a3 = some (v, τ') → am_W X 4 (4, [(0, .ref 140), (1, .int a1), (2, .int a2), (3, .int a3)], [], am_D τ) := by
  intro n
  induction n with
  | zero => intro τ a1 a2 a3 h; unfold M_together_4 at h; cases h
  | succ n ih =>
    intro τ a1 a2 a3 h
    unfold M_together_4 at h
    refine am_seg s_M_together_1 (y := (10, [(0, .ref 140), (1, .int a1), (2, .int a2), (3, .int a3)], [.int (nI 1), .ref 141, .int a3], am_D τ)) hF t_s_M_together_1 rfl rfl ?_
    refine am_iald (n := 1060) (j := 1) d_X12_together_10 (Nat.le_of_ble_eq_true rfl) (Nat.le_of_ble_eq_true rfl) rfl (by decide) rfl hF ?_
    refine am_ite h (fun hc h => ?_) (fun hc h => ?_)
    · refine am_icmp_ge_t (t := 29) d_X12_together_11 (by decide) hc hF ?_
      refine am_seg s_M_together_2 (y := (30, [(0, .ref 140), (1, .int a1), (2, .int a2), (3, .int a3)], [.int a2], am_D τ)) hF t_s_M_together_2 rfl rfl ?_
      obtain ⟨rfl, rfl⟩ := am_pair h
      exact am_iret d_X12_together_30 hF hB
    · refine am_icmp_ge_f (t := 29) d_X12_together_11 (by decide) hc hF ?_
      refine am_seg s_M_together_3 (y := (18, [(0, .ref 140), (1, .int a1), (2, .int a2), (3, .int a3)], [.int a1, .int a3, .ref 140, .int a2], am_D τ)) hF t_s_M_together_3 rfl rfl ?_
      refine am_bd h (fun x1 hx h => ?_)
      refine am_callV (As := [.int a3, .int a1]) (r := (some (.int x1.1))) (st := [.int a2]) (σ' := am_D x1.2) (ci := 12) hF hR d_X12_together_18 (c_M_flatOf (τ' := x1.2) hx) (Nat.le_refl _) (Nat.le_refl _) wl_M_146 wi_yX12_flatOf we_yX12_flatOf wn_ShareHouseModel wc_yX12_flatOf (Nat.le_of_ble_eq_true rfl) (Nat.le_of_ble_eq_true rfl) rfl rfl wy_yX12_flatOf rfl ⟨by decide, by decide⟩ (Nat.le_of_ble_eq_true rfl) ?_
      refine am_seg s_M_together_4 (y := (4, [(3, .int (a3 + (nI 1))), (2, .int (a2 + x1.1)), (0, .ref 140), (1, .int a1)], [], am_D x1.2)) hF t_s_M_together_4 rfl rfl ?_
      refine am_pick [2, 3, 1, 0] rfl ?_
      exact ih _ _ _ _ h
def M_together (τ : am_T) (a1 : Int32) : Option (Int32 × am_T) :=
  M_together_4 5000 τ a1 (nI 0) (nI 0)
set_option maxRecDepth 20000 in
theorem ok_M_together {X : am_X} {a1 : Int32} {v : Int32} {τ τ' : am_T} (hF : am_F X "ShareHouseModel" cX12_together 4) (hR : am_R X 1 22) (hB : am_B X (some .int) (some (.int v)) (am_D τ')) (h : M_together τ a1 = some (v, τ')) : am_W X 4 (0, [(0, .ref 140), (1, .int a1)], [], am_D τ) := by
  unfold M_together at h
  refine am_seg s_M_together_0 (y := (4, [(3, .int (nI 0)), (2, .int (nI 0)), (0, .ref 140), (1, .int a1)], [], am_D τ)) hF t_s_M_together_0 rfl rfl ?_
  refine am_pick [2, 3, 1, 0] rfl ?_
  exact ok_M_together_4 hF hR hB _ _ _ _ _ h
theorem c_M_together {a1 : Int32} {v : Int32} {τ τ' : am_T} (h : M_together τ a1 = some (v, τ')) : am_C yX12_together cX12_together 4 (some .int) 1 22 [.ref 140, .int a1] (am_D τ) (some (.int v)) (am_D τ') :=
  am_enter (by decide +kernel) (Nat.le_of_ble_eq_true rfl) ⟨Nat.le_refl _, Nat.le_refl _⟩ (fun X hF hR hB => ok_M_together hF hR hB h)
def s_M_findShare_0 : List am_Q := [(0, .iconst (-1), 0, 0, 0, .int (-1 : Int32)), (1, .istore_n 3, 0, 0, 0, .null), (2, .iconst 0, 0, 0, 0, .int (nI 0)), (3, .istore 4, 0, 0, 0, .null)]
theorem t_s_M_findShare_0 : s_M_findShare_0.all (am_ok 12 cX12_findShare) = true := by decide +kernel
def s_M_findShare_1 : List am_Q := [(5, .iload 4, 0, 0, 0, .null), (7, .aload_n 0, 0, 0, 0, .null), (8, .iload_n 1, 0, 0, 0, .null), (9, .iconst 3, 0, 0, 0, .int (nI 3))]
theorem t_s_M_findShare_1 : s_M_findShare_1.all (am_ok 12 cX12_findShare) = true := by decide +kernel
theorem d_X12_findShare_10 : decode cX12_findShare 10 = .ok (.invokevirtual 146, 3) := by decide +kernel
theorem d_X12_findShare_13 : decode cX12_findShare 13 = .ok (.if_icmp .ge 44, 3) := by decide +kernel
def s_M_findShare_2 : List am_Q := [(57, .aload_n 0, 0, 0, 0, .null), (58, .iconst 0, 0, 0, 0, .int (nI 0)), (59, .putfield 189, 12, 15, 167, .null), (62, .aload_n 0, 0, 0, 0, .null), (63, .iconst 1, 0, 0, 0, .int (nI 1)), (64, .putfield 192, 12, 16, 168, .null), (67, .iload_n 3, 0, 0, 0, .null)]
theorem t_s_M_findShare_2 : s_M_findShare_2.all (am_ok 12 cX12_findShare) = true := by decide +kernel
theorem d_X12_findShare_68 : decode cX12_findShare 68 = .ok (.ifCond .ge 4, 3) := by decide +kernel
def s_M_findShare_3 : List am_Q := [(72, .aload_n 0, 0, 0, 0, .null), (73, .iload_n 1, 0, 0, 0, .null), (74, .iload_n 3, 0, 0, 0, .null), (75, .iconst 1, 0, 0, 0, .int (nI 1))]
theorem t_s_M_findShare_3 : s_M_findShare_3.all (am_ok 12 cX12_findShare) = true := by decide +kernel
theorem d_X12_findShare_76 : decode cX12_findShare 76 = .ok (.invokevirtual 185, 3) := by decide +kernel
theorem d_X12_findShare_79 : decode cX12_findShare 79 = .ok (.tableswitch 116 1 4 #[29, 47, 69, 91], 29) := by decide +kernel
def s_M_findShare_4 : List am_Q := [(195, .aload_n 0, 0, 0, 0, .null), (196, .getfield 189, 12, 15, 167, .null)]
theorem t_s_M_findShare_4 : s_M_findShare_4.all (am_ok 12 cX12_findShare) = true := by decide +kernel
theorem d_X12_findShare_199 : decode cX12_findShare 199 = .ok (.ifCond .ne 9, 3) := by decide +kernel
def s_M_findShare_5 : List am_Q := [(208, .aload_n 0, 0, 0, 0, .null), (209, .getfield 189, 12, 15, 167, .null), (212, .i2l, 0, 0, 0, .null), (213, .aload_n 0, 0, 0, 0, .null), (214, .getfield 192, 12, 16, 168, .null), (217, .i2l, 0, 0, 0, .null)]
theorem t_s_M_findShare_5 : s_M_findShare_5.all (am_ok 12 cX12_findShare) = true := by decide +kernel
theorem d_X12_findShare_218 : decode cX12_findShare 218 = .ok (.invokestatic 199, 3) := by decide +kernel
def s_M_findShare_6 : List am_Q := [(221, .l2i, 0, 0, 0, .null), (222, .istore 4, 0, 0, 0, .null), (224, .aload_n 0, 0, 0, 0, .null), (225, .dup, 0, 0, 0, .null), (226, .getfield 189, 12, 15, 167, .null), (229, .iload 4, 0, 0, 0, .null)]
theorem t_s_M_findShare_6 : s_M_findShare_6.all (am_ok 12 cX12_findShare) = true := by decide +kernel
theorem d_X12_findShare_231 : decode cX12_findShare 231 = .ok (.idiv, 1) := by decide +kernel
def s_M_findShare_7 : List am_Q := [(232, .putfield 189, 12, 15, 167, .null), (235, .aload_n 0, 0, 0, 0, .null), (236, .dup, 0, 0, 0, .null), (237, .getfield 192, 12, 16, 168, .null), (240, .iload 4, 0, 0, 0, .null)]
theorem t_s_M_findShare_7 : s_M_findShare_7.all (am_ok 12 cX12_findShare) = true := by decide +kernel
theorem d_X12_findShare_242 : decode cX12_findShare 242 = .ok (.idiv, 1) := by decide +kernel
def s_M_findShare_8 : List am_Q := [(243, .putfield 192, 12, 16, 168, .null)]
theorem t_s_M_findShare_8 : s_M_findShare_8.all (am_ok 12 cX12_findShare) = true := by decide +kernel
theorem d_X12_findShare_246 : decode cX12_findShare 246 = .ok (.return_, 1) := by decide +kernel
def s_M_findShare_9 : List am_Q := [(202, .aload_n 0, 0, 0, 0, .null), (203, .iconst 1, 0, 0, 0, .int (nI 1)), (204, .putfield 192, 12, 16, 168, .null)]
theorem t_s_M_findShare_9 : s_M_findShare_9.all (am_ok 12 cX12_findShare) = true := by decide +kernel
theorem d_X12_findShare_207 : decode cX12_findShare 207 = .ok (.return_, 1) := by decide +kernel
def s_M_findShare_10 : List am_Q := [(108, .aload_n 0, 0, 0, 0, .null), (109, .iconst 1, 0, 0, 0, .int (nI 1)), (110, .putfield 189, 12, 15, 167, .null), (113, .aload_n 0, 0, 0, 0, .null), (114, .aload_n 0, 0, 0, 0, .null), (115, .getfield 7, 12, 0, 152, .null), (118, .iconst 1, 0, 0, 0, .int (nI 1))]
theorem t_s_M_findShare_10 : s_M_findShare_10.all (am_ok 12 cX12_findShare) = true := by decide +kernel
theorem d_X12_findShare_119 : decode cX12_findShare 119 = .ok (.iaload, 1) := by decide +kernel
def s_M_findShare_11 : List am_Q := [(120, .putfield 192, 12, 16, 168, .null), (123, .goto 72, 195, 0, 0, .null)]
theorem t_s_M_findShare_11 : s_M_findShare_11.all (am_ok 12 cX12_findShare) = true := by decide +kernel
def s_M_findShare_12 : List am_Q := [(126, .aload_n 0, 0, 0, 0, .null), (127, .aload_n 0, 0, 0, 0, .null), (128, .iload_n 1, 0, 0, 0, .null), (129, .iconst 1, 0, 0, 0, .int (nI 1))]
theorem t_s_M_findShare_12 : s_M_findShare_12.all (am_ok 12 cX12_findShare) = true := by decide +kernel
theorem d_X12_findShare_130 : decode cX12_findShare 130 = .ok (.invokevirtual 146, 3) := by decide +kernel
def s_M_findShare_13 : List am_Q := [(133, .putfield 189, 12, 15, 167, .null), (136, .aload_n 0, 0, 0, 0, .null), (137, .aload_n 0, 0, 0, 0, .null), (138, .iconst 1, 0, 0, 0, .int (nI 1))]
theorem t_s_M_findShare_13 : s_M_findShare_13.all (am_ok 12 cX12_findShare) = true := by decide +kernel
theorem d_X12_findShare_139 : decode cX12_findShare 139 = .ok (.invokevirtual 195, 3) := by decide +kernel
def s_M_findShare_14 : List am_Q := [(142, .putfield 192, 12, 16, 168, .null), (145, .goto 50, 195, 0, 0, .null)]
theorem t_s_M_findShare_14 : s_M_findShare_14.all (am_ok 12 cX12_findShare) = true := by decide +kernel
def s_M_findShare_15 : List am_Q := [(148, .aload_n 0, 0, 0, 0, .null), (149, .aload_n 0, 0, 0, 0, .null), (150, .iload_n 1, 0, 0, 0, .null), (151, .iconst 0, 0, 0, 0, .int (nI 0))]
theorem t_s_M_findShare_15 : s_M_findShare_15.all (am_ok 12 cX12_findShare) = true := by decide +kernel
theorem d_X12_findShare_152 : decode cX12_findShare 152 = .ok (.invokevirtual 146, 3) := by decide +kernel
def s_M_findShare_16 : List am_Q := [(155, .putfield 189, 12, 15, 167, .null), (158, .aload_n 0, 0, 0, 0, .null), (159, .aload_n 0, 0, 0, 0, .null), (160, .iconst 0, 0, 0, 0, .int (nI 0))]
theorem t_s_M_findShare_16 : s_M_findShare_16.all (am_ok 12 cX12_findShare) = true := by decide +kernel
theorem d_X12_findShare_161 : decode cX12_findShare 161 = .ok (.invokevirtual 195, 3) := by decide +kernel
def s_M_findShare_17 : List am_Q := [(164, .putfield 192, 12, 16, 168, .null), (167, .goto 28, 195, 0, 0, .null)]
theorem t_s_M_findShare_17 : s_M_findShare_17.all (am_ok 12 cX12_findShare) = true := by decide +kernel
def s_M_findShare_18 : List am_Q := [(170, .aload_n 0, 0, 0, 0, .null), (171, .aload_n 0, 0, 0, 0, .null), (172, .iload_n 1, 0, 0, 0, .null), (173, .iload_n 3, 0, 0, 0, .null), (174, .iconst 2, 0, 0, 0, .int (nI 2))]
theorem t_s_M_findShare_18 : s_M_findShare_18.all (am_ok 12 cX12_findShare) = true := by decide +kernel
theorem d_X12_findShare_175 : decode cX12_findShare 175 = .ok (.invokevirtual 185, 3) := by decide +kernel
def s_M_findShare_19 : List am_Q := [(178, .putfield 189, 12, 15, 167, .null), (181, .aload_n 0, 0, 0, 0, .null), (182, .aload_n 0, 0, 0, 0, .null), (183, .iload_n 1, 0, 0, 0, .null), (184, .iload_n 3, 0, 0, 0, .null), (185, .iconst 3, 0, 0, 0, .int (nI 3))]
theorem t_s_M_findShare_19 : s_M_findShare_19.all (am_ok 12 cX12_findShare) = true := by decide +kernel
theorem d_X12_findShare_186 : decode cX12_findShare 186 = .ok (.invokevirtual 185, 3) := by decide +kernel
def s_M_findShare_20 : List am_Q := [(189, .putfield 192, 12, 16, 168, .null), (192, .goto 3, 195, 0, 0, .null)]
theorem t_s_M_findShare_20 : s_M_findShare_20.all (am_ok 12 cX12_findShare) = true := by decide +kernel
theorem d_X12_findShare_71 : decode cX12_findShare 71 = .ok (.return_, 1) := by decide +kernel
def s_M_findShare_21 : List am_Q := [(16, .aload_n 0, 0, 0, 0, .null), (17, .iload_n 1, 0, 0, 0, .null), (18, .iload 4, 0, 0, 0, .null), (20, .iconst 0, 0, 0, 0, .int (nI 0))]
theorem t_s_M_findShare_21 : s_M_findShare_21.all (am_ok 12 cX12_findShare) = true := by decide +kernel
theorem d_X12_findShare_21 : decode cX12_findShare 21 = .ok (.invokevirtual 185, 3) := by decide +kernel
def s_M_findShare_22 : List am_Q := [(24, .iload_n 2, 0, 0, 0, .null), (25, .ishr, 0, 0, 0, .null), (26, .iconst 1, 0, 0, 0, .int (nI 1)), (27, .iand, 0, 0, 0, .null), (28, .iconst 1, 0, 0, 0, .int (nI 1))]
theorem t_s_M_findShare_22 : s_M_findShare_22.all (am_ok 12 cX12_findShare) = true := by decide +kernel
theorem d_X12_findShare_29 : decode cX12_findShare 29 = .ok (.if_icmp .ne 20, 3) := by decide +kernel
def s_M_findShare_23 : List am_Q := [(49, .iload_n 3, 0, 0, 0, .null), (50, .istore_n 3, 0, 0, 0, .null), (51, .iinc 4 1, 0, 0, 0, .int (nI 1)), (54, .goto (-49), 5, 0, 0, .null)]
theorem t_s_M_findShare_23 : s_M_findShare_23.all (am_ok 12 cX12_findShare) = true := by decide +kernel
def s_M_findShare_24 : List am_Q := [(32, .aload_n 0, 0, 0, 0, .null), (33, .iload_n 1, 0, 0, 0, .null), (34, .iload 4, 0, 0, 0, .null), (36, .iconst 5, 0, 0, 0, .int (nI 5))]
theorem t_s_M_findShare_24 : s_M_findShare_24.all (am_ok 12 cX12_findShare) = true := by decide +kernel
theorem d_X12_findShare_37 : decode cX12_findShare 37 = .ok (.invokevirtual 185, 3) := by decide +kernel
def s_M_findShare_25 : List am_Q := [(40, .iconst 1, 0, 0, 0, .int (nI 1))]
theorem t_s_M_findShare_25 : s_M_findShare_25.all (am_ok 12 cX12_findShare) = true := by decide +kernel
theorem d_X12_findShare_41 : decode cX12_findShare 41 = .ok (.if_icmp .ne 8, 3) := by decide +kernel
def s_M_findShare_26 : List am_Q := [(49, .iload_n 3, 0, 0, 0, .null), (50, .istore_n 3, 0, 0, 0, .null), (51, .iinc 4 1, 0, 0, 0, .int (nI 1)), (54, .goto (-49), 5, 0, 0, .null)]
theorem t_s_M_findShare_26 : s_M_findShare_26.all (am_ok 12 cX12_findShare) = true := by decide +kernel
def s_M_findShare_27 : List am_Q := [(44, .iload 4, 0, 0, 0, .null), (46, .goto 4, 50, 0, 0, .null), (50, .istore_n 3, 0, 0, 0, .null), (51, .iinc 4 1, 0, 0, 0, .int (nI 1)), (54, .goto (-49), 5, 0, 0, .null)]
theorem t_s_M_findShare_27 : s_M_findShare_27.all (am_ok 12 cX12_findShare) = true := by decide +kernel
def M_findShare_195 (τ : am_T) : Option (am_T) :=
  if (τ.1 140 15) = 0 then
  (some (am_si τ 140 16 (nI 1)))
else
  ((M_common τ (Int32.toInt64 (τ.1 140 15)) (Int32.toInt64 (τ.1 140 16))).bind (fun x3 =>
  if (Int64.toInt32 x3.1) = 0 then none else
  if (Int64.toInt32 x3.1) = 0 then none else
  some (am_si (am_si x3.2 140 15 ((x3.2.1 140 15) / (Int64.toInt32 x3.1))) 140 16 (((am_si x3.2 140 15 ((x3.2.1 140 15) / (Int64.toInt32 x3.1))).1 140 16) / (Int64.toInt32 x3.1)))))
set_option maxRecDepth 20000 in
theorem ok_M_findShare_195 {X : am_X} {τ' : am_T} (hF : am_F X "ShareHouseModel" cX12_findShare 5) (hR : am_R X 2 45) (hB : am_B X none none (am_D τ')) {τ : am_T} (h : M_findShare_195 τ = some τ') : am_W X 5 (195, [(0, .ref 140)], [], am_D τ) := by
  unfold M_findShare_195 at h
  refine am_seg s_M_findShare_4 (y := (199, [(0, .ref 140)], [.int (τ.1 140 15)], am_D τ)) hF t_s_M_findShare_4 rfl rfl ?_
  refine am_ite h (fun hc h => ?_) (fun hc h => ?_)
  · refine am_if_ne_f (t := 208) d_X12_findShare_199 (by decide) hc hF ?_
    refine am_seg s_M_findShare_9 (y := (207, [(0, .ref 140)], [], am_D (am_si τ 140 16 (nI 1)))) hF t_s_M_findShare_9 rfl rfl ?_
    obtain rfl := am_one h
    exact am_vret d_X12_findShare_207 hF hB
  · refine am_if_ne_t (t := 208) d_X12_findShare_199 (by decide) hc hF ?_
    refine am_seg s_M_findShare_5 (y := (218, [(0, .ref 140)], [.long (Int32.toInt64 (τ.1 140 16)), .long (Int32.toInt64 (τ.1 140 15))], am_D τ)) hF t_s_M_findShare_5 rfl rfl ?_
    refine am_bd h (fun x3 hx h => ?_)
    refine am_callS (As := [.long (Int32.toInt64 (τ.1 140 15)), .long (Int32.toInt64 (τ.1 140 16))]) (r := (some (.long x3.1))) (st := []) (σ' := am_D x3.2) hF hR d_X12_findShare_218 (c_M_common (τ' := x3.2) hx) (Nat.le_refl _) (Nat.le_refl _) wl_M_199 ws_yX12_common wn_ShareHouseModel wc_yX12_common wy_yX12_common rfl ⟨by decide, by decide⟩ (Nat.le_of_ble_eq_true rfl) ?_
    refine am_seg s_M_findShare_6 (y := (231, [(4, .int (Int64.toInt32 x3.1)), (0, .ref 140)], [.int (Int64.toInt32 x3.1), .int (x3.2.1 140 15), .ref 140], am_D x3.2)) hF t_s_M_findShare_6 rfl rfl ?_
    refine am_ite h (fun _ h => by cases h) (fun hc h => ?_)
    refine am_idiv d_X12_findShare_231 hc hF ?_
    refine am_seg s_M_findShare_7 (y := (242, [(4, .int (Int64.toInt32 x3.1)), (0, .ref 140)], [.int (Int64.toInt32 x3.1), .int ((am_si x3.2 140 15 ((x3.2.1 140 15) / (Int64.toInt32 x3.1))).1 140 16), .ref 140], am_D (am_si x3.2 140 15 ((x3.2.1 140 15) / (Int64.toInt32 x3.1))))) hF t_s_M_findShare_7 rfl rfl ?_
    refine am_ite h (fun _ h => by cases h) (fun hc h => ?_)
    refine am_idiv d_X12_findShare_242 hc hF ?_
    refine am_seg s_M_findShare_8 (y := (246, [(4, .int (Int64.toInt32 x3.1)), (0, .ref 140)], [], am_D (am_si (am_si x3.2 140 15 ((x3.2.1 140 15) / (Int64.toInt32 x3.1))) 140 16 (((am_si x3.2 140 15 ((x3.2.1 140 15) / (Int64.toInt32 x3.1))).1 140 16) / (Int64.toInt32 x3.1))))) hF t_s_M_findShare_8 rfl rfl ?_
    obtain rfl := am_one h
    exact am_vret d_X12_findShare_246 hF hB
def M_findShare_5 : Nat → am_T → Int32 → Int32 → Int32 → Int32 → Option (am_T)
  | 0, _, _, _, _, _ => none
  | n + 1, τ, a1, a2, a3, a4 =>
    (M_flatOf τ a1 (nI 3)).bind (fun x1 =>
  if x1.1 ≤ a4 then
  (if 0 ≤ a3 then
  ((M_clauseOf (am_si (am_si x1.2 140 15 (nI 0)) 140 16 (nI 1)) a1 a3 (nI 1)).bind (fun x2 =>
  if (x2.1 : Int32).toInt < 1 ∨ 4 < (x2.1 : Int32).toInt then
  (M_findShare_195 x2.2)
else
  (if x2.1 = nI 1 then
  (M_findShare_195 (am_si (am_si x2.2 140 15 (nI 1)) 140 16 ((am_si x2.2 140 15 (nI 1)).1 141 1)))
else
  (if x2.1 = nI 2 then
  ((M_flatOf x2.2 a1 (nI 1)).bind (fun x4 =>
  (M_together (am_si x4.2 140 15 x4.1) (nI 1)).bind (fun x5 =>
  M_findShare_195 (am_si x5.2 140 16 x5.1))))
else
  (if x2.1 = nI 3 then
  ((M_flatOf x2.2 a1 (nI 0)).bind (fun x6 =>
  (M_together (am_si x6.2 140 15 x6.1) (nI 0)).bind (fun x7 =>
  M_findShare_195 (am_si x7.2 140 16 x7.1))))
else
  (if x2.1 = nI 4 then
  ((M_clauseOf x2.2 a1 a3 (nI 2)).bind (fun x8 =>
  (M_clauseOf (am_si x8.2 140 15 x8.1) a1 a3 (nI 3)).bind (fun x9 =>
  M_findShare_195 (am_si x9.2 140 16 x9.1))))
else
  (none)))))))
else
  (some (am_si (am_si x1.2 140 15 (nI 0)) 140 16 (nI 1))))
else
  ((M_clauseOf x1.2 a1 a4 (nI 0)).bind (fun x10 =>
  if ((x10.1 >>> (a2 &&& 31)) &&& (nI 1)) = (nI 1) then
  ((M_clauseOf x10.2 a1 a4 (nI 5)).bind (fun x11 =>
  if x11.1 = (nI 1) then
  ((M_findShare_5 n) x11.2 a1 a2 a4 (a4 + (nI 1)))
else
  ((M_findShare_5 n) x11.2 a1 a2 a3 (a4 + (nI 1)))))
else
  ((M_findShare_5 n) x10.2 a1 a2 a3 (a4 + (nI 1))))))
set_option maxRecDepth 20000 in
theorem ok_M_findShare_5 {X : am_X} {τ' : am_T} (hF : am_F X "ShareHouseModel" cX12_findShare 5) (hR : am_R X 2 45) (hB : am_B X none none (am_D τ')) : ∀ (n : Nat) (τ : am_T) (a1 : Int32) (a2 : Int32) (a3 : Int32) (a4 : Int32), M_findShare_5 n τ a1 a2 a3 a4 = some τ' → am_W X 5 (5, [(0, .ref 140), (1, .int a1), (2, .int a2), (3, .int a3), (4, .int a4)], [], am_D τ) := by
  intro n
  induction n with
  | zero => intro τ a1 a2 a3 a4 h; unfold M_findShare_5 at h; cases h
  | succ n ih =>
    intro τ a1 a2 a3 a4 h
    unfold M_findShare_5 at h
    refine am_seg s_M_findShare_1 (y := (10, [(0, .ref 140), (1, .int a1), (2, .int a2), (3, .int a3), (4, .int a4)], [.int (nI 3), .int a1, .ref 140, .int a4], am_D τ)) hF t_s_M_findShare_1 rfl rfl ?_
    refine am_bd h (fun x1 hx h => ?_)
    refine am_callV (As := [.int a1, .int (nI 3)]) (r := (some (.int x1.1))) (st := [.int a4]) (σ' := am_D x1.2) (ci := 12) hF hR d_X12_findShare_10 (c_M_flatOf (τ' := x1.2) hx) (Nat.le_refl _) (Nat.le_refl _) wl_M_146 wi_yX12_flatOf we_yX12_flatOf wn_ShareHouseModel wc_yX12_flatOf (Nat.le_of_ble_eq_true rfl) (Nat.le_of_ble_eq_true rfl) rfl rfl wy_yX12_flatOf rfl ⟨by decide, by decide⟩ (Nat.le_of_ble_eq_true rfl) ?_
    refine am_ite h (fun hc h => ?_) (fun hc h => ?_)
    · refine am_icmp_ge_t (t := 57) d_X12_findShare_13 (by decide) hc hF ?_
      refine am_seg s_M_findShare_2 (y := (68, [(0, .ref 140), (1, .int a1), (2, .int a2), (3, .int a3), (4, .int a4)], [.int a3], am_D (am_si (am_si x1.2 140 15 (nI 0)) 140 16 (nI 1)))) hF t_s_M_findShare_2 rfl rfl ?_
      refine am_ite h (fun hc h => ?_) (fun hc h => ?_)
      · refine am_if_ge_t (t := 72) d_X12_findShare_68 (by decide) hc hF ?_
        refine am_seg s_M_findShare_3 (y := (76, [(0, .ref 140), (1, .int a1), (2, .int a2), (3, .int a3), (4, .int a4)], [.int (nI 1), .int a3, .int a1, .ref 140], am_D (am_si (am_si x1.2 140 15 (nI 0)) 140 16 (nI 1)))) hF t_s_M_findShare_3 rfl rfl ?_
        refine am_bd h (fun x2 hx h => ?_)
        refine am_callV (As := [.int a1, .int a3, .int (nI 1)]) (r := (some (.int x2.1))) (st := []) (σ' := am_D x2.2) (ci := 12) hF hR d_X12_findShare_76 (c_M_clauseOf (τ' := x2.2) hx) (Nat.le_refl _) (Nat.le_refl _) wl_M_185 wi_yX12_clauseOf we_yX12_clauseOf wn_ShareHouseModel wc_yX12_clauseOf (Nat.le_of_ble_eq_true rfl) (Nat.le_of_ble_eq_true rfl) rfl rfl wy_yX12_clauseOf rfl ⟨by decide, by decide⟩ (Nat.le_of_ble_eq_true rfl) ?_
        refine am_ite h (fun hc h => ?_) (fun hc h => ?_)
        · refine am_tswOut (t := 195) d_X12_findShare_79 hc (by decide) hF ?_
          refine am_pick [0] rfl ?_
          exact ok_M_findShare_195 hF hR hB h
        · refine am_ite h (fun hc h => ?_) (fun hc h => ?_)
          · refine am_tswIn (y := nI 1) (o := 29) (t := 108) d_X12_findShare_79 hc (by decide) (by decide) rfl (by decide) hF ?_
            refine am_seg s_M_findShare_10 (y := (119, [(0, .ref 140), (1, .int a1), (2, .int a2), (3, .int a3), (4, .int a4)], [.int (nI 1), .ref 141, .ref 140], am_D (am_si x2.2 140 15 (nI 1)))) hF t_s_M_findShare_10 rfl rfl ?_
            refine am_iald (n := 1060) (j := 1) d_X12_findShare_119 (Nat.le_of_ble_eq_true rfl) (Nat.le_of_ble_eq_true rfl) rfl (by decide) rfl hF ?_
            refine am_seg s_M_findShare_11 (y := (195, [(0, .ref 140), (1, .int a1), (2, .int a2), (3, .int a3), (4, .int a4)], [], am_D (am_si (am_si x2.2 140 15 (nI 1)) 140 16 ((am_si x2.2 140 15 (nI 1)).1 141 1)))) hF t_s_M_findShare_11 rfl rfl ?_
            refine am_pick [0] rfl ?_
            exact ok_M_findShare_195 hF hR hB h
          · refine am_ite h (fun hc h => ?_) (fun hc h => ?_)
            · refine am_tswIn (y := nI 2) (o := 47) (t := 126) d_X12_findShare_79 hc (by decide) (by decide) rfl (by decide) hF ?_
              refine am_seg s_M_findShare_12 (y := (130, [(0, .ref 140), (1, .int a1), (2, .int a2), (3, .int a3), (4, .int a4)], [.int (nI 1), .int a1, .ref 140, .ref 140], am_D x2.2)) hF t_s_M_findShare_12 rfl rfl ?_
              refine am_bd h (fun x4 hx h => ?_)
              refine am_callV (As := [.int a1, .int (nI 1)]) (r := (some (.int x4.1))) (st := [.ref 140]) (σ' := am_D x4.2) (ci := 12) hF hR d_X12_findShare_130 (c_M_flatOf (τ' := x4.2) hx) (Nat.le_refl _) (Nat.le_refl _) wl_M_146 wi_yX12_flatOf we_yX12_flatOf wn_ShareHouseModel wc_yX12_flatOf (Nat.le_of_ble_eq_true rfl) (Nat.le_of_ble_eq_true rfl) rfl rfl wy_yX12_flatOf rfl ⟨by decide, by decide⟩ (Nat.le_of_ble_eq_true rfl) ?_
              refine am_seg s_M_findShare_13 (y := (139, [(0, .ref 140), (1, .int a1), (2, .int a2), (3, .int a3), (4, .int a4)], [.int (nI 1), .ref 140, .ref 140], am_D (am_si x4.2 140 15 x4.1))) hF t_s_M_findShare_13 rfl rfl ?_
              refine am_bd h (fun x5 hx h => ?_)
              refine am_callV (As := [.int (nI 1)]) (r := (some (.int x5.1))) (st := [.ref 140]) (σ' := am_D x5.2) (ci := 12) hF hR d_X12_findShare_139 (c_M_together (τ' := x5.2) hx) (Nat.le_refl _) (Nat.le_refl _) wl_M_195 wi_yX12_together we_yX12_together wn_ShareHouseModel wc_yX12_together (Nat.le_of_ble_eq_true rfl) (Nat.le_of_ble_eq_true rfl) rfl rfl wy_yX12_together rfl ⟨by decide, by decide⟩ (Nat.le_of_ble_eq_true rfl) ?_
              refine am_seg s_M_findShare_14 (y := (195, [(0, .ref 140), (1, .int a1), (2, .int a2), (3, .int a3), (4, .int a4)], [], am_D (am_si x5.2 140 16 x5.1))) hF t_s_M_findShare_14 rfl rfl ?_
              refine am_pick [0] rfl ?_
              exact ok_M_findShare_195 hF hR hB h
            · refine am_ite h (fun hc h => ?_) (fun hc h => ?_)
              · refine am_tswIn (y := nI 3) (o := 69) (t := 148) d_X12_findShare_79 hc (by decide) (by decide) rfl (by decide) hF ?_
                refine am_seg s_M_findShare_15 (y := (152, [(0, .ref 140), (1, .int a1), (2, .int a2), (3, .int a3), (4, .int a4)], [.int (nI 0), .int a1, .ref 140, .ref 140], am_D x2.2)) hF t_s_M_findShare_15 rfl rfl ?_
                refine am_bd h (fun x6 hx h => ?_)
                refine am_callV (As := [.int a1, .int (nI 0)]) (r := (some (.int x6.1))) (st := [.ref 140]) (σ' := am_D x6.2) (ci := 12) hF hR d_X12_findShare_152 (c_M_flatOf (τ' := x6.2) hx) (Nat.le_refl _) (Nat.le_refl _) wl_M_146 wi_yX12_flatOf we_yX12_flatOf wn_ShareHouseModel wc_yX12_flatOf (Nat.le_of_ble_eq_true rfl) (Nat.le_of_ble_eq_true rfl) rfl rfl wy_yX12_flatOf rfl ⟨by decide, by decide⟩ (Nat.le_of_ble_eq_true rfl) ?_
                refine am_seg s_M_findShare_16 (y := (161, [(0, .ref 140), (1, .int a1), (2, .int a2), (3, .int a3), (4, .int a4)], [.int (nI 0), .ref 140, .ref 140], am_D (am_si x6.2 140 15 x6.1))) hF t_s_M_findShare_16 rfl rfl ?_
                refine am_bd h (fun x7 hx h => ?_)
                refine am_callV (As := [.int (nI 0)]) (r := (some (.int x7.1))) (st := [.ref 140]) (σ' := am_D x7.2) (ci := 12) hF hR d_X12_findShare_161 (c_M_together (τ' := x7.2) hx) (Nat.le_refl _) (Nat.le_refl _) wl_M_195 wi_yX12_together we_yX12_together wn_ShareHouseModel wc_yX12_together (Nat.le_of_ble_eq_true rfl) (Nat.le_of_ble_eq_true rfl) rfl rfl wy_yX12_together rfl ⟨by decide, by decide⟩ (Nat.le_of_ble_eq_true rfl) ?_
                refine am_seg s_M_findShare_17 (y := (195, [(0, .ref 140), (1, .int a1), (2, .int a2), (3, .int a3), (4, .int a4)], [], am_D (am_si x7.2 140 16 x7.1))) hF t_s_M_findShare_17 rfl rfl ?_
                refine am_pick [0] rfl ?_
                exact ok_M_findShare_195 hF hR hB h
              · refine am_ite h (fun hc h => ?_) (fun hc h => ?_)
                · refine am_tswIn (y := nI 4) (o := 91) (t := 170) d_X12_findShare_79 hc (by decide) (by decide) rfl (by decide) hF ?_
                  refine am_seg s_M_findShare_18 (y := (175, [(0, .ref 140), (1, .int a1), (2, .int a2), (3, .int a3), (4, .int a4)], [.int (nI 2), .int a3, .int a1, .ref 140, .ref 140], am_D x2.2)) hF t_s_M_findShare_18 rfl rfl ?_
                  refine am_bd h (fun x8 hx h => ?_)
                  refine am_callV (As := [.int a1, .int a3, .int (nI 2)]) (r := (some (.int x8.1))) (st := [.ref 140]) (σ' := am_D x8.2) (ci := 12) hF hR d_X12_findShare_175 (c_M_clauseOf (τ' := x8.2) hx) (Nat.le_refl _) (Nat.le_refl _) wl_M_185 wi_yX12_clauseOf we_yX12_clauseOf wn_ShareHouseModel wc_yX12_clauseOf (Nat.le_of_ble_eq_true rfl) (Nat.le_of_ble_eq_true rfl) rfl rfl wy_yX12_clauseOf rfl ⟨by decide, by decide⟩ (Nat.le_of_ble_eq_true rfl) ?_
                  refine am_seg s_M_findShare_19 (y := (186, [(0, .ref 140), (1, .int a1), (2, .int a2), (3, .int a3), (4, .int a4)], [.int (nI 3), .int a3, .int a1, .ref 140, .ref 140], am_D (am_si x8.2 140 15 x8.1))) hF t_s_M_findShare_19 rfl rfl ?_
                  refine am_bd h (fun x9 hx h => ?_)
                  refine am_callV (As := [.int a1, .int a3, .int (nI 3)]) (r := (some (.int x9.1))) (st := [.ref 140]) (σ' := am_D x9.2) (ci := 12) hF hR d_X12_findShare_186 (c_M_clauseOf (τ' := x9.2) hx) (Nat.le_refl _) (Nat.le_refl _) wl_M_185 wi_yX12_clauseOf we_yX12_clauseOf wn_ShareHouseModel wc_yX12_clauseOf (Nat.le_of_ble_eq_true rfl) (Nat.le_of_ble_eq_true rfl) rfl rfl wy_yX12_clauseOf rfl ⟨by decide, by decide⟩ (Nat.le_of_ble_eq_true rfl) ?_
                  refine am_seg s_M_findShare_20 (y := (195, [(0, .ref 140), (1, .int a1), (2, .int a2), (3, .int a3), (4, .int a4)], [], am_D (am_si x9.2 140 16 x9.1))) hF t_s_M_findShare_20 rfl rfl ?_
                  refine am_pick [0] rfl ?_
                  exact ok_M_findShare_195 hF hR hB h
                · cases h
      · refine am_if_ge_f (t := 72) d_X12_findShare_68 (by decide) hc hF ?_
        obtain rfl := am_one h
        exact am_vret d_X12_findShare_71 hF hB
    · refine am_icmp_ge_f (t := 57) d_X12_findShare_13 (by decide) hc hF ?_
      refine am_seg s_M_findShare_21 (y := (21, [(0, .ref 140), (1, .int a1), (2, .int a2), (3, .int a3), (4, .int a4)], [.int (nI 0), .int a4, .int a1, .ref 140], am_D x1.2)) hF t_s_M_findShare_21 rfl rfl ?_
      refine am_bd h (fun x10 hx h => ?_)
      refine am_callV (As := [.int a1, .int a4, .int (nI 0)]) (r := (some (.int x10.1))) (st := []) (σ' := am_D x10.2) (ci := 12) hF hR d_X12_findShare_21 (c_M_clauseOf (τ' := x10.2) hx) (Nat.le_refl _) (Nat.le_refl _) wl_M_185 wi_yX12_clauseOf we_yX12_clauseOf wn_ShareHouseModel wc_yX12_clauseOf (Nat.le_of_ble_eq_true rfl) (Nat.le_of_ble_eq_true rfl) rfl rfl wy_yX12_clauseOf rfl ⟨by decide, by decide⟩ (Nat.le_of_ble_eq_true rfl) ?_
      refine am_seg s_M_findShare_22 (y := (29, [(0, .ref 140), (1, .int a1), (2, .int a2), (3, .int a3), (4, .int a4)], [.int (nI 1), .int ((x10.1 >>> (a2 &&& 31)) &&& (nI 1))], am_D x10.2)) hF t_s_M_findShare_22 rfl rfl ?_
      refine am_ite h (fun hc h => ?_) (fun hc h => ?_)
      · refine am_icmp_ne_f (t := 49) d_X12_findShare_29 (by decide) hc hF ?_
        refine am_seg s_M_findShare_24 (y := (37, [(0, .ref 140), (1, .int a1), (2, .int a2), (3, .int a3), (4, .int a4)], [.int (nI 5), .int a4, .int a1, .ref 140], am_D x10.2)) hF t_s_M_findShare_24 rfl rfl ?_
        refine am_bd h (fun x11 hx h => ?_)
        refine am_callV (As := [.int a1, .int a4, .int (nI 5)]) (r := (some (.int x11.1))) (st := []) (σ' := am_D x11.2) (ci := 12) hF hR d_X12_findShare_37 (c_M_clauseOf (τ' := x11.2) hx) (Nat.le_refl _) (Nat.le_refl _) wl_M_185 wi_yX12_clauseOf we_yX12_clauseOf wn_ShareHouseModel wc_yX12_clauseOf (Nat.le_of_ble_eq_true rfl) (Nat.le_of_ble_eq_true rfl) rfl rfl wy_yX12_clauseOf rfl ⟨by decide, by decide⟩ (Nat.le_of_ble_eq_true rfl) ?_
        refine am_seg s_M_findShare_25 (y := (41, [(0, .ref 140), (1, .int a1), (2, .int a2), (3, .int a3), (4, .int a4)], [.int (nI 1), .int x11.1], am_D x11.2)) hF t_s_M_findShare_25 rfl rfl ?_
        refine am_ite h (fun hc h => ?_) (fun hc h => ?_)
        · refine am_icmp_ne_f (t := 49) d_X12_findShare_41 (by decide) hc hF ?_
          refine am_seg s_M_findShare_27 (y := (5, [(4, .int (a4 + (nI 1))), (3, .int a4), (0, .ref 140), (1, .int a1), (2, .int a2)], [], am_D x11.2)) hF t_s_M_findShare_27 rfl rfl ?_
          refine am_pick [2, 3, 4, 1, 0] rfl ?_
          exact ih _ _ _ _ _ h
        · refine am_icmp_ne_t (t := 49) d_X12_findShare_41 (by decide) hc hF ?_
          refine am_seg s_M_findShare_26 (y := (5, [(4, .int (a4 + (nI 1))), (3, .int a3), (0, .ref 140), (1, .int a1), (2, .int a2)], [], am_D x11.2)) hF t_s_M_findShare_26 rfl rfl ?_
          refine am_pick [2, 3, 4, 1, 0] rfl ?_
          exact ih _ _ _ _ _ h
      · refine am_icmp_ne_t (t := 49) d_X12_findShare_29 (by decide) hc hF ?_
        refine am_seg s_M_findShare_23 (y := (5, [(4, .int (a4 + (nI 1))), (3, .int a3), (0, .ref 140), (1, .int a1), (2, .int a2)], [], am_D x10.2)) hF t_s_M_findShare_23 rfl rfl ?_
        refine am_pick [2, 3, 4, 1, 0] rfl ?_
        exact ih _ _ _ _ _ h
def M_findShare (τ : am_T) (a1 : Int32) (a2 : Int32) : Option (am_T) :=
  M_findShare_5 5000 τ a1 a2 (-1 : Int32) (nI 0)
set_option maxRecDepth 20000 in
theorem ok_M_findShare {X : am_X} {a1 : Int32} {a2 : Int32} {τ τ' : am_T} (hF : am_F X "ShareHouseModel" cX12_findShare 5) (hR : am_R X 2 45) (hB : am_B X none none (am_D τ')) (h : M_findShare τ a1 a2 = some τ') : am_W X 5 (0, [(0, .ref 140), (1, .int a1), (2, .int a2)], [], am_D τ) := by
  unfold M_findShare at h
  refine am_seg s_M_findShare_0 (y := (5, [(4, .int (nI 0)), (3, .int (-1 : Int32)), (0, .ref 140), (1, .int a1), (2, .int a2)], [], am_D τ)) hF t_s_M_findShare_0 rfl rfl ?_
  refine am_pick [2, 3, 4, 1, 0] rfl ?_
  exact ok_M_findShare_5 hF hR hB _ _ _ _ _ _ h
theorem c_M_findShare {a1 : Int32} {a2 : Int32} {τ τ' : am_T} (h : M_findShare τ a1 a2 = some τ') : am_C yX12_findShare cX12_findShare 5 none 2 45 [.ref 140, .int a1, .int a2] (am_D τ) none (am_D τ') :=
  am_enter (by decide +kernel) (Nat.le_of_ble_eq_true rfl) ⟨Nat.le_refl _, Nat.le_refl _⟩ (fun X hF hR hB => ok_M_findShare hF hR hB h)

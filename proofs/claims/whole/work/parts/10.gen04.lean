def s_Pa_giveOut_0 : List am_Q := [(0, .iconst 0, 0, 0, 0, .int (nI 0)), (1, .istore_n 3, 0, 0, 0, .null)]
theorem t_s_Pa_giveOut_0 : s_Pa_giveOut_0.all (am_ok 6 cX6_giveOut) = true := by decide +kernel
def s_Pa_giveOut_1 : List am_Q := [(2, .iload_n 3, 0, 0, 0, .null), (3, .iload_n 1, 0, 0, 0, .null)]
theorem t_s_Pa_giveOut_1 : s_Pa_giveOut_1.all (am_ok 6 cX6_giveOut) = true := by decide +kernel
theorem d_X6_giveOut_4 : decode cX6_giveOut 4 = .ok (.if_icmp .ge 75, 3) := by decide +kernel
theorem d_X6_giveOut_79 : decode cX6_giveOut 79 = .ok (.return_, 1) := by decide +kernel
def s_Pa_giveOut_2 : List am_Q := [(7, .iload_n 3, 0, 0, 0, .null), (8, .iload_n 2, 0, 0, 0, .null)]
theorem t_s_Pa_giveOut_2 : s_Pa_giveOut_2.all (am_ok 6 cX6_giveOut) = true := by decide +kernel
theorem d_X6_giveOut_9 : decode cX6_giveOut 9 = .ok (.if_icmp .ge 70, 3) := by decide +kernel
def s_Pa_giveOut_3 : List am_Q := [(12, .iconst 0, 0, 0, 0, .int (nI 0)), (13, .istore 4, 0, 0, 0, .null), (15, .iconst 1, 0, 0, 0, .int (nI 1)), (16, .istore 5, 0, 0, 0, .null)]
theorem t_s_Pa_giveOut_3 : s_Pa_giveOut_3.all (am_ok 6 cX6_giveOut) = true := by decide +kernel
def s_Pa_giveOut_4 : List am_Q := [(18, .iload 5, 0, 0, 0, .null), (20, .iload_n 2, 0, 0, 0, .null)]
theorem t_s_Pa_giveOut_4 : s_Pa_giveOut_4.all (am_ok 6 cX6_giveOut) = true := by decide +kernel
theorem d_X6_giveOut_21 : decode cX6_giveOut 21 = .ok (.if_icmp .ge 31, 3) := by decide +kernel
def s_Pa_giveOut_5 : List am_Q := [(52, .aload_n 0, 0, 0, 0, .null), (53, .getfield 24, 6, 4, 134, .null), (56, .iload 4, 0, 0, 0, .null), (58, .dup2, 0, 0, 0, .null)]
theorem t_s_Pa_giveOut_5 : s_Pa_giveOut_5.all (am_ok 6 cX6_giveOut) = true := by decide +kernel
theorem d_X6_giveOut_59 : decode cX6_giveOut 59 = .ok (.iaload, 1) := by decide +kernel
def s_Pa_giveOut_6 : List am_Q := [(60, .iconst 1, 0, 0, 0, .int (nI 1)), (61, .iadd, 0, 0, 0, .null)]
theorem t_s_Pa_giveOut_6 : s_Pa_giveOut_6.all (am_ok 6 cX6_giveOut) = true := by decide +kernel
theorem d_X6_giveOut_62 : decode cX6_giveOut 62 = .ok (.iastore, 1) := by decide +kernel
def s_Pa_giveOut_7 : List am_Q := [(63, .aload_n 0, 0, 0, 0, .null), (64, .getfield 21, 6, 3, 133, .null), (67, .iload 4, 0, 0, 0, .null), (69, .ldc2_w 127, 0, 0, 2, .long (-1 : Int64))]
theorem t_s_Pa_giveOut_7 : s_Pa_giveOut_7.all (am_ok 6 cX6_giveOut) = true := by decide +kernel
theorem d_X6_giveOut_72 : decode cX6_giveOut 72 = .ok (.lastore, 1) := by decide +kernel
def s_Pa_giveOut_8 : List am_Q := [(73, .iinc 3 1, 0, 0, 0, .int (nI 1)), (76, .goto (-74), 2, 0, 0, .null)]
theorem t_s_Pa_giveOut_8 : s_Pa_giveOut_8.all (am_ok 6 cX6_giveOut) = true := by decide +kernel
def s_Pa_giveOut_9 : List am_Q := [(24, .aload_n 0, 0, 0, 0, .null), (25, .getfield 21, 6, 3, 133, .null), (28, .iload 5, 0, 0, 0, .null)]
theorem t_s_Pa_giveOut_9 : s_Pa_giveOut_9.all (am_ok 6 cX6_giveOut) = true := by decide +kernel
theorem d_X6_giveOut_30 : decode cX6_giveOut 30 = .ok (.laload, 1) := by decide +kernel
def s_Pa_giveOut_10 : List am_Q := [(31, .aload_n 0, 0, 0, 0, .null), (32, .getfield 21, 6, 3, 133, .null), (35, .iload 4, 0, 0, 0, .null)]
theorem t_s_Pa_giveOut_10 : s_Pa_giveOut_10.all (am_ok 6 cX6_giveOut) = true := by decide +kernel
theorem d_X6_giveOut_37 : decode cX6_giveOut 37 = .ok (.laload, 1) := by decide +kernel
def s_Pa_giveOut_11 : List am_Q := [(38, .lcmp, 0, 0, 0, .null)]
theorem t_s_Pa_giveOut_11 : s_Pa_giveOut_11.all (am_ok 6 cX6_giveOut) = true := by decide +kernel
theorem d_X6_giveOut_39 : decode cX6_giveOut 39 = .ok (.ifCond .le 7, 3) := by decide +kernel
def s_Pa_giveOut_12 : List am_Q := [(46, .iinc 5 1, 0, 0, 0, .int (nI 1)), (49, .goto (-31), 18, 0, 0, .null)]
theorem t_s_Pa_giveOut_12 : s_Pa_giveOut_12.all (am_ok 6 cX6_giveOut) = true := by decide +kernel
def s_Pa_giveOut_13 : List am_Q := [(42, .iload 5, 0, 0, 0, .null), (44, .istore 4, 0, 0, 0, .null), (46, .iinc 5 1, 0, 0, 0, .int (nI 1)), (49, .goto (-31), 18, 0, 0, .null)]
theorem t_s_Pa_giveOut_13 : s_Pa_giveOut_13.all (am_ok 6 cX6_giveOut) = true := by decide +kernel
def Pa_giveOut_18 (k2 : am_T → Int32 → Int32 → Int32 → Option (am_T)) : Nat → am_T → Int32 → Int32 → Int32 → Int32 → Int32 → Option (am_T)
  | 0, _, _, _, _, _, _ => none
  | n + 1, τ, a1, a2, a3, a4, a5 =>
    if a2 ≤ a5 then
  (am_g (am_in a4 8) (am_g (am_in a4 8) (am_g (am_in a4 8) (k2 (am_sl (am_si τ 126 (a4.toNatClampNeg) ((τ.1 126 (a4.toNatClampNeg)) + (nI 1))) 125 (a4.toNatClampNeg) (-1 : Int64)) a1 a2 (a3 + (nI 1))))))
else
  (am_g (am_in a5 8) (am_g (am_in a4 8) (if (lg_cmp (τ.2 125 (a5.toNatClampNeg)) (τ.2 125 (a4.toNatClampNeg))) ≤ 0 then
  ((Pa_giveOut_18 k2 n) τ a1 a2 a3 a4 (a5 + (nI 1)))
else
  ((Pa_giveOut_18 k2 n) τ a1 a2 a3 a5 (a5 + (nI 1))))))
set_option maxRecDepth 20000 in
theorem ok_Pa_giveOut_18 {X : am_X} {τ' : am_T} (hF : am_F X "ShareHouse$Parting" cX6_giveOut 6) (hR : am_R X 0 0) (hB : am_B X none none (am_D τ')) {k2 : am_T → Int32 → Int32 → Int32 → Option (am_T)} (hk2 : ∀ (τ : am_T) (a1 : Int32) (a2 : Int32) (a3 : Int32), k2 τ a1 a2 a3 = some τ' → am_W X 6 (2, [(0, .ref 121), (1, .int a1), (2, .int a2), (3, .int a3)], [], am_D τ)) : ∀ (n : Nat) (τ : am_T) (a1 : Int32) (a2 : Int32) (a3 : Int32) (a4 : Int32) (a5 : Int32), Pa_giveOut_18 k2 n τ a1 a2 a3 a4 a5 = some τ' → am_W X 6 (18, [(0, .ref 121), (1, .int a1), (2, .int a2), (3, .int a3), (4, .int a4), (5, .int a5)], [], am_D τ) := by
  intro n
  induction n with
  | zero => intro τ a1 a2 a3 a4 a5 h; unfold Pa_giveOut_18 at h; cases h
  | succ n ih =>
    intro τ a1 a2 a3 a4 a5 h
    unfold Pa_giveOut_18 at h
    refine am_seg s_Pa_giveOut_4 (y := (21, [(0, .ref 121), (1, .int a1), (2, .int a2), (3, .int a3), (4, .int a4), (5, .int a5)], [.int a2, .int a5], am_D τ)) hF t_s_Pa_giveOut_4 rfl rfl ?_
    refine am_ite h (fun hc h => ?_) (fun hc h => ?_)
    · refine am_icmp_ge_t (t := 52) d_X6_giveOut_21 (by decide) hc hF ?_
      refine am_seg s_Pa_giveOut_5 (y := (59, [(0, .ref 121), (1, .int a1), (2, .int a2), (3, .int a3), (4, .int a4), (5, .int a5)], [.int a4, .ref 126, .int a4, .ref 126], am_D τ)) hF t_s_Pa_giveOut_5 rfl rfl ?_
      refine am_gd h (fun hi h => ?_)
      refine am_iald (n := 8) (j := (a4.toNatClampNeg)) d_X6_giveOut_59 (Nat.le_of_ble_eq_true rfl) (Nat.le_of_ble_eq_true rfl) rfl hi rfl hF ?_
      refine am_seg s_Pa_giveOut_6 (y := (62, [(0, .ref 121), (1, .int a1), (2, .int a2), (3, .int a3), (4, .int a4), (5, .int a5)], [.int ((τ.1 126 (a4.toNatClampNeg)) + (nI 1)), .int a4, .ref 126], am_D τ)) hF t_s_Pa_giveOut_6 rfl rfl ?_
      refine am_gd h (fun hi h => ?_)
      refine am_iast (n := 8) (j := (a4.toNatClampNeg)) d_X6_giveOut_62 (Nat.le_of_ble_eq_true rfl) (Nat.le_of_ble_eq_true rfl) rfl hi rfl hF ?_
      refine am_seg s_Pa_giveOut_7 (y := (72, [(0, .ref 121), (1, .int a1), (2, .int a2), (3, .int a3), (4, .int a4), (5, .int a5)], [.long (-1 : Int64), .int a4, .ref 125], am_D (am_si τ 126 (a4.toNatClampNeg) ((τ.1 126 (a4.toNatClampNeg)) + (nI 1))))) hF t_s_Pa_giveOut_7 rfl rfl ?_
      refine am_gd h (fun hi h => ?_)
      refine am_last (n := 8) (j := (a4.toNatClampNeg)) d_X6_giveOut_72 (Nat.le_of_ble_eq_true rfl) (Nat.le_of_ble_eq_true rfl) rfl hi rfl hF ?_
      refine am_seg s_Pa_giveOut_8 (y := (2, [(3, .int (a3 + (nI 1))), (0, .ref 121), (1, .int a1), (2, .int a2), (4, .int a4), (5, .int a5)], [], am_D (am_sl (am_si τ 126 (a4.toNatClampNeg) ((τ.1 126 (a4.toNatClampNeg)) + (nI 1))) 125 (a4.toNatClampNeg) (-1 : Int64)))) hF t_s_Pa_giveOut_8 rfl rfl ?_
      refine am_pick [1, 2, 3, 0] rfl ?_
      exact hk2 _ _ _ _ h
    · refine am_icmp_ge_f (t := 52) d_X6_giveOut_21 (by decide) hc hF ?_
      refine am_seg s_Pa_giveOut_9 (y := (30, [(0, .ref 121), (1, .int a1), (2, .int a2), (3, .int a3), (4, .int a4), (5, .int a5)], [.int a5, .ref 125], am_D τ)) hF t_s_Pa_giveOut_9 rfl rfl ?_
      refine am_gd h (fun hi h => ?_)
      refine am_lald (n := 8) (j := (a5.toNatClampNeg)) d_X6_giveOut_30 (Nat.le_of_ble_eq_true rfl) (Nat.le_of_ble_eq_true rfl) rfl hi rfl hF ?_
      refine am_seg s_Pa_giveOut_10 (y := (37, [(0, .ref 121), (1, .int a1), (2, .int a2), (3, .int a3), (4, .int a4), (5, .int a5)], [.int a4, .ref 125, .long (τ.2 125 (a5.toNatClampNeg))], am_D τ)) hF t_s_Pa_giveOut_10 rfl rfl ?_
      refine am_gd h (fun hi h => ?_)
      refine am_lald (n := 8) (j := (a4.toNatClampNeg)) d_X6_giveOut_37 (Nat.le_of_ble_eq_true rfl) (Nat.le_of_ble_eq_true rfl) rfl hi rfl hF ?_
      refine am_seg s_Pa_giveOut_11 (y := (39, [(0, .ref 121), (1, .int a1), (2, .int a2), (3, .int a3), (4, .int a4), (5, .int a5)], [.int (lg_cmp (τ.2 125 (a5.toNatClampNeg)) (τ.2 125 (a4.toNatClampNeg)))], am_D τ)) hF t_s_Pa_giveOut_11 rfl rfl ?_
      refine am_ite h (fun hc h => ?_) (fun hc h => ?_)
      · refine am_if_le_t (t := 46) d_X6_giveOut_39 (by decide) hc hF ?_
        refine am_seg s_Pa_giveOut_12 (y := (18, [(5, .int (a5 + (nI 1))), (0, .ref 121), (1, .int a1), (2, .int a2), (3, .int a3), (4, .int a4)], [], am_D τ)) hF t_s_Pa_giveOut_12 rfl rfl ?_
        refine am_pick [1, 2, 3, 4, 5, 0] rfl ?_
        exact ih _ _ _ _ _ _ h
      · refine am_if_le_f (t := 46) d_X6_giveOut_39 (by decide) hc hF ?_
        refine am_seg s_Pa_giveOut_13 (y := (18, [(5, .int (a5 + (nI 1))), (4, .int a5), (0, .ref 121), (1, .int a1), (2, .int a2), (3, .int a3)], [], am_D τ)) hF t_s_Pa_giveOut_13 rfl rfl ?_
        refine am_pick [2, 3, 4, 5, 1, 0] rfl ?_
        exact ih _ _ _ _ _ _ h
def Pa_giveOut_2 : Nat → am_T → Int32 → Int32 → Int32 → Option (am_T)
  | 0, _, _, _, _ => none
  | n + 1, τ, a1, a2, a3 =>
    if a1 ≤ a3 then
  (some τ)
else
  (if a2 ≤ a3 then
  (some τ)
else
  (Pa_giveOut_18 (Pa_giveOut_2 n) 5000 τ a1 a2 a3 (nI 0) (nI 1)))
set_option maxRecDepth 20000 in
theorem ok_Pa_giveOut_2 {X : am_X} {τ' : am_T} (hF : am_F X "ShareHouse$Parting" cX6_giveOut 6) (hR : am_R X 0 0) (hB : am_B X none none (am_D τ')) : ∀ (n : Nat) (τ : am_T) (a1 : Int32) (a2 : Int32) (a3 : Int32), Pa_giveOut_2 n τ a1 a2 a3 = some τ' → am_W X 6 (2, [(0, .ref 121), (1, .int a1), (2, .int a2), (3, .int a3)], [], am_D τ) := by
  intro n
  induction n with
  | zero => intro τ a1 a2 a3 h; unfold Pa_giveOut_2 at h; cases h
  | succ n ih =>
    intro τ a1 a2 a3 h
    unfold Pa_giveOut_2 at h
    refine am_seg s_Pa_giveOut_1 (y := (4, [(0, .ref 121), (1, .int a1), (2, .int a2), (3, .int a3)], [.int a1, .int a3], am_D τ)) hF t_s_Pa_giveOut_1 rfl rfl ?_
    refine am_ite h (fun hc h => ?_) (fun hc h => ?_)
    · refine am_icmp_ge_t (t := 79) d_X6_giveOut_4 (by decide) hc hF ?_
      obtain rfl := am_one h
      exact am_vret d_X6_giveOut_79 hF hB
    · refine am_icmp_ge_f (t := 79) d_X6_giveOut_4 (by decide) hc hF ?_
      refine am_seg s_Pa_giveOut_2 (y := (9, [(0, .ref 121), (1, .int a1), (2, .int a2), (3, .int a3)], [.int a2, .int a3], am_D τ)) hF t_s_Pa_giveOut_2 rfl rfl ?_
      refine am_ite h (fun hc h => ?_) (fun hc h => ?_)
      · refine am_icmp_ge_t (t := 79) d_X6_giveOut_9 (by decide) hc hF ?_
        obtain rfl := am_one h
        exact am_vret d_X6_giveOut_79 hF hB
      · refine am_icmp_ge_f (t := 79) d_X6_giveOut_9 (by decide) hc hF ?_
        refine am_seg s_Pa_giveOut_3 (y := (18, [(5, .int (nI 1)), (4, .int (nI 0)), (0, .ref 121), (1, .int a1), (2, .int a2), (3, .int a3)], [], am_D τ)) hF t_s_Pa_giveOut_3 rfl rfl ?_
        refine am_pick [2, 3, 4, 5, 1, 0] rfl ?_
        exact ok_Pa_giveOut_18 hF hR hB ih _ _ _ _ _ _ _ h
def Pa_giveOut (τ : am_T) (a1 : Int32) (a2 : Int32) : Option (am_T) :=
  Pa_giveOut_2 5000 τ a1 a2 (nI 0)
set_option maxRecDepth 20000 in
theorem ok_Pa_giveOut {X : am_X} {a1 : Int32} {a2 : Int32} {τ τ' : am_T} (hF : am_F X "ShareHouse$Parting" cX6_giveOut 6) (hR : am_R X 0 0) (hB : am_B X none none (am_D τ')) (h : Pa_giveOut τ a1 a2 = some τ') : am_W X 6 (0, [(0, .ref 121), (1, .int a1), (2, .int a2)], [], am_D τ) := by
  unfold Pa_giveOut at h
  refine am_seg s_Pa_giveOut_0 (y := (2, [(3, .int (nI 0)), (0, .ref 121), (1, .int a1), (2, .int a2)], [], am_D τ)) hF t_s_Pa_giveOut_0 rfl rfl ?_
  refine am_pick [1, 2, 3, 0] rfl ?_
  exact ok_Pa_giveOut_2 hF hR hB _ _ _ _ _ h
theorem c_Pa_giveOut {a1 : Int32} {a2 : Int32} {τ τ' : am_T} (h : Pa_giveOut τ a1 a2 = some τ') : am_C yX6_giveOut cX6_giveOut 6 none 0 0 [.ref 121, .int a1, .int a2] (am_D τ) none (am_D τ') :=
  am_enter (by decide +kernel) (Nat.le_of_ble_eq_true rfl) ⟨Nat.le_refl _, Nat.le_refl _⟩ (fun X hF hR hB => ok_Pa_giveOut hF hR hB h)
def s_Pa_capParts_0 : List am_Q := [(0, .iconst 0, 0, 0, 0, .int (nI 0)), (1, .istore_n 3, 0, 0, 0, .null)]
theorem t_s_Pa_capParts_0 : s_Pa_capParts_0.all (am_ok 6 cX6_capParts) = true := by decide +kernel
def s_Pa_capParts_1 : List am_Q := [(2, .iload_n 3, 0, 0, 0, .null), (3, .iload_n 2, 0, 0, 0, .null)]
theorem t_s_Pa_capParts_1 : s_Pa_capParts_1.all (am_ok 6 cX6_capParts) = true := by decide +kernel
theorem d_X6_capParts_4 : decode cX6_capParts 4 = .ok (.if_icmp .ge 25, 3) := by decide +kernel
theorem d_X6_capParts_29 : decode cX6_capParts 29 = .ok (.return_, 1) := by decide +kernel
def s_Pa_capParts_2 : List am_Q := [(7, .aload_n 0, 0, 0, 0, .null), (8, .getfield 24, 6, 4, 134, .null), (11, .iload_n 3, 0, 0, 0, .null), (12, .aload_n 0, 0, 0, 0, .null), (13, .getfield 24, 6, 4, 134, .null), (16, .iload_n 3, 0, 0, 0, .null)]
theorem t_s_Pa_capParts_2 : s_Pa_capParts_2.all (am_ok 6 cX6_capParts) = true := by decide +kernel
theorem d_X6_capParts_17 : decode cX6_capParts 17 = .ok (.iaload, 1) := by decide +kernel
def s_Pa_capParts_3 : List am_Q := [(18, .iload_n 1, 0, 0, 0, .null)]
theorem t_s_Pa_capParts_3 : s_Pa_capParts_3.all (am_ok 6 cX6_capParts) = true := by decide +kernel
theorem d_X6_capParts_19 : decode cX6_capParts 19 = .ok (.invokestatic 129, 3) := by decide +kernel
theorem d_X6_capParts_22 : decode cX6_capParts 22 = .ok (.iastore, 1) := by decide +kernel
def s_Pa_capParts_4 : List am_Q := [(23, .iinc 3 1, 0, 0, 0, .int (nI 1)), (26, .goto (-24), 2, 0, 0, .null)]
theorem t_s_Pa_capParts_4 : s_Pa_capParts_4.all (am_ok 6 cX6_capParts) = true := by decide +kernel
def Pa_capParts_2 : Nat → am_T → Int32 → Int32 → Int32 → Option (am_T)
  | 0, _, _, _, _ => none
  | n + 1, τ, a1, a2, a3 =>
    if a2 ≤ a3 then
  (some τ)
else
  (am_g (am_in a3 8) (am_g (am_in a3 8) ((Pa_capParts_2 n) (am_si τ 126 (a3.toNatClampNeg) (if a1 < (τ.1 126 (a3.toNatClampNeg)) then a1 else (τ.1 126 (a3.toNatClampNeg)))) a1 a2 (a3 + (nI 1)))))
set_option maxRecDepth 20000 in
theorem ok_Pa_capParts_2 {X : am_X} {τ' : am_T} (hF : am_F X "ShareHouse$Parting" cX6_capParts 4) (hR : am_R X 1 23) (hB : am_B X none none (am_D τ')) : ∀ (n : Nat) (τ : am_T) (a1 : Int32) (a2 : Int32) (a3 : Int32), Pa_capParts_2 n τ a1 a2 a3 = some τ' → am_W X 4 (2, [(0, .ref 121), (1, .int a1), (2, .int a2), (3, .int a3)], [], am_D τ) := by
  intro n
  induction n with
  | zero => intro τ a1 a2 a3 h; unfold Pa_capParts_2 at h; cases h
  | succ n ih =>
    intro τ a1 a2 a3 h
    unfold Pa_capParts_2 at h
    refine am_seg s_Pa_capParts_1 (y := (4, [(0, .ref 121), (1, .int a1), (2, .int a2), (3, .int a3)], [.int a2, .int a3], am_D τ)) hF t_s_Pa_capParts_1 rfl rfl ?_
    refine am_ite h (fun hc h => ?_) (fun hc h => ?_)
    · refine am_icmp_ge_t (t := 29) d_X6_capParts_4 (by decide) hc hF ?_
      obtain rfl := am_one h
      exact am_vret d_X6_capParts_29 hF hB
    · refine am_icmp_ge_f (t := 29) d_X6_capParts_4 (by decide) hc hF ?_
      refine am_seg s_Pa_capParts_2 (y := (17, [(0, .ref 121), (1, .int a1), (2, .int a2), (3, .int a3)], [.int a3, .ref 126, .int a3, .ref 126], am_D τ)) hF t_s_Pa_capParts_2 rfl rfl ?_
      refine am_gd h (fun hi h => ?_)
      refine am_iald (n := 8) (j := (a3.toNatClampNeg)) d_X6_capParts_17 (Nat.le_of_ble_eq_true rfl) (Nat.le_of_ble_eq_true rfl) rfl hi rfl hF ?_
      refine am_seg s_Pa_capParts_3 (y := (19, [(0, .ref 121), (1, .int a1), (2, .int a2), (3, .int a3)], [.int a1, .int (τ.1 126 (a3.toNatClampNeg)), .int a3, .ref 126], am_D τ)) hF t_s_Pa_capParts_3 rfl rfl ?_
      refine am_mmin d_X6_capParts_19 wq_min_6_129 wq_min_s wq_math wq_min_c ⟨by decide, Nat.le_of_ble_eq_true rfl⟩ (Nat.le_refl _) hF hR ?_
      refine am_gd h (fun hi h => ?_)
      refine am_iast (n := 8) (j := (a3.toNatClampNeg)) d_X6_capParts_22 (Nat.le_of_ble_eq_true rfl) (Nat.le_of_ble_eq_true rfl) rfl hi rfl hF ?_
      refine am_seg s_Pa_capParts_4 (y := (2, [(3, .int (a3 + (nI 1))), (0, .ref 121), (1, .int a1), (2, .int a2)], [], am_D (am_si τ 126 (a3.toNatClampNeg) (if a1 < (τ.1 126 (a3.toNatClampNeg)) then a1 else (τ.1 126 (a3.toNatClampNeg)))))) hF t_s_Pa_capParts_4 rfl rfl ?_
      refine am_pick [1, 2, 3, 0] rfl ?_
      exact ih _ _ _ _ h
def Pa_capParts (τ : am_T) (a1 : Int32) (a2 : Int32) : Option (am_T) :=
  Pa_capParts_2 5000 τ a1 a2 (nI 0)
set_option maxRecDepth 20000 in
theorem ok_Pa_capParts {X : am_X} {a1 : Int32} {a2 : Int32} {τ τ' : am_T} (hF : am_F X "ShareHouse$Parting" cX6_capParts 4) (hR : am_R X 1 23) (hB : am_B X none none (am_D τ')) (h : Pa_capParts τ a1 a2 = some τ') : am_W X 4 (0, [(0, .ref 121), (1, .int a1), (2, .int a2)], [], am_D τ) := by
  unfold Pa_capParts at h
  refine am_seg s_Pa_capParts_0 (y := (2, [(3, .int (nI 0)), (0, .ref 121), (1, .int a1), (2, .int a2)], [], am_D τ)) hF t_s_Pa_capParts_0 rfl rfl ?_
  refine am_pick [1, 2, 3, 0] rfl ?_
  exact ok_Pa_capParts_2 hF hR hB _ _ _ _ _ h
theorem c_Pa_capParts {a1 : Int32} {a2 : Int32} {τ τ' : am_T} (h : Pa_capParts τ a1 a2 = some τ') : am_C yX6_capParts cX6_capParts 4 none 1 23 [.ref 121, .int a1, .int a2] (am_D τ) none (am_D τ') :=
  am_enter (by decide +kernel) (Nat.le_of_ble_eq_true rfl) ⟨Nat.le_refl _, Nat.le_refl _⟩ (fun X hF hR hB => ok_Pa_capParts hF hR hB h)
def s_Pa_divide_0 : List am_Q := [(0, .aload_n 1, 0, 0, 0, .null), (1, .getfield 85, 3, 4, 100, .null), (4, .getfield 91, 1, 0, 20, .null), (7, .iload_n 2, 0, 0, 0, .null)]
theorem t_s_Pa_divide_0 : s_Pa_divide_0.all (am_ok 6 cX6_divide) = true := by decide +kernel
theorem d_X6_divide_8 : decode cX6_divide 8 = .ok (.iaload, 1) := by decide +kernel
def s_Pa_divide_1 : List am_Q := [(9, .istore 4, 0, 0, 0, .null), (11, .aload_n 1, 0, 0, 0, .null), (12, .getfield 96, 3, 3, 97, .null), (15, .getfield 32, 2, 4, 15, .null), (18, .istore 5, 0, 0, 0, .null), (20, .aload_n 0, 0, 0, 0, .null), (21, .aload_n 1, 0, 0, 0, .null), (22, .getfield 96, 3, 3, 97, .null), (25, .iload 4, 0, 0, 0, .null)]
theorem t_s_Pa_divide_1 : s_Pa_divide_1.all (am_ok 6 cX6_divide) = true := by decide +kernel
theorem d_X6_divide_27 : decode cX6_divide 27 = .ok (.invokevirtual 100, 3) := by decide +kernel
def s_Pa_divide_2 : List am_Q := [(30, .aload_n 1, 0, 0, 0, .null), (31, .getfield 104, 3, 2, 92, .null), (34, .iload 4, 0, 0, 0, .null)]
theorem t_s_Pa_divide_2 : s_Pa_divide_2.all (am_ok 6 cX6_divide) = true := by decide +kernel
theorem d_X6_divide_36 : decode cX6_divide 36 = .ok (.iaload, 1) := by decide +kernel
def s_Pa_divide_3 : List am_Q := [(37, .istore 6, 0, 0, 0, .null), (39, .aload_n 0, 0, 0, 0, .null), (40, .getfield 51, 6, 6, 139, .null), (43, .lconst 0, 0, 0, 0, .long (lN 0)), (44, .lcmp, 0, 0, 0, .null)]
theorem t_s_Pa_divide_3 : s_Pa_divide_3.all (am_ok 6 cX6_divide) = true := by decide +kernel
theorem d_X6_divide_45 : decode cX6_divide 45 = .ok (.ifCond .le 31, 3) := by decide +kernel
def s_Pa_divide_4 : List am_Q := [(76, .iconst 0, 0, 0, 0, .int (nI 0))]
theorem t_s_Pa_divide_4 : s_Pa_divide_4.all (am_ok 6 cX6_divide) = true := by decide +kernel
def s_Pa_divide_5 : List am_Q := [(77, .istore 7, 0, 0, 0, .null), (79, .lconst 1, 0, 0, 0, .long (lN 1)), (80, .iload 7, 0, 0, 0, .null)]
theorem t_s_Pa_divide_5 : s_Pa_divide_5.all (am_ok 6 cX6_divide) = true := by decide +kernel
theorem d_X6_divide_82 : decode cX6_divide 82 = .ok (.ifCond .eq 10, 3) := by decide +kernel
def s_Pa_divide_6 : List am_Q := [(92, .aload_n 0, 0, 0, 0, .null), (93, .getfield 28, 6, 5, 137, .null)]
theorem t_s_Pa_divide_6 : s_Pa_divide_6.all (am_ok 6 cX6_divide) = true := by decide +kernel
theorem d_X6_divide_96 : decode cX6_divide 96 = .ok (.invokestatic 46, 3) := by decide +kernel
def s_Pa_divide_7 : List am_Q := [(99, .lstore 8, 0, 0, 0, .null), (101, .aload_n 1, 0, 0, 0, .null), (102, .getfield 85, 3, 4, 100, .null), (105, .iload_n 2, 0, 0, 0, .null), (106, .iload_n 3, 0, 0, 0, .null)]
theorem t_s_Pa_divide_7 : s_Pa_divide_7.all (am_ok 6 cX6_divide) = true := by decide +kernel
theorem d_X6_divide_107 : decode cX6_divide 107 = .ok (.invokevirtual 107, 3) := by decide +kernel
def s_Pa_divide_8 : List am_Q := [(110, .istore 10, 0, 0, 0, .null), (112, .iconst 0, 0, 0, 0, .int (nI 0)), (113, .istore 11, 0, 0, 0, .null)]
theorem t_s_Pa_divide_8 : s_Pa_divide_8.all (am_ok 6 cX6_divide) = true := by decide +kernel
def s_Pa_divide_9 : List am_Q := [(115, .iload 11, 0, 0, 0, .null), (117, .iload 5, 0, 0, 0, .null)]
theorem t_s_Pa_divide_9 : s_Pa_divide_9.all (am_ok 6 cX6_divide) = true := by decide +kernel
theorem d_X6_divide_119 : decode cX6_divide 119 = .ok (.if_icmp .ge 52, 3) := by decide +kernel
def s_Pa_divide_10 : List am_Q := [(171, .iload 7, 0, 0, 0, .null)]
theorem t_s_Pa_divide_10 : s_Pa_divide_10.all (am_ok 6 cX6_divide) = true := by decide +kernel
theorem d_X6_divide_173 : decode cX6_divide 173 = .ok (.ifCond .ne 15, 3) := by decide +kernel
def s_Pa_divide_11 : List am_Q := [(188, .aload_n 0, 0, 0, 0, .null), (189, .iload 10, 0, 0, 0, .null), (191, .aload_n 0, 0, 0, 0, .null), (192, .iload 5, 0, 0, 0, .null)]
theorem t_s_Pa_divide_11 : s_Pa_divide_11.all (am_ok 6 cX6_divide) = true := by decide +kernel
theorem d_X6_divide_194 : decode cX6_divide 194 = .ok (.invokevirtual 110, 3) := by decide +kernel
def s_Pa_divide_12 : List am_Q := [(197, .isub, 0, 0, 0, .null), (198, .iload 5, 0, 0, 0, .null)]
theorem t_s_Pa_divide_12 : s_Pa_divide_12.all (am_ok 6 cX6_divide) = true := by decide +kernel
theorem d_X6_divide_200 : decode cX6_divide 200 = .ok (.invokevirtual 113, 3) := by decide +kernel
def s_Pa_divide_13 : List am_Q := [(203, .aload_n 1, 0, 0, 0, .null), (204, .getfield 85, 3, 4, 100, .null), (207, .getfield 117, 1, 4, 30, .null), (210, .iload_n 2, 0, 0, 0, .null)]
theorem t_s_Pa_divide_13 : s_Pa_divide_13.all (am_ok 6 cX6_divide) = true := by decide +kernel
theorem d_X6_divide_211 : decode cX6_divide 211 = .ok (.baload, 1) := by decide +kernel
theorem d_X6_divide_212 : decode cX6_divide 212 = .ok (.ifCond .eq 15, 3) := by decide +kernel
theorem d_X6_divide_227 : decode cX6_divide 227 = .ok (.return_, 1) := by decide +kernel
def s_Pa_divide_14 : List am_Q := [(215, .aload_n 0, 0, 0, 0, .null), (216, .aload_n 1, 0, 0, 0, .null), (217, .getfield 121, 3, 1, 88, .null), (220, .iconst 1, 0, 0, 0, .int (nI 1))]
theorem t_s_Pa_divide_14 : s_Pa_divide_14.all (am_ok 6 cX6_divide) = true := by decide +kernel
theorem d_X6_divide_221 : decode cX6_divide 221 = .ok (.iaload, 1) := by decide +kernel
def s_Pa_divide_15 : List am_Q := [(222, .iload 5, 0, 0, 0, .null)]
theorem t_s_Pa_divide_15 : s_Pa_divide_15.all (am_ok 6 cX6_divide) = true := by decide +kernel
theorem d_X6_divide_224 : decode cX6_divide 224 = .ok (.invokevirtual 124, 3) := by decide +kernel
def s_Pa_divide_16 : List am_Q := [(176, .aload_n 0, 0, 0, 0, .null), (177, .getfield 51, 6, 6, 139, .null), (180, .aload_n 0, 0, 0, 0, .null), (181, .getfield 28, 6, 5, 137, .null), (184, .lcmp, 0, 0, 0, .null)]
theorem t_s_Pa_divide_16 : s_Pa_divide_16.all (am_ok 6 cX6_divide) = true := by decide +kernel
theorem d_X6_divide_185 : decode cX6_divide 185 = .ok (.ifCond .ne 18, 3) := by decide +kernel
def s_Pa_divide_17 : List am_Q := [(122, .aload_n 0, 0, 0, 0, .null), (123, .getfield 24, 6, 4, 134, .null), (126, .iload 11, 0, 0, 0, .null), (128, .iload 10, 0, 0, 0, .null), (130, .i2l, 0, 0, 0, .null), (131, .aload_n 0, 0, 0, 0, .null), (132, .getfield 18, 6, 2, 132, .null), (135, .iload 11, 0, 0, 0, .null)]
theorem t_s_Pa_divide_17 : s_Pa_divide_17.all (am_ok 6 cX6_divide) = true := by decide +kernel
theorem d_X6_divide_137 : decode cX6_divide 137 = .ok (.laload, 1) := by decide +kernel
def s_Pa_divide_18 : List am_Q := [(138, .lmul, 0, 0, 0, .null), (139, .lload 8, 0, 0, 0, .null)]
theorem t_s_Pa_divide_18 : s_Pa_divide_18.all (am_ok 6 cX6_divide) = true := by decide +kernel
theorem d_X6_divide_141 : decode cX6_divide 141 = .ok (.ldiv, 1) := by decide +kernel
def s_Pa_divide_19 : List am_Q := [(142, .l2i, 0, 0, 0, .null)]
theorem t_s_Pa_divide_19 : s_Pa_divide_19.all (am_ok 6 cX6_divide) = true := by decide +kernel
theorem d_X6_divide_143 : decode cX6_divide 143 = .ok (.iastore, 1) := by decide +kernel
def s_Pa_divide_20 : List am_Q := [(144, .aload_n 0, 0, 0, 0, .null), (145, .getfield 21, 6, 3, 133, .null), (148, .iload 11, 0, 0, 0, .null), (150, .iload 10, 0, 0, 0, .null), (152, .i2l, 0, 0, 0, .null), (153, .aload_n 0, 0, 0, 0, .null), (154, .getfield 18, 6, 2, 132, .null), (157, .iload 11, 0, 0, 0, .null)]
theorem t_s_Pa_divide_20 : s_Pa_divide_20.all (am_ok 6 cX6_divide) = true := by decide +kernel
theorem d_X6_divide_159 : decode cX6_divide 159 = .ok (.laload, 1) := by decide +kernel
def s_Pa_divide_21 : List am_Q := [(160, .lmul, 0, 0, 0, .null), (161, .lload 8, 0, 0, 0, .null)]
theorem t_s_Pa_divide_21 : s_Pa_divide_21.all (am_ok 6 cX6_divide) = true := by decide +kernel
theorem d_X6_divide_163 : decode cX6_divide 163 = .ok (.lrem, 1) := by decide +kernel
theorem d_X6_divide_164 : decode cX6_divide 164 = .ok (.lastore, 1) := by decide +kernel
def s_Pa_divide_22 : List am_Q := [(165, .iinc 11 1, 0, 0, 0, .int (nI 1)), (168, .goto (-53), 115, 0, 0, .null)]
theorem t_s_Pa_divide_22 : s_Pa_divide_22.all (am_ok 6 cX6_divide) = true := by decide +kernel
def s_Pa_divide_23 : List am_Q := [(85, .aload_n 0, 0, 0, 0, .null), (86, .getfield 51, 6, 6, 139, .null), (89, .goto 7, 96, 0, 0, .null)]
theorem t_s_Pa_divide_23 : s_Pa_divide_23.all (am_ok 6 cX6_divide) = true := by decide +kernel
def s_Pa_divide_24 : List am_Q := [(48, .iload 6, 0, 0, 0, .null), (50, .iconst 1, 0, 0, 0, .int (nI 1))]
theorem t_s_Pa_divide_24 : s_Pa_divide_24.all (am_ok 6 cX6_divide) = true := by decide +kernel
theorem d_X6_divide_51 : decode cX6_divide 51 = .ok (.if_icmp .eq 21, 3) := by decide +kernel
def s_Pa_divide_25 : List am_Q := [(72, .iconst 1, 0, 0, 0, .int (nI 1)), (73, .goto 4, 77, 0, 0, .null)]
theorem t_s_Pa_divide_25 : s_Pa_divide_25.all (am_ok 6 cX6_divide) = true := by decide +kernel
def s_Pa_divide_26 : List am_Q := [(54, .iload 6, 0, 0, 0, .null), (56, .iconst 2, 0, 0, 0, .int (nI 2))]
theorem t_s_Pa_divide_26 : s_Pa_divide_26.all (am_ok 6 cX6_divide) = true := by decide +kernel
theorem d_X6_divide_57 : decode cX6_divide 57 = .ok (.if_icmp .ne 19, 3) := by decide +kernel
def s_Pa_divide_27 : List am_Q := [(76, .iconst 0, 0, 0, 0, .int (nI 0))]
theorem t_s_Pa_divide_27 : s_Pa_divide_27.all (am_ok 6 cX6_divide) = true := by decide +kernel
def s_Pa_divide_28 : List am_Q := [(60, .aload_n 0, 0, 0, 0, .null), (61, .getfield 51, 6, 6, 139, .null), (64, .aload_n 0, 0, 0, 0, .null), (65, .getfield 28, 6, 5, 137, .null), (68, .lcmp, 0, 0, 0, .null)]
theorem t_s_Pa_divide_28 : s_Pa_divide_28.all (am_ok 6 cX6_divide) = true := by decide +kernel
theorem d_X6_divide_69 : decode cX6_divide 69 = .ok (.ifCond .le 7, 3) := by decide +kernel
def s_Pa_divide_29 : List am_Q := [(76, .iconst 0, 0, 0, 0, .int (nI 0))]
theorem t_s_Pa_divide_29 : s_Pa_divide_29.all (am_ok 6 cX6_divide) = true := by decide +kernel
def s_Pa_divide_30 : List am_Q := [(72, .iconst 1, 0, 0, 0, .int (nI 1)), (73, .goto 4, 77, 0, 0, .null)]
theorem t_s_Pa_divide_30 : s_Pa_divide_30.all (am_ok 6 cX6_divide) = true := by decide +kernel
def Pa_divide_203 (τ : am_T) (a2 : Int32) (a5 : Int32) : Option (am_T) :=
  am_g (am_in a2 20) (if (τ.1 30 (a2.toNatClampNeg)) = 0 then
  (some τ)
else
  ((Pa_capParts τ (τ.1 2 1) a5).bind (fun x5 =>
  some x5)))
set_option maxRecDepth 20000 in
theorem ok_Pa_divide_203 {X : am_X} {τ' : am_T} (hF : am_F X "ShareHouse$Parting" cX6_divide 12) (hR : am_R X 4 104) (hB : am_B X none none (am_D τ')) {τ : am_T} {a2 : Int32} {a5 : Int32} (h : Pa_divide_203 τ a2 a5 = some τ') : am_W X 12 (203, [(0, .ref 121), (1, .ref 1), (2, .int a2), (5, .int a5)], [], am_D τ) := by
  unfold Pa_divide_203 at h
  refine am_seg s_Pa_divide_13 (y := (211, [(0, .ref 121), (1, .ref 1), (2, .int a2), (5, .int a5)], [.int a2, .ref 30], am_D τ)) hF t_s_Pa_divide_13 rfl rfl ?_
  refine am_gd h (fun hi h => ?_)
  refine am_zald (n := 20) (j := (a2.toNatClampNeg)) d_X6_divide_211 (Nat.le_of_ble_eq_true rfl) (Nat.le_of_ble_eq_true rfl) rfl hi rfl hF ?_
  refine am_ite h (fun hc h => ?_) (fun hc h => ?_)
  · refine am_if_eq_t (t := 227) d_X6_divide_212 (by decide) hc hF ?_
    obtain rfl := am_one h
    exact am_vret d_X6_divide_227 hF hB
  · refine am_if_eq_f (t := 227) d_X6_divide_212 (by decide) hc hF ?_
    refine am_seg s_Pa_divide_14 (y := (221, [(0, .ref 121), (1, .ref 1), (2, .int a2), (5, .int a5)], [.int (nI 1), .ref 2, .ref 121], am_D τ)) hF t_s_Pa_divide_14 rfl rfl ?_
    refine am_iald (n := 6) (j := 1) d_X6_divide_221 (Nat.le_of_ble_eq_true rfl) (Nat.le_of_ble_eq_true rfl) rfl (by decide) rfl hF ?_
    refine am_seg s_Pa_divide_15 (y := (224, [(0, .ref 121), (1, .ref 1), (2, .int a2), (5, .int a5)], [.int a5, .int (τ.1 2 1), .ref 121], am_D τ)) hF t_s_Pa_divide_15 rfl rfl ?_
    refine am_bd h (fun x5 hx h => ?_)
    refine am_callV (As := [.int (τ.1 2 1), .int a5]) (r := none) (st := []) (σ' := am_D x5) (ci := 6) hF hR d_X6_divide_224 (c_Pa_capParts (τ' := x5) hx) (Nat.le_refl _) (Nat.le_refl _) wl_Pa_124 wi_yX6_capParts we_yX6_capParts wn_ShareHouse_Parting wc_yX6_capParts (Nat.le_of_ble_eq_true rfl) (Nat.le_of_ble_eq_true rfl) rfl rfl wy_yX6_capParts rfl ⟨by decide, by decide⟩ (Nat.le_of_ble_eq_true rfl) ?_
    obtain rfl := am_one h
    exact am_vret d_X6_divide_227 hF hB
def Pa_divide_188 (τ : am_T) (a2 : Int32) (a5 : Int32) (a10 : Int32) : Option (am_T) :=
  (Pa_allParts τ a5).bind (fun x3 =>
  (Pa_giveOut x3.2 (a10 - x3.1) a5).bind (fun x4 =>
  Pa_divide_203 x4 a2 a5))
set_option maxRecDepth 20000 in
theorem ok_Pa_divide_188 {X : am_X} {τ' : am_T} (hF : am_F X "ShareHouse$Parting" cX6_divide 12) (hR : am_R X 4 104) (hB : am_B X none none (am_D τ')) {τ : am_T} {a2 : Int32} {a5 : Int32} {a10 : Int32} (h : Pa_divide_188 τ a2 a5 a10 = some τ') : am_W X 12 (188, [(0, .ref 121), (1, .ref 1), (2, .int a2), (5, .int a5), (10, .int a10)], [], am_D τ) := by
  unfold Pa_divide_188 at h
  refine am_seg s_Pa_divide_11 (y := (194, [(0, .ref 121), (1, .ref 1), (2, .int a2), (5, .int a5), (10, .int a10)], [.int a5, .ref 121, .int a10, .ref 121], am_D τ)) hF t_s_Pa_divide_11 rfl rfl ?_
  refine am_bd h (fun x3 hx h => ?_)
  refine am_callV (As := [.int a5]) (r := (some (.int x3.1))) (st := [.int a10, .ref 121]) (σ' := am_D x3.2) (ci := 6) hF hR d_X6_divide_194 (c_Pa_allParts (τ' := x3.2) hx) (Nat.le_refl _) (Nat.le_refl _) wl_Pa_110 wi_yX6_allParts we_yX6_allParts wn_ShareHouse_Parting wc_yX6_allParts (Nat.le_of_ble_eq_true rfl) (Nat.le_of_ble_eq_true rfl) rfl rfl wy_yX6_allParts rfl ⟨by decide, by decide⟩ (Nat.le_of_ble_eq_true rfl) ?_
  refine am_seg s_Pa_divide_12 (y := (200, [(0, .ref 121), (1, .ref 1), (2, .int a2), (5, .int a5), (10, .int a10)], [.int a5, .int (a10 - x3.1), .ref 121], am_D x3.2)) hF t_s_Pa_divide_12 rfl rfl ?_
  refine am_bd h (fun x4 hx h => ?_)
  refine am_callV (As := [.int (a10 - x3.1), .int a5]) (r := none) (st := []) (σ' := am_D x4) (ci := 6) hF hR d_X6_divide_200 (c_Pa_giveOut (τ' := x4) hx) (Nat.le_refl _) (Nat.le_refl _) wl_Pa_113 wi_yX6_giveOut we_yX6_giveOut wn_ShareHouse_Parting wc_yX6_giveOut (Nat.le_of_ble_eq_true rfl) (Nat.le_of_ble_eq_true rfl) rfl rfl wy_yX6_giveOut rfl ⟨by decide, by decide⟩ (Nat.le_of_ble_eq_true rfl) ?_
  refine am_pick [0, 1, 2, 3] rfl ?_
  exact ok_Pa_divide_203 hF hR hB h
def Pa_divide_115 : Nat → am_T → Int32 → Int32 → Int32 → Int64 → Int32 → Int32 → Option (am_T)
  | 0, _, _, _, _, _, _, _ => none
  | n + 1, τ, a2, a5, a7, a8, a10, a11 =>
    if a5 ≤ a11 then
  (if a7 = 0 then
  (if (lg_cmp (τ.2 121 6) (τ.2 121 5)) = 0 then
  (Pa_divide_188 τ a2 a5 a10)
else
  (Pa_divide_203 τ a2 a5))
else
  (Pa_divide_188 τ a2 a5 a10))
else
  (am_g (am_in a11 8) (if a8 = 0 then none else
  am_g (am_in a11 8) (am_g (am_in a11 8) (if a8 = 0 then none else
  am_g (am_in a11 8) ((Pa_divide_115 n) (am_sl (am_si τ 126 (a11.toNatClampNeg) (Int64.toInt32 (((Int32.toInt64 a10) * (τ.2 124 (a11.toNatClampNeg))) / a8))) 125 (a11.toNatClampNeg) (((Int32.toInt64 a10) * ((am_si τ 126 (a11.toNatClampNeg) (Int64.toInt32 (((Int32.toInt64 a10) * (τ.2 124 (a11.toNatClampNeg))) / a8))).2 124 (a11.toNatClampNeg))) - ((Int32.toInt64 a10) * ((am_si τ 126 (a11.toNatClampNeg) (Int64.toInt32 (((Int32.toInt64 a10) * (τ.2 124 (a11.toNatClampNeg))) / a8))).2 124 (a11.toNatClampNeg))) / a8 * a8)) a2 a5 a7 a8 a10 (a11 + (nI 1)))))))
set_option maxRecDepth 20000 in
theorem ok_Pa_divide_115 {X : am_X} {τ' : am_T} (hF : am_F X "ShareHouse$Parting" cX6_divide 12) (hR : am_R X 4 104) (hB : am_B X none none (am_D τ')) : ∀ (n : Nat) (τ : am_T) (a2 : Int32) (a5 : Int32) (a7 : Int32) (a8 : Int64) (a10 : Int32) (a11 : Int32), Pa_divide_115 n τ a2 a5 a7 a8 a10 a11 = some τ' → am_W X 12 (115, [(0, .ref 121), (1, .ref 1), (2, .int a2), (5, .int a5), (7, .int a7), (8, .long a8), (10, .int a10), (11, .int a11)], [], am_D τ) := by
  intro n
  induction n with
  | zero => intro τ a2 a5 a7 a8 a10 a11 h; unfold Pa_divide_115 at h; cases h
  | succ n ih =>
    intro τ a2 a5 a7 a8 a10 a11 h
    unfold Pa_divide_115 at h
    refine am_seg s_Pa_divide_9 (y := (119, [(0, .ref 121), (1, .ref 1), (2, .int a2), (5, .int a5), (7, .int a7), (8, .long a8), (10, .int a10), (11, .int a11)], [.int a5, .int a11], am_D τ)) hF t_s_Pa_divide_9 rfl rfl ?_
    refine am_ite h (fun hc h => ?_) (fun hc h => ?_)
    · refine am_icmp_ge_t (t := 171) d_X6_divide_119 (by decide) hc hF ?_
      refine am_seg s_Pa_divide_10 (y := (173, [(0, .ref 121), (1, .ref 1), (2, .int a2), (5, .int a5), (7, .int a7), (8, .long a8), (10, .int a10), (11, .int a11)], [.int a7], am_D τ)) hF t_s_Pa_divide_10 rfl rfl ?_
      refine am_ite h (fun hc h => ?_) (fun hc h => ?_)
      · refine am_if_ne_f (t := 188) d_X6_divide_173 (by decide) hc hF ?_
        refine am_seg s_Pa_divide_16 (y := (185, [(0, .ref 121), (1, .ref 1), (2, .int a2), (5, .int a5), (7, .int a7), (8, .long a8), (10, .int a10), (11, .int a11)], [.int (lg_cmp (τ.2 121 6) (τ.2 121 5))], am_D τ)) hF t_s_Pa_divide_16 rfl rfl ?_
        refine am_ite h (fun hc h => ?_) (fun hc h => ?_)
        · refine am_if_ne_f (t := 203) d_X6_divide_185 (by decide) hc hF ?_
          refine am_pick [0, 1, 2, 3, 6] rfl ?_
          exact ok_Pa_divide_188 hF hR hB h
        · refine am_if_ne_t (t := 203) d_X6_divide_185 (by decide) hc hF ?_
          refine am_pick [0, 1, 2, 3] rfl ?_
          exact ok_Pa_divide_203 hF hR hB h
      · refine am_if_ne_t (t := 188) d_X6_divide_173 (by decide) hc hF ?_
        refine am_pick [0, 1, 2, 3, 6] rfl ?_
        exact ok_Pa_divide_188 hF hR hB h
    · refine am_icmp_ge_f (t := 171) d_X6_divide_119 (by decide) hc hF ?_
      refine am_seg s_Pa_divide_17 (y := (137, [(0, .ref 121), (1, .ref 1), (2, .int a2), (5, .int a5), (7, .int a7), (8, .long a8), (10, .int a10), (11, .int a11)], [.int a11, .ref 124, .long (Int32.toInt64 a10), .int a11, .ref 126], am_D τ)) hF t_s_Pa_divide_17 rfl rfl ?_
      refine am_gd h (fun hi h => ?_)
      refine am_lald (n := 8) (j := (a11.toNatClampNeg)) d_X6_divide_137 (Nat.le_of_ble_eq_true rfl) (Nat.le_of_ble_eq_true rfl) rfl hi rfl hF ?_
      refine am_seg s_Pa_divide_18 (y := (141, [(0, .ref 121), (1, .ref 1), (2, .int a2), (5, .int a5), (7, .int a7), (8, .long a8), (10, .int a10), (11, .int a11)], [.long a8, .long ((Int32.toInt64 a10) * (τ.2 124 (a11.toNatClampNeg))), .int a11, .ref 126], am_D τ)) hF t_s_Pa_divide_18 rfl rfl ?_
      refine am_ite h (fun _ h => by cases h) (fun hc h => ?_)
      refine am_ldiv d_X6_divide_141 hc hF ?_
      refine am_seg s_Pa_divide_19 (y := (143, [(0, .ref 121), (1, .ref 1), (2, .int a2), (5, .int a5), (7, .int a7), (8, .long a8), (10, .int a10), (11, .int a11)], [.int (Int64.toInt32 (((Int32.toInt64 a10) * (τ.2 124 (a11.toNatClampNeg))) / a8)), .int a11, .ref 126], am_D τ)) hF t_s_Pa_divide_19 rfl rfl ?_
      refine am_gd h (fun hi h => ?_)
      refine am_iast (n := 8) (j := (a11.toNatClampNeg)) d_X6_divide_143 (Nat.le_of_ble_eq_true rfl) (Nat.le_of_ble_eq_true rfl) rfl hi rfl hF ?_
      refine am_seg s_Pa_divide_20 (y := (159, [(0, .ref 121), (1, .ref 1), (2, .int a2), (5, .int a5), (7, .int a7), (8, .long a8), (10, .int a10), (11, .int a11)], [.int a11, .ref 124, .long (Int32.toInt64 a10), .int a11, .ref 125], am_D (am_si τ 126 (a11.toNatClampNeg) (Int64.toInt32 (((Int32.toInt64 a10) * (τ.2 124 (a11.toNatClampNeg))) / a8))))) hF t_s_Pa_divide_20 rfl rfl ?_
      refine am_gd h (fun hi h => ?_)
      refine am_lald (n := 8) (j := (a11.toNatClampNeg)) d_X6_divide_159 (Nat.le_of_ble_eq_true rfl) (Nat.le_of_ble_eq_true rfl) rfl hi rfl hF ?_
      refine am_seg s_Pa_divide_21 (y := (163, [(0, .ref 121), (1, .ref 1), (2, .int a2), (5, .int a5), (7, .int a7), (8, .long a8), (10, .int a10), (11, .int a11)], [.long a8, .long ((Int32.toInt64 a10) * ((am_si τ 126 (a11.toNatClampNeg) (Int64.toInt32 (((Int32.toInt64 a10) * (τ.2 124 (a11.toNatClampNeg))) / a8))).2 124 (a11.toNatClampNeg))), .int a11, .ref 125], am_D (am_si τ 126 (a11.toNatClampNeg) (Int64.toInt32 (((Int32.toInt64 a10) * (τ.2 124 (a11.toNatClampNeg))) / a8))))) hF t_s_Pa_divide_21 rfl rfl ?_
      refine am_ite h (fun _ h => by cases h) (fun hc h => ?_)
      refine am_lrem d_X6_divide_163 hc hF ?_
      refine am_gd h (fun hi h => ?_)
      refine am_last (n := 8) (j := (a11.toNatClampNeg)) d_X6_divide_164 (Nat.le_of_ble_eq_true rfl) (Nat.le_of_ble_eq_true rfl) rfl hi rfl hF ?_
      refine am_seg s_Pa_divide_22 (y := (115, [(11, .int (a11 + (nI 1))), (0, .ref 121), (1, .ref 1), (2, .int a2), (5, .int a5), (7, .int a7), (8, .long a8), (10, .int a10)], [], am_D (am_sl (am_si τ 126 (a11.toNatClampNeg) (Int64.toInt32 (((Int32.toInt64 a10) * (τ.2 124 (a11.toNatClampNeg))) / a8))) 125 (a11.toNatClampNeg) (((Int32.toInt64 a10) * ((am_si τ 126 (a11.toNatClampNeg) (Int64.toInt32 (((Int32.toInt64 a10) * (τ.2 124 (a11.toNatClampNeg))) / a8))).2 124 (a11.toNatClampNeg))) - ((Int32.toInt64 a10) * ((am_si τ 126 (a11.toNatClampNeg) (Int64.toInt32 (((Int32.toInt64 a10) * (τ.2 124 (a11.toNatClampNeg))) / a8))).2 124 (a11.toNatClampNeg))) / a8 * a8)))) hF t_s_Pa_divide_22 rfl rfl ?_
      refine am_pick [1, 2, 3, 4, 5, 6, 7, 0] rfl ?_
      exact ih _ _ _ _ _ _ _ h
def Pa_divide_96 (τ : am_T) (a2 : Int32) (a3 : Int32) (a5 : Int32) (a7 : Int32) (s0 : Int64) (s1 : Int64) : Option (am_T) :=
  (Co_penceOn τ a2 a3).bind (fun x2 =>
  Pa_divide_115 5000 x2.2 a2 a5 a7 (if s0 < s1 then s1 else s0) x2.1 (nI 0))
set_option maxRecDepth 20000 in
theorem ok_Pa_divide_96 {X : am_X} {τ' : am_T} (hF : am_F X "ShareHouse$Parting" cX6_divide 12) (hR : am_R X 4 104) (hB : am_B X none none (am_D τ')) {τ : am_T} {a2 : Int32} {a3 : Int32} {a5 : Int32} {a7 : Int32} {s0 : Int64} {s1 : Int64} (h : Pa_divide_96 τ a2 a3 a5 a7 s0 s1 = some τ') : am_W X 12 (96, [(0, .ref 121), (1, .ref 1), (2, .int a2), (3, .int a3), (5, .int a5), (7, .int a7)], [.long s0, .long s1], am_D τ) := by
  unfold Pa_divide_96 at h
  refine am_mmaxL d_X6_divide_96 wq_maxL_6_46 wq_maxL_s wq_math wq_maxL_c ⟨by decide, Nat.le_of_ble_eq_true rfl⟩ (Nat.le_refl _) hF hR ?_
  refine am_seg s_Pa_divide_7 (y := (107, [(8, .long (if s0 < s1 then s1 else s0)), (0, .ref 121), (1, .ref 1), (2, .int a2), (3, .int a3), (5, .int a5), (7, .int a7)], [.int a3, .int a2, .ref 25], am_D τ)) hF t_s_Pa_divide_7 rfl rfl ?_
  refine am_bd h (fun x2 hx h => ?_)
  refine am_callV (As := [.int a2, .int a3]) (r := (some (.int x2.1))) (st := []) (σ' := am_D x2.2) (ci := 1) hF hR d_X6_divide_107 (c_Co_penceOn (τ' := x2.2) hx) (Nat.le_refl _) (Nat.le_refl _) wl_Pa_107 wi_yX1_penceOn we_yX1_penceOn wn_ShareHouse_Costs wc_yX1_penceOn (Nat.le_of_ble_eq_true rfl) (Nat.le_of_ble_eq_true rfl) rfl rfl wy_yX1_penceOn rfl ⟨by decide, by decide⟩ (Nat.le_of_ble_eq_true rfl) ?_
  refine am_seg s_Pa_divide_8 (y := (115, [(11, .int (nI 0)), (10, .int x2.1), (8, .long (if s0 < s1 then s1 else s0)), (0, .ref 121), (1, .ref 1), (2, .int a2), (3, .int a3), (5, .int a5), (7, .int a7)], [], am_D x2.2)) hF t_s_Pa_divide_8 rfl rfl ?_
  refine am_pick [3, 4, 5, 7, 8, 2, 1, 0] rfl ?_
  exact ok_Pa_divide_115 hF hR hB _ _ _ _ _ _ _ _ h
def Pa_divide_77 (τ : am_T) (a2 : Int32) (a3 : Int32) (a5 : Int32) (s0 : Int32) : Option (am_T) :=
  if s0 = 0 then
  (Pa_divide_96 τ a2 a3 a5 s0 (τ.2 121 5) (lN 1))
else
  (Pa_divide_96 τ a2 a3 a5 s0 (τ.2 121 6) (lN 1))
set_option maxRecDepth 20000 in
theorem ok_Pa_divide_77 {X : am_X} {τ' : am_T} (hF : am_F X "ShareHouse$Parting" cX6_divide 12) (hR : am_R X 4 104) (hB : am_B X none none (am_D τ')) {τ : am_T} {a2 : Int32} {a3 : Int32} {a5 : Int32} {s0 : Int32} (h : Pa_divide_77 τ a2 a3 a5 s0 = some τ') : am_W X 12 (77, [(0, .ref 121), (1, .ref 1), (2, .int a2), (3, .int a3), (5, .int a5)], [.int s0], am_D τ) := by
  unfold Pa_divide_77 at h
  refine am_seg s_Pa_divide_5 (y := (82, [(7, .int s0), (0, .ref 121), (1, .ref 1), (2, .int a2), (3, .int a3), (5, .int a5)], [.int s0, .long (lN 1)], am_D τ)) hF t_s_Pa_divide_5 rfl rfl ?_
  refine am_ite h (fun hc h => ?_) (fun hc h => ?_)
  · refine am_if_eq_t (t := 92) d_X6_divide_82 (by decide) hc hF ?_
    refine am_seg s_Pa_divide_6 (y := (96, [(7, .int s0), (0, .ref 121), (1, .ref 1), (2, .int a2), (3, .int a3), (5, .int a5)], [.long (τ.2 121 5), .long (lN 1)], am_D τ)) hF t_s_Pa_divide_6 rfl rfl ?_
    refine am_pick [1, 2, 3, 4, 5, 0] rfl ?_
    exact ok_Pa_divide_96 hF hR hB h
  · refine am_if_eq_f (t := 92) d_X6_divide_82 (by decide) hc hF ?_
    refine am_seg s_Pa_divide_23 (y := (96, [(7, .int s0), (0, .ref 121), (1, .ref 1), (2, .int a2), (3, .int a3), (5, .int a5)], [.long (τ.2 121 6), .long (lN 1)], am_D τ)) hF t_s_Pa_divide_23 rfl rfl ?_
    refine am_pick [1, 2, 3, 4, 5, 0] rfl ?_
    exact ok_Pa_divide_96 hF hR hB h
def Pa_divide (τ : am_T) (a2 : Int32) (a3 : Int32) : Option (am_T) :=
  am_g (am_in a2 20) ((Pa_readShares τ (τ.1 26 (a2.toNatClampNeg))).bind (fun x1 =>
  am_g (am_in (τ.1 26 (a2.toNatClampNeg)) 6) (if (lg_cmp (x1.2 121 6) (lN 0)) ≤ 0 then
  (Pa_divide_77 x1 a2 a3 (τ.1 4 4) (nI 0))
else
  (if (x1.1 3 ((τ.1 26 (a2.toNatClampNeg)).toNatClampNeg)) = (nI 1) then
  (Pa_divide_77 x1 a2 a3 (τ.1 4 4) (nI 1))
else
  (if (x1.1 3 ((τ.1 26 (a2.toNatClampNeg)).toNatClampNeg)) = (nI 2) then
  (if (lg_cmp (x1.2 121 6) (x1.2 121 5)) ≤ 0 then
  (Pa_divide_77 x1 a2 a3 (τ.1 4 4) (nI 0))
else
  (Pa_divide_77 x1 a2 a3 (τ.1 4 4) (nI 1)))
else
  (Pa_divide_77 x1 a2 a3 (τ.1 4 4) (nI 0)))))))
set_option maxRecDepth 20000 in
theorem ok_Pa_divide {X : am_X} {a2 : Int32} {a3 : Int32} {τ τ' : am_T} (hF : am_F X "ShareHouse$Parting" cX6_divide 12) (hR : am_R X 4 104) (hB : am_B X none none (am_D τ')) (h : Pa_divide τ a2 a3 = some τ') : am_W X 12 (0, [(0, .ref 121), (1, .ref 1), (2, .int a2), (3, .int a3)], [], am_D τ) := by
  unfold Pa_divide at h
  refine am_seg s_Pa_divide_0 (y := (8, [(0, .ref 121), (1, .ref 1), (2, .int a2), (3, .int a3)], [.int a2, .ref 26], am_D τ)) hF t_s_Pa_divide_0 rfl rfl ?_
  refine am_gd h (fun hi h => ?_)
  refine am_iald (n := 20) (j := (a2.toNatClampNeg)) d_X6_divide_8 (Nat.le_of_ble_eq_true rfl) (Nat.le_of_ble_eq_true rfl) rfl hi rfl hF ?_
  refine am_seg s_Pa_divide_1 (y := (27, [(5, .int (τ.1 4 4)), (4, .int (τ.1 26 (a2.toNatClampNeg))), (0, .ref 121), (1, .ref 1), (2, .int a2), (3, .int a3)], [.int (τ.1 26 (a2.toNatClampNeg)), .ref 4, .ref 121], am_D τ)) hF t_s_Pa_divide_1 rfl rfl ?_
  refine am_bd h (fun x1 hx h => ?_)
  refine am_callV (As := [.ref 4, .int (τ.1 26 (a2.toNatClampNeg))]) (r := none) (st := []) (σ' := am_D x1) (ci := 6) hF hR d_X6_divide_27 (c_Pa_readShares (τ' := x1) hx) (Nat.le_refl _) (Nat.le_refl _) wl_Pa_100 wi_yX6_readShares we_yX6_readShares wn_ShareHouse_Parting wc_yX6_readShares (Nat.le_of_ble_eq_true rfl) (Nat.le_of_ble_eq_true rfl) rfl rfl wy_yX6_readShares rfl ⟨by decide, by decide⟩ (Nat.le_of_ble_eq_true rfl) ?_
  refine am_seg s_Pa_divide_2 (y := (36, [(5, .int (τ.1 4 4)), (4, .int (τ.1 26 (a2.toNatClampNeg))), (0, .ref 121), (1, .ref 1), (2, .int a2), (3, .int a3)], [.int (τ.1 26 (a2.toNatClampNeg)), .ref 3], am_D x1)) hF t_s_Pa_divide_2 rfl rfl ?_
  refine am_gd h (fun hi h => ?_)
  refine am_iald (n := 6) (j := ((τ.1 26 (a2.toNatClampNeg)).toNatClampNeg)) d_X6_divide_36 (Nat.le_of_ble_eq_true rfl) (Nat.le_of_ble_eq_true rfl) rfl hi rfl hF ?_
  refine am_seg s_Pa_divide_3 (y := (45, [(6, .int (x1.1 3 ((τ.1 26 (a2.toNatClampNeg)).toNatClampNeg))), (5, .int (τ.1 4 4)), (4, .int (τ.1 26 (a2.toNatClampNeg))), (0, .ref 121), (1, .ref 1), (2, .int a2), (3, .int a3)], [.int (lg_cmp (x1.2 121 6) (lN 0))], am_D x1)) hF t_s_Pa_divide_3 rfl rfl ?_
  refine am_ite h (fun hc h => ?_) (fun hc h => ?_)
  · refine am_if_le_t (t := 76) d_X6_divide_45 (by decide) hc hF ?_
    refine am_seg s_Pa_divide_4 (y := (77, [(6, .int (x1.1 3 ((τ.1 26 (a2.toNatClampNeg)).toNatClampNeg))), (5, .int (τ.1 4 4)), (4, .int (τ.1 26 (a2.toNatClampNeg))), (0, .ref 121), (1, .ref 1), (2, .int a2), (3, .int a3)], [.int (nI 0)], am_D x1)) hF t_s_Pa_divide_4 rfl rfl ?_
    refine am_pick [3, 4, 5, 6, 1] rfl ?_
    exact ok_Pa_divide_77 hF hR hB h
  · refine am_if_le_f (t := 76) d_X6_divide_45 (by decide) hc hF ?_
    refine am_seg s_Pa_divide_24 (y := (51, [(6, .int (x1.1 3 ((τ.1 26 (a2.toNatClampNeg)).toNatClampNeg))), (5, .int (τ.1 4 4)), (4, .int (τ.1 26 (a2.toNatClampNeg))), (0, .ref 121), (1, .ref 1), (2, .int a2), (3, .int a3)], [.int (nI 1), .int (x1.1 3 ((τ.1 26 (a2.toNatClampNeg)).toNatClampNeg))], am_D x1)) hF t_s_Pa_divide_24 rfl rfl ?_
    refine am_ite h (fun hc h => ?_) (fun hc h => ?_)
    · refine am_icmp_eq_t (t := 72) d_X6_divide_51 (by decide) hc hF ?_
      refine am_seg s_Pa_divide_25 (y := (77, [(6, .int (x1.1 3 ((τ.1 26 (a2.toNatClampNeg)).toNatClampNeg))), (5, .int (τ.1 4 4)), (4, .int (τ.1 26 (a2.toNatClampNeg))), (0, .ref 121), (1, .ref 1), (2, .int a2), (3, .int a3)], [.int (nI 1)], am_D x1)) hF t_s_Pa_divide_25 rfl rfl ?_
      refine am_pick [3, 4, 5, 6, 1] rfl ?_
      exact ok_Pa_divide_77 hF hR hB h
    · refine am_icmp_eq_f (t := 72) d_X6_divide_51 (by decide) hc hF ?_
      refine am_seg s_Pa_divide_26 (y := (57, [(6, .int (x1.1 3 ((τ.1 26 (a2.toNatClampNeg)).toNatClampNeg))), (5, .int (τ.1 4 4)), (4, .int (τ.1 26 (a2.toNatClampNeg))), (0, .ref 121), (1, .ref 1), (2, .int a2), (3, .int a3)], [.int (nI 2), .int (x1.1 3 ((τ.1 26 (a2.toNatClampNeg)).toNatClampNeg))], am_D x1)) hF t_s_Pa_divide_26 rfl rfl ?_
      refine am_ite h (fun hc h => ?_) (fun hc h => ?_)
      · refine am_icmp_ne_f (t := 76) d_X6_divide_57 (by decide) hc hF ?_
        refine am_seg s_Pa_divide_28 (y := (69, [(6, .int (x1.1 3 ((τ.1 26 (a2.toNatClampNeg)).toNatClampNeg))), (5, .int (τ.1 4 4)), (4, .int (τ.1 26 (a2.toNatClampNeg))), (0, .ref 121), (1, .ref 1), (2, .int a2), (3, .int a3)], [.int (lg_cmp (x1.2 121 6) (x1.2 121 5))], am_D x1)) hF t_s_Pa_divide_28 rfl rfl ?_
        refine am_ite h (fun hc h => ?_) (fun hc h => ?_)
        · refine am_if_le_t (t := 76) d_X6_divide_69 (by decide) hc hF ?_
          refine am_seg s_Pa_divide_29 (y := (77, [(6, .int (x1.1 3 ((τ.1 26 (a2.toNatClampNeg)).toNatClampNeg))), (5, .int (τ.1 4 4)), (4, .int (τ.1 26 (a2.toNatClampNeg))), (0, .ref 121), (1, .ref 1), (2, .int a2), (3, .int a3)], [.int (nI 0)], am_D x1)) hF t_s_Pa_divide_29 rfl rfl ?_
          refine am_pick [3, 4, 5, 6, 1] rfl ?_
          exact ok_Pa_divide_77 hF hR hB h
        · refine am_if_le_f (t := 76) d_X6_divide_69 (by decide) hc hF ?_
          refine am_seg s_Pa_divide_30 (y := (77, [(6, .int (x1.1 3 ((τ.1 26 (a2.toNatClampNeg)).toNatClampNeg))), (5, .int (τ.1 4 4)), (4, .int (τ.1 26 (a2.toNatClampNeg))), (0, .ref 121), (1, .ref 1), (2, .int a2), (3, .int a3)], [.int (nI 1)], am_D x1)) hF t_s_Pa_divide_30 rfl rfl ?_
          refine am_pick [3, 4, 5, 6, 1] rfl ?_
          exact ok_Pa_divide_77 hF hR hB h
      · refine am_icmp_ne_t (t := 76) d_X6_divide_57 (by decide) hc hF ?_
        refine am_seg s_Pa_divide_27 (y := (77, [(6, .int (x1.1 3 ((τ.1 26 (a2.toNatClampNeg)).toNatClampNeg))), (5, .int (τ.1 4 4)), (4, .int (τ.1 26 (a2.toNatClampNeg))), (0, .ref 121), (1, .ref 1), (2, .int a2), (3, .int a3)], [.int (nI 0)], am_D x1)) hF t_s_Pa_divide_27 rfl rfl ?_
        refine am_pick [3, 4, 5, 6, 1] rfl ?_
        exact ok_Pa_divide_77 hF hR hB h
theorem c_Pa_divide {a2 : Int32} {a3 : Int32} {τ τ' : am_T} (h : Pa_divide τ a2 a3 = some τ') : am_C yX6_divide cX6_divide 12 none 4 104 [.ref 121, .ref 1, .int a2, .int a3] (am_D τ) none (am_D τ') :=
  am_enter (by decide +kernel) (Nat.le_of_ble_eq_true rfl) ⟨Nat.le_refl _, Nat.le_refl _⟩ (fun X hF hR hB => ok_Pa_divide hF hR hB h)
def s_X_part_0 : List am_Q := [(0, .aload_n 0, 0, 0, 0, .null), (1, .getfield 10, 11, 0, 145, .null), (4, .getfield 157, 3, 4, 101, .null), (7, .iload_n 1, 0, 0, 0, .null)]
theorem t_s_X_part_0 : s_X_part_0.all (am_ok 11 cX11_part) = true := by decide +kernel
theorem d_X11_part_8 : decode cX11_part 8 = .ok (.invokevirtual 166, 3) := by decide +kernel
theorem d_X11_part_11 : decode cX11_part 11 = .ok (.ifCond .eq 25, 3) := by decide +kernel
def s_X_part_1 : List am_Q := [(36, .iconst (-1), 0, 0, 0, .int (-1 : Int32))]
theorem t_s_X_part_1 : s_X_part_1.all (am_ok 11 cX11_part) = true := by decide +kernel
theorem d_X11_part_37 : decode cX11_part 37 = .ok (.ireturn, 1) := by decide +kernel
def s_X_part_2 : List am_Q := [(14, .aload_n 0, 0, 0, 0, .null), (15, .getfield 10, 11, 0, 145, .null), (18, .getfield 51, 3, 3, 95, .null), (21, .iload_n 2, 0, 0, 0, .null)]
theorem t_s_X_part_2 : s_X_part_2.all (am_ok 11 cX11_part) = true := by decide +kernel
theorem d_X11_part_22 : decode cX11_part 22 = .ok (.invokevirtual 68, 3) := by decide +kernel
theorem d_X11_part_25 : decode cX11_part 25 = .ok (.ifCond .eq 11, 3) := by decide +kernel
def s_X_part_3 : List am_Q := [(36, .iconst (-1), 0, 0, 0, .int (-1 : Int32))]
theorem t_s_X_part_3 : s_X_part_3.all (am_ok 11 cX11_part) = true := by decide +kernel
def s_X_part_4 : List am_Q := [(28, .aload_n 0, 0, 0, 0, .null), (29, .iload_n 3, 0, 0, 0, .null)]
theorem t_s_X_part_4 : s_X_part_4.all (am_ok 11 cX11_part) = true := by decide +kernel
theorem d_X11_part_30 : decode cX11_part 30 = .ok (.invokevirtual 153, 3) := by decide +kernel
theorem d_X11_part_33 : decode cX11_part 33 = .ok (.ifCond .ne 5, 3) := by decide +kernel
def s_X_part_5 : List am_Q := [(38, .aload_n 0, 0, 0, 0, .null), (39, .getfield 10, 11, 0, 145, .null), (42, .getfield 157, 3, 4, 101, .null), (45, .iload_n 1, 0, 0, 0, .null), (46, .iload_n 3, 0, 0, 0, .null)]
theorem t_s_X_part_5 : s_X_part_5.all (am_ok 11 cX11_part) = true := by decide +kernel
theorem d_X11_part_47 : decode cX11_part 47 = .ok (.invokevirtual 194, 3) := by decide +kernel
theorem d_X11_part_50 : decode cX11_part 50 = .ok (.ifCond .ne 6, 3) := by decide +kernel
def s_X_part_6 : List am_Q := [(56, .aload_n 0, 0, 0, 0, .null), (57, .getfield 36, 11, 5, 150, .null), (60, .aload_n 0, 0, 0, 0, .null), (61, .getfield 10, 11, 0, 145, .null), (64, .iload_n 1, 0, 0, 0, .null), (65, .iload_n 3, 0, 0, 0, .null)]
theorem t_s_X_part_6 : s_X_part_6.all (am_ok 11 cX11_part) = true := by decide +kernel
theorem d_X11_part_66 : decode cX11_part 66 = .ok (.invokevirtual 198, 3) := by decide +kernel
def s_X_part_7 : List am_Q := [(69, .aload_n 0, 0, 0, 0, .null), (70, .getfield 36, 11, 5, 150, .null), (73, .getfield 202, 6, 4, 136, .null), (76, .iload_n 2, 0, 0, 0, .null)]
theorem t_s_X_part_7 : s_X_part_7.all (am_ok 11 cX11_part) = true := by decide +kernel
theorem d_X11_part_77 : decode cX11_part 77 = .ok (.iaload, 1) := by decide +kernel
theorem d_X11_part_78 : decode cX11_part 78 = .ok (.ireturn, 1) := by decide +kernel
def s_X_part_8 : List am_Q := [(53, .bipush (-3), 0, 0, 0, .int (-3 : Int32))]
theorem t_s_X_part_8 : s_X_part_8.all (am_ok 11 cX11_part) = true := by decide +kernel
theorem d_X11_part_55 : decode cX11_part 55 = .ok (.ireturn, 1) := by decide +kernel
def s_X_part_9 : List am_Q := [(36, .iconst (-1), 0, 0, 0, .int (-1 : Int32))]
theorem t_s_X_part_9 : s_X_part_9.all (am_ok 11 cX11_part) = true := by decide +kernel
def X_part (τ : am_T) (a1 : Int32) (a2 : Int32) (a3 : Int32) : Option (Int32 × am_T) :=
  (Co_has τ a1).bind (fun x1 =>
  if x1.1 = 0 then
  (some ((-1 : Int32), x1.2))
else
  ((Fl_has x1.2 a2).bind (fun x2 =>
  if x2.1 = 0 then
  (some ((-1 : Int32), x2.2))
else
  ((X_isPast x2.2 a3).bind (fun x3 =>
  if x3.1 = 0 then
  (some ((-1 : Int32), x3.2))
else
  ((Co_isKnown x3.2 a1 a3).bind (fun x4 =>
  if x4.1 = 0 then
  (some ((-3 : Int32), x4.2))
else
  ((Pa_divide x4.2 a1 a3).bind (fun x5 =>
  am_g (am_in a2 8) (some ((x5.1 126 (a2.toNatClampNeg)), x5)))))))))))
set_option maxRecDepth 20000 in
theorem ok_X_part {X : am_X} {a1 : Int32} {a2 : Int32} {a3 : Int32} {v : Int32} {τ τ' : am_T} (hF : am_F X "ShareHouse" cX11_part 4) (hR : am_R X 5 135) (hB : am_B X (some .int) (some (.int v)) (am_D τ')) (h : X_part τ a1 a2 a3 = some (v, τ')) : am_W X 4 (0, [(0, .ref 0), (1, .int a1), (2, .int a2), (3, .int a3)], [], am_D τ) := by
  unfold X_part at h
  refine am_seg s_X_part_0 (y := (8, [(0, .ref 0), (1, .int a1), (2, .int a2), (3, .int a3)], [.int a1, .ref 25], am_D τ)) hF t_s_X_part_0 rfl rfl ?_
  refine am_bd h (fun x1 hx h => ?_)
  refine am_callV (As := [.int a1]) (r := (some (.int x1.1))) (st := []) (σ' := am_D x1.2) (ci := 1) hF hR d_X11_part_8 (c_Co_has (τ' := x1.2) hx) (Nat.le_refl _) (Nat.le_refl _) wl_X_166 wi_yX1_has we_yX1_has wn_ShareHouse_Costs wc_yX1_has (Nat.le_of_ble_eq_true rfl) (Nat.le_of_ble_eq_true rfl) rfl rfl wy_yX1_has rfl ⟨by decide, by decide⟩ (Nat.le_of_ble_eq_true rfl) ?_
  refine am_ite h (fun hc h => ?_) (fun hc h => ?_)
  · refine am_if_eq_t (t := 36) d_X11_part_11 (by decide) hc hF ?_
    refine am_seg s_X_part_1 (y := (37, [(0, .ref 0), (1, .int a1), (2, .int a2), (3, .int a3)], [.int (-1 : Int32)], am_D x1.2)) hF t_s_X_part_1 rfl rfl ?_
    obtain ⟨rfl, rfl⟩ := am_pair h
    exact am_iret d_X11_part_37 hF hB
  · refine am_if_eq_f (t := 36) d_X11_part_11 (by decide) hc hF ?_
    refine am_seg s_X_part_2 (y := (22, [(0, .ref 0), (1, .int a1), (2, .int a2), (3, .int a3)], [.int a2, .ref 4], am_D x1.2)) hF t_s_X_part_2 rfl rfl ?_
    refine am_bd h (fun x2 hx h => ?_)
    refine am_callV (As := [.int a2]) (r := (some (.int x2.1))) (st := []) (σ' := am_D x2.2) (ci := 2) hF hR d_X11_part_22 (c_Fl_has (τ' := x2.2) hx) (Nat.le_refl _) (Nat.le_refl _) wl_X_68 wi_yX2_has we_yX2_has wn_ShareHouse_Flats wc_yX2_has (Nat.le_of_ble_eq_true rfl) (Nat.le_of_ble_eq_true rfl) rfl rfl wy_yX2_has rfl ⟨by decide, by decide⟩ (Nat.le_of_ble_eq_true rfl) ?_
    refine am_ite h (fun hc h => ?_) (fun hc h => ?_)
    · refine am_if_eq_t (t := 36) d_X11_part_25 (by decide) hc hF ?_
      refine am_seg s_X_part_3 (y := (37, [(0, .ref 0), (1, .int a1), (2, .int a2), (3, .int a3)], [.int (-1 : Int32)], am_D x2.2)) hF t_s_X_part_3 rfl rfl ?_
      obtain ⟨rfl, rfl⟩ := am_pair h
      exact am_iret d_X11_part_37 hF hB
    · refine am_if_eq_f (t := 36) d_X11_part_25 (by decide) hc hF ?_
      refine am_seg s_X_part_4 (y := (30, [(0, .ref 0), (1, .int a1), (2, .int a2), (3, .int a3)], [.int a3, .ref 0], am_D x2.2)) hF t_s_X_part_4 rfl rfl ?_
      refine am_bd h (fun x3 hx h => ?_)
      refine am_callV (As := [.int a3]) (r := (some (.int x3.1))) (st := []) (σ' := am_D x3.2) (ci := 11) hF hR d_X11_part_30 (c_X_isPast (τ' := x3.2) hx) (Nat.le_refl _) (Nat.le_refl _) wl_X_153 wi_yX11_isPast we_yX11_isPast wn_ShareHouse wc_yX11_isPast (Nat.le_of_ble_eq_true rfl) (Nat.le_of_ble_eq_true rfl) rfl rfl wy_yX11_isPast rfl ⟨by decide, by decide⟩ (Nat.le_of_ble_eq_true rfl) ?_
      refine am_ite h (fun hc h => ?_) (fun hc h => ?_)
      · refine am_if_ne_f (t := 38) d_X11_part_33 (by decide) hc hF ?_
        refine am_seg s_X_part_9 (y := (37, [(0, .ref 0), (1, .int a1), (2, .int a2), (3, .int a3)], [.int (-1 : Int32)], am_D x3.2)) hF t_s_X_part_9 rfl rfl ?_
        obtain ⟨rfl, rfl⟩ := am_pair h
        exact am_iret d_X11_part_37 hF hB
      · refine am_if_ne_t (t := 38) d_X11_part_33 (by decide) hc hF ?_
        refine am_seg s_X_part_5 (y := (47, [(0, .ref 0), (1, .int a1), (2, .int a2), (3, .int a3)], [.int a3, .int a1, .ref 25], am_D x3.2)) hF t_s_X_part_5 rfl rfl ?_
        refine am_bd h (fun x4 hx h => ?_)
        refine am_callV (As := [.int a1, .int a3]) (r := (some (.int x4.1))) (st := []) (σ' := am_D x4.2) (ci := 1) hF hR d_X11_part_47 (c_Co_isKnown (τ' := x4.2) hx) (Nat.le_refl _) (Nat.le_refl _) wl_X_194 wi_yX1_isKnown we_yX1_isKnown wn_ShareHouse_Costs wc_yX1_isKnown (Nat.le_of_ble_eq_true rfl) (Nat.le_of_ble_eq_true rfl) rfl rfl wy_yX1_isKnown rfl ⟨by decide, by decide⟩ (Nat.le_of_ble_eq_true rfl) ?_
        refine am_ite h (fun hc h => ?_) (fun hc h => ?_)
        · refine am_if_ne_f (t := 56) d_X11_part_50 (by decide) hc hF ?_
          refine am_seg s_X_part_8 (y := (55, [(0, .ref 0), (1, .int a1), (2, .int a2), (3, .int a3)], [.int (-3 : Int32)], am_D x4.2)) hF t_s_X_part_8 rfl rfl ?_
          obtain ⟨rfl, rfl⟩ := am_pair h
          exact am_iret d_X11_part_55 hF hB
        · refine am_if_ne_t (t := 56) d_X11_part_50 (by decide) hc hF ?_
          refine am_seg s_X_part_6 (y := (66, [(0, .ref 0), (1, .int a1), (2, .int a2), (3, .int a3)], [.int a3, .int a1, .ref 1, .ref 121], am_D x4.2)) hF t_s_X_part_6 rfl rfl ?_
          refine am_bd h (fun x5 hx h => ?_)
          refine am_callV (As := [.ref 1, .int a1, .int a3]) (r := none) (st := []) (σ' := am_D x5) (ci := 6) hF hR d_X11_part_66 (c_Pa_divide (τ' := x5) hx) (Nat.le_refl _) (Nat.le_refl _) wl_X_198 wi_yX6_divide we_yX6_divide wn_ShareHouse_Parting wc_yX6_divide (Nat.le_of_ble_eq_true rfl) (Nat.le_of_ble_eq_true rfl) rfl rfl wy_yX6_divide rfl ⟨by decide, by decide⟩ (Nat.le_of_ble_eq_true rfl) ?_
          refine am_seg s_X_part_7 (y := (77, [(0, .ref 0), (1, .int a1), (2, .int a2), (3, .int a3)], [.int a2, .ref 126], am_D x5)) hF t_s_X_part_7 rfl rfl ?_
          refine am_gd h (fun hi h => ?_)
          refine am_iald (n := 8) (j := (a2.toNatClampNeg)) d_X11_part_77 (Nat.le_of_ble_eq_true rfl) (Nat.le_of_ble_eq_true rfl) rfl hi rfl hF ?_
          obtain ⟨rfl, rfl⟩ := am_pair h
          exact am_iret d_X11_part_78 hF hB
theorem c_X_part {a1 : Int32} {a2 : Int32} {a3 : Int32} {v : Int32} {τ τ' : am_T} (h : X_part τ a1 a2 a3 = some (v, τ')) : am_C yX11_part cX11_part 4 (some .int) 5 135 [.ref 0, .int a1, .int a2, .int a3] (am_D τ) (some (.int v)) (am_D τ') :=
  am_enter (by decide +kernel) (Nat.le_of_ble_eq_true rfl) ⟨Nat.le_refl _, Nat.le_refl _⟩ (fun X hF hR hB => ok_X_part hF hR hB h)
def s_X_landlord_0 : List am_Q := [(0, .aload_n 0, 0, 0, 0, .null), (1, .getfield 10, 11, 0, 145, .null), (4, .getfield 157, 3, 4, 101, .null), (7, .iload_n 1, 0, 0, 0, .null)]
theorem t_s_X_landlord_0 : s_X_landlord_0.all (am_ok 11 cX11_landlord) = true := by decide +kernel
theorem d_X11_landlord_8 : decode cX11_landlord 8 = .ok (.invokevirtual 166, 3) := by decide +kernel
theorem d_X11_landlord_11 : decode cX11_landlord 11 = .ok (.ifCond .eq 26, 3) := by decide +kernel
def s_X_landlord_1 : List am_Q := [(37, .ldc 205, 0, 0, 3, .int (-1000000000 : Int32))]
theorem t_s_X_landlord_1 : s_X_landlord_1.all (am_ok 11 cX11_landlord) = true := by decide +kernel
theorem d_X11_landlord_39 : decode cX11_landlord 39 = .ok (.ireturn, 1) := by decide +kernel
def s_X_landlord_2 : List am_Q := [(14, .aload_n 0, 0, 0, 0, .null), (15, .iload_n 2, 0, 0, 0, .null)]
theorem t_s_X_landlord_2 : s_X_landlord_2.all (am_ok 11 cX11_landlord) = true := by decide +kernel
theorem d_X11_landlord_16 : decode cX11_landlord 16 = .ok (.invokevirtual 153, 3) := by decide +kernel
theorem d_X11_landlord_19 : decode cX11_landlord 19 = .ok (.ifCond .eq 18, 3) := by decide +kernel
def s_X_landlord_3 : List am_Q := [(37, .ldc 205, 0, 0, 3, .int (-1000000000 : Int32))]
theorem t_s_X_landlord_3 : s_X_landlord_3.all (am_ok 11 cX11_landlord) = true := by decide +kernel
def s_X_landlord_4 : List am_Q := [(22, .aload_n 0, 0, 0, 0, .null), (23, .getfield 10, 11, 0, 145, .null), (26, .getfield 157, 3, 4, 101, .null), (29, .iload_n 1, 0, 0, 0, .null), (30, .iload_n 2, 0, 0, 0, .null)]
theorem t_s_X_landlord_4 : s_X_landlord_4.all (am_ok 11 cX11_landlord) = true := by decide +kernel
theorem d_X11_landlord_31 : decode cX11_landlord 31 = .ok (.invokevirtual 194, 3) := by decide +kernel
theorem d_X11_landlord_34 : decode cX11_landlord 34 = .ok (.ifCond .ne 6, 3) := by decide +kernel
def s_X_landlord_5 : List am_Q := [(40, .aload_n 0, 0, 0, 0, .null), (41, .getfield 36, 11, 5, 150, .null), (44, .aload_n 0, 0, 0, 0, .null), (45, .getfield 10, 11, 0, 145, .null), (48, .iload_n 1, 0, 0, 0, .null), (49, .iload_n 2, 0, 0, 0, .null)]
theorem t_s_X_landlord_5 : s_X_landlord_5.all (am_ok 11 cX11_landlord) = true := by decide +kernel
theorem d_X11_landlord_50 : decode cX11_landlord 50 = .ok (.invokevirtual 198, 3) := by decide +kernel
def s_X_landlord_6 : List am_Q := [(53, .aload_n 0, 0, 0, 0, .null), (54, .getfield 10, 11, 0, 145, .null), (57, .getfield 157, 3, 4, 101, .null), (60, .iload_n 1, 0, 0, 0, .null), (61, .iload_n 2, 0, 0, 0, .null)]
theorem t_s_X_landlord_6 : s_X_landlord_6.all (am_ok 11 cX11_landlord) = true := by decide +kernel
theorem d_X11_landlord_62 : decode cX11_landlord 62 = .ok (.invokevirtual 167, 3) := by decide +kernel
def s_X_landlord_7 : List am_Q := [(65, .aload_n 0, 0, 0, 0, .null), (66, .getfield 36, 11, 5, 150, .null), (69, .aload_n 0, 0, 0, 0, .null), (70, .getfield 10, 11, 0, 145, .null), (73, .getfield 51, 3, 3, 95, .null), (76, .getfield 206, 2, 4, 18, .null)]
theorem t_s_X_landlord_7 : s_X_landlord_7.all (am_ok 11 cX11_landlord) = true := by decide +kernel
theorem d_X11_landlord_79 : decode cX11_landlord 79 = .ok (.invokevirtual 207, 3) := by decide +kernel
def s_X_landlord_8 : List am_Q := [(82, .isub, 0, 0, 0, .null)]
theorem t_s_X_landlord_8 : s_X_landlord_8.all (am_ok 11 cX11_landlord) = true := by decide +kernel
theorem d_X11_landlord_83 : decode cX11_landlord 83 = .ok (.ireturn, 1) := by decide +kernel
def s_X_landlord_9 : List am_Q := [(37, .ldc 205, 0, 0, 3, .int (-1000000000 : Int32))]
theorem t_s_X_landlord_9 : s_X_landlord_9.all (am_ok 11 cX11_landlord) = true := by decide +kernel
def X_landlord (τ : am_T) (a1 : Int32) (a2 : Int32) : Option (Int32 × am_T) :=
  (Co_has τ a1).bind (fun x1 =>
  if x1.1 = 0 then
  (some ((-1000000000 : Int32), x1.2))
else
  ((X_isPast x1.2 a2).bind (fun x2 =>
  if x2.1 = 0 then
  (some ((-1000000000 : Int32), x2.2))
else
  ((Co_isKnown x2.2 a1 a2).bind (fun x3 =>
  if x3.1 = 0 then
  (some ((-1000000000 : Int32), x3.2))
else
  ((Pa_divide x3.2 a1 a2).bind (fun x4 =>
  (Co_penceOn x4 a1 a2).bind (fun x5 =>
  (Pa_allParts x5.2 (x5.2.1 4 4)).bind (fun x6 =>
  some ((x5.1 - x6.1), x6.2))))))))))
set_option maxRecDepth 20000 in
theorem ok_X_landlord {X : am_X} {a1 : Int32} {a2 : Int32} {v : Int32} {τ τ' : am_T} (hF : am_F X "ShareHouse" cX11_landlord 3) (hR : am_R X 5 135) (hB : am_B X (some .int) (some (.int v)) (am_D τ')) (h : X_landlord τ a1 a2 = some (v, τ')) : am_W X 3 (0, [(0, .ref 0), (1, .int a1), (2, .int a2)], [], am_D τ) := by
  unfold X_landlord at h
  refine am_seg s_X_landlord_0 (y := (8, [(0, .ref 0), (1, .int a1), (2, .int a2)], [.int a1, .ref 25], am_D τ)) hF t_s_X_landlord_0 rfl rfl ?_
  refine am_bd h (fun x1 hx h => ?_)
  refine am_callV (As := [.int a1]) (r := (some (.int x1.1))) (st := []) (σ' := am_D x1.2) (ci := 1) hF hR d_X11_landlord_8 (c_Co_has (τ' := x1.2) hx) (Nat.le_refl _) (Nat.le_refl _) wl_X_166 wi_yX1_has we_yX1_has wn_ShareHouse_Costs wc_yX1_has (Nat.le_of_ble_eq_true rfl) (Nat.le_of_ble_eq_true rfl) rfl rfl wy_yX1_has rfl ⟨by decide, by decide⟩ (Nat.le_of_ble_eq_true rfl) ?_
  refine am_ite h (fun hc h => ?_) (fun hc h => ?_)
  · refine am_if_eq_t (t := 37) d_X11_landlord_11 (by decide) hc hF ?_
    refine am_seg s_X_landlord_1 (y := (39, [(0, .ref 0), (1, .int a1), (2, .int a2)], [.int (-1000000000 : Int32)], am_D x1.2)) hF t_s_X_landlord_1 rfl rfl ?_
    obtain ⟨rfl, rfl⟩ := am_pair h
    exact am_iret d_X11_landlord_39 hF hB
  · refine am_if_eq_f (t := 37) d_X11_landlord_11 (by decide) hc hF ?_
    refine am_seg s_X_landlord_2 (y := (16, [(0, .ref 0), (1, .int a1), (2, .int a2)], [.int a2, .ref 0], am_D x1.2)) hF t_s_X_landlord_2 rfl rfl ?_
    refine am_bd h (fun x2 hx h => ?_)
    refine am_callV (As := [.int a2]) (r := (some (.int x2.1))) (st := []) (σ' := am_D x2.2) (ci := 11) hF hR d_X11_landlord_16 (c_X_isPast (τ' := x2.2) hx) (Nat.le_refl _) (Nat.le_refl _) wl_X_153 wi_yX11_isPast we_yX11_isPast wn_ShareHouse wc_yX11_isPast (Nat.le_of_ble_eq_true rfl) (Nat.le_of_ble_eq_true rfl) rfl rfl wy_yX11_isPast rfl ⟨by decide, by decide⟩ (Nat.le_of_ble_eq_true rfl) ?_
    refine am_ite h (fun hc h => ?_) (fun hc h => ?_)
    · refine am_if_eq_t (t := 37) d_X11_landlord_19 (by decide) hc hF ?_
      refine am_seg s_X_landlord_3 (y := (39, [(0, .ref 0), (1, .int a1), (2, .int a2)], [.int (-1000000000 : Int32)], am_D x2.2)) hF t_s_X_landlord_3 rfl rfl ?_
      obtain ⟨rfl, rfl⟩ := am_pair h
      exact am_iret d_X11_landlord_39 hF hB
    · refine am_if_eq_f (t := 37) d_X11_landlord_19 (by decide) hc hF ?_
      refine am_seg s_X_landlord_4 (y := (31, [(0, .ref 0), (1, .int a1), (2, .int a2)], [.int a2, .int a1, .ref 25], am_D x2.2)) hF t_s_X_landlord_4 rfl rfl ?_
      refine am_bd h (fun x3 hx h => ?_)
      refine am_callV (As := [.int a1, .int a2]) (r := (some (.int x3.1))) (st := []) (σ' := am_D x3.2) (ci := 1) hF hR d_X11_landlord_31 (c_Co_isKnown (τ' := x3.2) hx) (Nat.le_refl _) (Nat.le_refl _) wl_X_194 wi_yX1_isKnown we_yX1_isKnown wn_ShareHouse_Costs wc_yX1_isKnown (Nat.le_of_ble_eq_true rfl) (Nat.le_of_ble_eq_true rfl) rfl rfl wy_yX1_isKnown rfl ⟨by decide, by decide⟩ (Nat.le_of_ble_eq_true rfl) ?_
      refine am_ite h (fun hc h => ?_) (fun hc h => ?_)
      · refine am_if_ne_f (t := 40) d_X11_landlord_34 (by decide) hc hF ?_
        refine am_seg s_X_landlord_9 (y := (39, [(0, .ref 0), (1, .int a1), (2, .int a2)], [.int (-1000000000 : Int32)], am_D x3.2)) hF t_s_X_landlord_9 rfl rfl ?_
        obtain ⟨rfl, rfl⟩ := am_pair h
        exact am_iret d_X11_landlord_39 hF hB
      · refine am_if_ne_t (t := 40) d_X11_landlord_34 (by decide) hc hF ?_
        refine am_seg s_X_landlord_5 (y := (50, [(0, .ref 0), (1, .int a1), (2, .int a2)], [.int a2, .int a1, .ref 1, .ref 121], am_D x3.2)) hF t_s_X_landlord_5 rfl rfl ?_
        refine am_bd h (fun x4 hx h => ?_)
        refine am_callV (As := [.ref 1, .int a1, .int a2]) (r := none) (st := []) (σ' := am_D x4) (ci := 6) hF hR d_X11_landlord_50 (c_Pa_divide (τ' := x4) hx) (Nat.le_refl _) (Nat.le_refl _) wl_X_198 wi_yX6_divide we_yX6_divide wn_ShareHouse_Parting wc_yX6_divide (Nat.le_of_ble_eq_true rfl) (Nat.le_of_ble_eq_true rfl) rfl rfl wy_yX6_divide rfl ⟨by decide, by decide⟩ (Nat.le_of_ble_eq_true rfl) ?_
        refine am_seg s_X_landlord_6 (y := (62, [(0, .ref 0), (1, .int a1), (2, .int a2)], [.int a2, .int a1, .ref 25], am_D x4)) hF t_s_X_landlord_6 rfl rfl ?_
        refine am_bd h (fun x5 hx h => ?_)
        refine am_callV (As := [.int a1, .int a2]) (r := (some (.int x5.1))) (st := []) (σ' := am_D x5.2) (ci := 1) hF hR d_X11_landlord_62 (c_Co_penceOn (τ' := x5.2) hx) (Nat.le_refl _) (Nat.le_refl _) wl_X_167 wi_yX1_penceOn we_yX1_penceOn wn_ShareHouse_Costs wc_yX1_penceOn (Nat.le_of_ble_eq_true rfl) (Nat.le_of_ble_eq_true rfl) rfl rfl wy_yX1_penceOn rfl ⟨by decide, by decide⟩ (Nat.le_of_ble_eq_true rfl) ?_
        refine am_seg s_X_landlord_7 (y := (79, [(0, .ref 0), (1, .int a1), (2, .int a2)], [.int (x5.2.1 4 4), .ref 121, .int x5.1], am_D x5.2)) hF t_s_X_landlord_7 rfl rfl ?_
        refine am_bd h (fun x6 hx h => ?_)
        refine am_callV (As := [.int (x5.2.1 4 4)]) (r := (some (.int x6.1))) (st := [.int x5.1]) (σ' := am_D x6.2) (ci := 6) hF hR d_X11_landlord_79 (c_Pa_allParts (τ' := x6.2) hx) (Nat.le_refl _) (Nat.le_refl _) wl_X_207 wi_yX6_allParts we_yX6_allParts wn_ShareHouse_Parting wc_yX6_allParts (Nat.le_of_ble_eq_true rfl) (Nat.le_of_ble_eq_true rfl) rfl rfl wy_yX6_allParts rfl ⟨by decide, by decide⟩ (Nat.le_of_ble_eq_true rfl) ?_
        refine am_seg s_X_landlord_8 (y := (83, [(0, .ref 0), (1, .int a1), (2, .int a2)], [.int (x5.1 - x6.1)], am_D x6.2)) hF t_s_X_landlord_8 rfl rfl ?_
        obtain ⟨rfl, rfl⟩ := am_pair h
        exact am_iret d_X11_landlord_83 hF hB
theorem c_X_landlord {a1 : Int32} {a2 : Int32} {v : Int32} {τ τ' : am_T} (h : X_landlord τ a1 a2 = some (v, τ')) : am_C yX11_landlord cX11_landlord 3 (some .int) 5 135 [.ref 0, .int a1, .int a2] (am_D τ) (some (.int v)) (am_D τ') :=
  am_enter (by decide +kernel) (Nat.le_of_ble_eq_true rfl) ⟨Nat.le_refl _, Nat.le_refl _⟩ (fun X hF hR hB => ok_X_landlord hF hR hB h)
def s_X_isOwner_0 : List am_Q := [(0, .iload_n 0, 0, 0, 0, .null), (1, .iconst 0, 0, 0, 0, .int (nI 0)), (2, .bipush 7, 0, 0, 0, .int (nI 7))]
theorem t_s_X_isOwner_0 : s_X_isOwner_0.all (am_ok 11 cX11_isOwner) = true := by decide +kernel
theorem d_X11_isOwner_4 : decode cX11_isOwner 4 = .ok (.invokestatic 47, 3) := by decide +kernel
theorem d_X11_isOwner_7 : decode cX11_isOwner 7 = .ok (.ireturn, 1) := by decide +kernel
def X_isOwner (τ : am_T) (a0 : Int32) : Option (Int32 × am_T) :=
  (X_within τ a0 (nI 0) (nI 7)).bind (fun x1 =>
  am_g (am_z01 x1.1) (some (x1.1, x1.2)))
set_option maxRecDepth 20000 in
theorem ok_X_isOwner {X : am_X} {a0 : Int32} {v : Int32} {τ τ' : am_T} (hF : am_F X "ShareHouse" cX11_isOwner 1) (hR : am_R X 1 22) (hB : am_B X (some .boolean) (some (.int v)) (am_D τ')) (h : X_isOwner τ a0 = some (v, τ')) : am_W X 1 (0, [(0, .int a0)], [], am_D τ) := by
  unfold X_isOwner at h
  refine am_seg s_X_isOwner_0 (y := (4, [(0, .int a0)], [.int (nI 7), .int (nI 0), .int a0], am_D τ)) hF t_s_X_isOwner_0 rfl rfl ?_
  refine am_bd h (fun x1 hx h => ?_)
  refine am_callS (As := [.int a0, .int (nI 0), .int (nI 7)]) (r := (some (.int x1.1))) (st := []) (σ' := am_D x1.2) hF hR d_X11_isOwner_4 (c_X_within (τ' := x1.2) hx) (Nat.le_refl _) (Nat.le_refl _) wl_X_47 ws_yX11_within wn_ShareHouse wc_yX11_within wy_yX11_within rfl ⟨by decide, by decide⟩ (Nat.le_of_ble_eq_true rfl) ?_
  refine am_gd h (fun hz h => ?_)
  obtain ⟨rfl, rfl⟩ := am_pair h
  exact am_zret d_X11_isOwner_7 (am_z01_n hz) hF hB
theorem c_X_isOwner {a0 : Int32} {v : Int32} {τ τ' : am_T} (h : X_isOwner τ a0 = some (v, τ')) : am_C yX11_isOwner cX11_isOwner 1 (some .boolean) 1 22 [.int a0] (am_D τ) (some (.int v)) (am_D τ') :=
  am_enter (by decide +kernel) (Nat.le_of_ble_eq_true rfl) ⟨Nat.le_refl _, Nat.le_refl _⟩ (fun X hF hR hB => ok_X_isOwner hF hR hB h)
def s_Ow_addSale_0 : List am_Q := [(0, .aload_n 0, 0, 0, 0, .null), (1, .getfield 34, 5, 3, 43, .null), (4, .bipush 20, 0, 0, 0, .int (nI 20))]
theorem t_s_Ow_addSale_0 : s_Ow_addSale_0.all (am_ok 5 cX5_addSale) = true := by decide +kernel
theorem d_X5_addSale_6 : decode cX5_addSale 6 = .ok (.if_icmp .lt 6, 3) := by decide +kernel
def s_Ow_addSale_1 : List am_Q := [(12, .aload_n 0, 0, 0, 0, .null), (13, .getfield 11, 5, 0, 40, .null), (16, .aload_n 0, 0, 0, 0, .null), (17, .getfield 34, 5, 3, 43, .null), (20, .iload_n 1, 0, 0, 0, .null)]
theorem t_s_Ow_addSale_1 : s_Ow_addSale_1.all (am_ok 5 cX5_addSale) = true := by decide +kernel
theorem d_X5_addSale_21 : decode cX5_addSale 21 = .ok (.iastore, 1) := by decide +kernel
def s_Ow_addSale_2 : List am_Q := [(22, .aload_n 0, 0, 0, 0, .null), (23, .getfield 15, 5, 1, 41, .null), (26, .aload_n 0, 0, 0, 0, .null), (27, .getfield 34, 5, 3, 43, .null), (30, .iload_n 2, 0, 0, 0, .null)]
theorem t_s_Ow_addSale_2 : s_Ow_addSale_2.all (am_ok 5 cX5_addSale) = true := by decide +kernel
theorem d_X5_addSale_31 : decode cX5_addSale 31 = .ok (.iastore, 1) := by decide +kernel
def s_Ow_addSale_3 : List am_Q := [(32, .aload_n 0, 0, 0, 0, .null), (33, .getfield 18, 5, 2, 42, .null), (36, .aload_n 0, 0, 0, 0, .null), (37, .getfield 34, 5, 3, 43, .null), (40, .iload_n 3, 0, 0, 0, .null)]
theorem t_s_Ow_addSale_3 : s_Ow_addSale_3.all (am_ok 5 cX5_addSale) = true := by decide +kernel
theorem d_X5_addSale_41 : decode cX5_addSale 41 = .ok (.iastore, 1) := by decide +kernel
def s_Ow_addSale_4 : List am_Q := [(42, .aload_n 0, 0, 0, 0, .null), (43, .dup, 0, 0, 0, .null), (44, .getfield 34, 5, 3, 43, .null), (47, .iconst 1, 0, 0, 0, .int (nI 1)), (48, .iadd, 0, 0, 0, .null), (49, .putfield 34, 5, 3, 43, .null), (52, .aload_n 0, 0, 0, 0, .null), (53, .getfield 34, 5, 3, 43, .null)]
theorem t_s_Ow_addSale_4 : s_Ow_addSale_4.all (am_ok 5 cX5_addSale) = true := by decide +kernel
theorem d_X5_addSale_56 : decode cX5_addSale 56 = .ok (.ireturn, 1) := by decide +kernel
def s_Ow_addSale_5 : List am_Q := [(9, .bipush (-2), 0, 0, 0, .int (-2 : Int32))]
theorem t_s_Ow_addSale_5 : s_Ow_addSale_5.all (am_ok 5 cX5_addSale) = true := by decide +kernel
theorem d_X5_addSale_11 : decode cX5_addSale 11 = .ok (.ireturn, 1) := by decide +kernel
def Ow_addSale (τ : am_T) (a1 : Int32) (a2 : Int32) (a3 : Int32) : Option (Int32 × am_T) :=
  if (τ.1 34 3) < (nI 20) then
  (am_g (am_in (τ.1 34 3) 20) (am_g (am_in ((am_si τ 35 ((τ.1 34 3).toNatClampNeg) a1).1 34 3) 20) (am_g (am_in ((am_si (am_si τ 35 ((τ.1 34 3).toNatClampNeg) a1) 36 (((am_si τ 35 ((τ.1 34 3).toNatClampNeg) a1).1 34 3).toNatClampNeg) a2).1 34 3) 20) (some (((am_si (am_si (am_si (am_si τ 35 ((τ.1 34 3).toNatClampNeg) a1) 36 (((am_si τ 35 ((τ.1 34 3).toNatClampNeg) a1).1 34 3).toNatClampNeg) a2) 37 (((am_si (am_si τ 35 ((τ.1 34 3).toNatClampNeg) a1) 36 (((am_si τ 35 ((τ.1 34 3).toNatClampNeg) a1).1 34 3).toNatClampNeg) a2).1 34 3).toNatClampNeg) a3) 34 3 (((am_si (am_si (am_si τ 35 ((τ.1 34 3).toNatClampNeg) a1) 36 (((am_si τ 35 ((τ.1 34 3).toNatClampNeg) a1).1 34 3).toNatClampNeg) a2) 37 (((am_si (am_si τ 35 ((τ.1 34 3).toNatClampNeg) a1) 36 (((am_si τ 35 ((τ.1 34 3).toNatClampNeg) a1).1 34 3).toNatClampNeg) a2).1 34 3).toNatClampNeg) a3).1 34 3) + (nI 1))).1 34 3), (am_si (am_si (am_si (am_si τ 35 ((τ.1 34 3).toNatClampNeg) a1) 36 (((am_si τ 35 ((τ.1 34 3).toNatClampNeg) a1).1 34 3).toNatClampNeg) a2) 37 (((am_si (am_si τ 35 ((τ.1 34 3).toNatClampNeg) a1) 36 (((am_si τ 35 ((τ.1 34 3).toNatClampNeg) a1).1 34 3).toNatClampNeg) a2).1 34 3).toNatClampNeg) a3) 34 3 (((am_si (am_si (am_si τ 35 ((τ.1 34 3).toNatClampNeg) a1) 36 (((am_si τ 35 ((τ.1 34 3).toNatClampNeg) a1).1 34 3).toNatClampNeg) a2) 37 (((am_si (am_si τ 35 ((τ.1 34 3).toNatClampNeg) a1) 36 (((am_si τ 35 ((τ.1 34 3).toNatClampNeg) a1).1 34 3).toNatClampNeg) a2).1 34 3).toNatClampNeg) a3).1 34 3) + (nI 1))))))))
else
  (some ((-2 : Int32), τ))
set_option maxRecDepth 20000 in
theorem ok_Ow_addSale {X : am_X} {a1 : Int32} {a2 : Int32} {a3 : Int32} {v : Int32} {τ τ' : am_T} (hF : am_F X "ShareHouse$Owners" cX5_addSale 4) (hR : am_R X 0 0) (hB : am_B X (some .int) (some (.int v)) (am_D τ')) (h : Ow_addSale τ a1 a2 a3 = some (v, τ')) : am_W X 4 (0, [(0, .ref 34), (1, .int a1), (2, .int a2), (3, .int a3)], [], am_D τ) := by
  unfold Ow_addSale at h
  refine am_seg s_Ow_addSale_0 (y := (6, [(0, .ref 34), (1, .int a1), (2, .int a2), (3, .int a3)], [.int (nI 20), .int (τ.1 34 3)], am_D τ)) hF t_s_Ow_addSale_0 rfl rfl ?_
  refine am_ite h (fun hc h => ?_) (fun hc h => ?_)
  · refine am_icmp_lt_t (t := 12) d_X5_addSale_6 (by decide) hc hF ?_
    refine am_seg s_Ow_addSale_1 (y := (21, [(0, .ref 34), (1, .int a1), (2, .int a2), (3, .int a3)], [.int a1, .int (τ.1 34 3), .ref 35], am_D τ)) hF t_s_Ow_addSale_1 rfl rfl ?_
    refine am_gd h (fun hi h => ?_)
    refine am_iast (n := 20) (j := ((τ.1 34 3).toNatClampNeg)) d_X5_addSale_21 (Nat.le_of_ble_eq_true rfl) (Nat.le_of_ble_eq_true rfl) rfl hi rfl hF ?_
    refine am_seg s_Ow_addSale_2 (y := (31, [(0, .ref 34), (1, .int a1), (2, .int a2), (3, .int a3)], [.int a2, .int ((am_si τ 35 ((τ.1 34 3).toNatClampNeg) a1).1 34 3), .ref 36], am_D (am_si τ 35 ((τ.1 34 3).toNatClampNeg) a1))) hF t_s_Ow_addSale_2 rfl rfl ?_
    refine am_gd h (fun hi h => ?_)
    refine am_iast (n := 20) (j := (((am_si τ 35 ((τ.1 34 3).toNatClampNeg) a1).1 34 3).toNatClampNeg)) d_X5_addSale_31 (Nat.le_of_ble_eq_true rfl) (Nat.le_of_ble_eq_true rfl) rfl hi rfl hF ?_
    refine am_seg s_Ow_addSale_3 (y := (41, [(0, .ref 34), (1, .int a1), (2, .int a2), (3, .int a3)], [.int a3, .int ((am_si (am_si τ 35 ((τ.1 34 3).toNatClampNeg) a1) 36 (((am_si τ 35 ((τ.1 34 3).toNatClampNeg) a1).1 34 3).toNatClampNeg) a2).1 34 3), .ref 37], am_D (am_si (am_si τ 35 ((τ.1 34 3).toNatClampNeg) a1) 36 (((am_si τ 35 ((τ.1 34 3).toNatClampNeg) a1).1 34 3).toNatClampNeg) a2))) hF t_s_Ow_addSale_3 rfl rfl ?_
    refine am_gd h (fun hi h => ?_)
    refine am_iast (n := 20) (j := (((am_si (am_si τ 35 ((τ.1 34 3).toNatClampNeg) a1) 36 (((am_si τ 35 ((τ.1 34 3).toNatClampNeg) a1).1 34 3).toNatClampNeg) a2).1 34 3).toNatClampNeg)) d_X5_addSale_41 (Nat.le_of_ble_eq_true rfl) (Nat.le_of_ble_eq_true rfl) rfl hi rfl hF ?_
    refine am_seg s_Ow_addSale_4 (y := (56, [(0, .ref 34), (1, .int a1), (2, .int a2), (3, .int a3)], [.int ((am_si (am_si (am_si (am_si τ 35 ((τ.1 34 3).toNatClampNeg) a1) 36 (((am_si τ 35 ((τ.1 34 3).toNatClampNeg) a1).1 34 3).toNatClampNeg) a2) 37 (((am_si (am_si τ 35 ((τ.1 34 3).toNatClampNeg) a1) 36 (((am_si τ 35 ((τ.1 34 3).toNatClampNeg) a1).1 34 3).toNatClampNeg) a2).1 34 3).toNatClampNeg) a3) 34 3 (((am_si (am_si (am_si τ 35 ((τ.1 34 3).toNatClampNeg) a1) 36 (((am_si τ 35 ((τ.1 34 3).toNatClampNeg) a1).1 34 3).toNatClampNeg) a2) 37 (((am_si (am_si τ 35 ((τ.1 34 3).toNatClampNeg) a1) 36 (((am_si τ 35 ((τ.1 34 3).toNatClampNeg) a1).1 34 3).toNatClampNeg) a2).1 34 3).toNatClampNeg) a3).1 34 3) + (nI 1))).1 34 3)], am_D (am_si (am_si (am_si (am_si τ 35 ((τ.1 34 3).toNatClampNeg) a1) 36 (((am_si τ 35 ((τ.1 34 3).toNatClampNeg) a1).1 34 3).toNatClampNeg) a2) 37 (((am_si (am_si τ 35 ((τ.1 34 3).toNatClampNeg) a1) 36 (((am_si τ 35 ((τ.1 34 3).toNatClampNeg) a1).1 34 3).toNatClampNeg) a2).1 34 3).toNatClampNeg) a3) 34 3 (((am_si (am_si (am_si τ 35 ((τ.1 34 3).toNatClampNeg) a1) 36 (((am_si τ 35 ((τ.1 34 3).toNatClampNeg) a1).1 34 3).toNatClampNeg) a2) 37 (((am_si (am_si τ 35 ((τ.1 34 3).toNatClampNeg) a1) 36 (((am_si τ 35 ((τ.1 34 3).toNatClampNeg) a1).1 34 3).toNatClampNeg) a2).1 34 3).toNatClampNeg) a3).1 34 3) + (nI 1))))) hF t_s_Ow_addSale_4 rfl rfl ?_
    obtain ⟨rfl, rfl⟩ := am_pair h
    exact am_iret d_X5_addSale_56 hF hB
  · refine am_icmp_lt_f (t := 12) d_X5_addSale_6 (by decide) hc hF ?_
    refine am_seg s_Ow_addSale_5 (y := (11, [(0, .ref 34), (1, .int a1), (2, .int a2), (3, .int a3)], [.int (-2 : Int32)], am_D τ)) hF t_s_Ow_addSale_5 rfl rfl ?_
    obtain ⟨rfl, rfl⟩ := am_pair h
    exact am_iret d_X5_addSale_11 hF hB
theorem c_Ow_addSale {a1 : Int32} {a2 : Int32} {a3 : Int32} {v : Int32} {τ τ' : am_T} (h : Ow_addSale τ a1 a2 a3 = some (v, τ')) : am_C yX5_addSale cX5_addSale 4 (some .int) 0 0 [.ref 34, .int a1, .int a2, .int a3] (am_D τ) (some (.int v)) (am_D τ') :=
  am_enter (by decide +kernel) (Nat.le_of_ble_eq_true rfl) ⟨Nat.le_refl _, Nat.le_refl _⟩ (fun X hF hR hB => ok_Ow_addSale hF hR hB h)
def s_X_sell_0 : List am_Q := [(0, .aload_n 0, 0, 0, 0, .null), (1, .getfield 10, 11, 0, 145, .null), (4, .getfield 51, 3, 3, 95, .null), (7, .iload_n 1, 0, 0, 0, .null)]
theorem t_s_X_sell_0 : s_X_sell_0.all (am_ok 11 cX11_sell) = true := by decide +kernel
theorem d_X11_sell_8 : decode cX11_sell 8 = .ok (.invokevirtual 68, 3) := by decide +kernel
theorem d_X11_sell_11 : decode cX11_sell 11 = .ok (.ifCond .eq 18, 3) := by decide +kernel
def s_X_sell_1 : List am_Q := [(29, .iconst (-1), 0, 0, 0, .int (-1 : Int32))]
theorem t_s_X_sell_1 : s_X_sell_1.all (am_ok 11 cX11_sell) = true := by decide +kernel
theorem d_X11_sell_30 : decode cX11_sell 30 = .ok (.ireturn, 1) := by decide +kernel
def s_X_sell_2 : List am_Q := [(14, .iload_n 2, 0, 0, 0, .null)]
theorem t_s_X_sell_2 : s_X_sell_2.all (am_ok 11 cX11_sell) = true := by decide +kernel
theorem d_X11_sell_15 : decode cX11_sell 15 = .ok (.invokestatic 210, 3) := by decide +kernel
theorem d_X11_sell_18 : decode cX11_sell 18 = .ok (.ifCond .eq 11, 3) := by decide +kernel
def s_X_sell_3 : List am_Q := [(29, .iconst (-1), 0, 0, 0, .int (-1 : Int32))]
theorem t_s_X_sell_3 : s_X_sell_3.all (am_ok 11 cX11_sell) = true := by decide +kernel
def s_X_sell_4 : List am_Q := [(21, .aload_n 0, 0, 0, 0, .null), (22, .iload_n 3, 0, 0, 0, .null)]
theorem t_s_X_sell_4 : s_X_sell_4.all (am_ok 11 cX11_sell) = true := by decide +kernel
theorem d_X11_sell_23 : decode cX11_sell 23 = .ok (.invokevirtual 153, 3) := by decide +kernel
theorem d_X11_sell_26 : decode cX11_sell 26 = .ok (.ifCond .ne 5, 3) := by decide +kernel
def s_X_sell_5 : List am_Q := [(31, .aload_n 0, 0, 0, 0, .null), (32, .getfield 10, 11, 0, 145, .null), (35, .getfield 213, 3, 5, 104, .null), (38, .iload_n 1, 0, 0, 0, .null), (39, .iload_n 2, 0, 0, 0, .null), (40, .iload_n 3, 0, 0, 0, .null)]
theorem t_s_X_sell_5 : s_X_sell_5.all (am_ok 11 cX11_sell) = true := by decide +kernel
theorem d_X11_sell_41 : decode cX11_sell 41 = .ok (.invokevirtual 217, 3) := by decide +kernel
theorem d_X11_sell_44 : decode cX11_sell 44 = .ok (.ireturn, 1) := by decide +kernel
def s_X_sell_6 : List am_Q := [(29, .iconst (-1), 0, 0, 0, .int (-1 : Int32))]
theorem t_s_X_sell_6 : s_X_sell_6.all (am_ok 11 cX11_sell) = true := by decide +kernel
def X_sell (τ : am_T) (a1 : Int32) (a2 : Int32) (a3 : Int32) : Option (Int32 × am_T) :=
  (Fl_has τ a1).bind (fun x1 =>
  if x1.1 = 0 then
  (some ((-1 : Int32), x1.2))
else
  ((X_isOwner x1.2 a2).bind (fun x2 =>
  if x2.1 = 0 then
  (some ((-1 : Int32), x2.2))
else
  ((X_isPast x2.2 a3).bind (fun x3 =>
  if x3.1 = 0 then
  (some ((-1 : Int32), x3.2))
else
  ((Ow_addSale x3.2 a1 a2 a3).bind (fun x4 =>
  some (x4.1, x4.2))))))))
set_option maxRecDepth 20000 in
theorem ok_X_sell {X : am_X} {a1 : Int32} {a2 : Int32} {a3 : Int32} {v : Int32} {τ τ' : am_T} (hF : am_F X "ShareHouse" cX11_sell 4) (hR : am_R X 2 43) (hB : am_B X (some .int) (some (.int v)) (am_D τ')) (h : X_sell τ a1 a2 a3 = some (v, τ')) : am_W X 4 (0, [(0, .ref 0), (1, .int a1), (2, .int a2), (3, .int a3)], [], am_D τ) := by
  unfold X_sell at h
  refine am_seg s_X_sell_0 (y := (8, [(0, .ref 0), (1, .int a1), (2, .int a2), (3, .int a3)], [.int a1, .ref 4], am_D τ)) hF t_s_X_sell_0 rfl rfl ?_
  refine am_bd h (fun x1 hx h => ?_)
  refine am_callV (As := [.int a1]) (r := (some (.int x1.1))) (st := []) (σ' := am_D x1.2) (ci := 2) hF hR d_X11_sell_8 (c_Fl_has (τ' := x1.2) hx) (Nat.le_refl _) (Nat.le_refl _) wl_X_68 wi_yX2_has we_yX2_has wn_ShareHouse_Flats wc_yX2_has (Nat.le_of_ble_eq_true rfl) (Nat.le_of_ble_eq_true rfl) rfl rfl wy_yX2_has rfl ⟨by decide, by decide⟩ (Nat.le_of_ble_eq_true rfl) ?_
  refine am_ite h (fun hc h => ?_) (fun hc h => ?_)
  · refine am_if_eq_t (t := 29) d_X11_sell_11 (by decide) hc hF ?_
    refine am_seg s_X_sell_1 (y := (30, [(0, .ref 0), (1, .int a1), (2, .int a2), (3, .int a3)], [.int (-1 : Int32)], am_D x1.2)) hF t_s_X_sell_1 rfl rfl ?_
    obtain ⟨rfl, rfl⟩ := am_pair h
    exact am_iret d_X11_sell_30 hF hB
  · refine am_if_eq_f (t := 29) d_X11_sell_11 (by decide) hc hF ?_
    refine am_seg s_X_sell_2 (y := (15, [(0, .ref 0), (1, .int a1), (2, .int a2), (3, .int a3)], [.int a2], am_D x1.2)) hF t_s_X_sell_2 rfl rfl ?_
    refine am_bd h (fun x2 hx h => ?_)
    refine am_callS (As := [.int a2]) (r := (some (.int x2.1))) (st := []) (σ' := am_D x2.2) hF hR d_X11_sell_15 (c_X_isOwner (τ' := x2.2) hx) (Nat.le_refl _) (Nat.le_refl _) wl_X_210 ws_yX11_isOwner wn_ShareHouse wc_yX11_isOwner wy_yX11_isOwner rfl ⟨by decide, by decide⟩ (Nat.le_of_ble_eq_true rfl) ?_
    refine am_ite h (fun hc h => ?_) (fun hc h => ?_)
    · refine am_if_eq_t (t := 29) d_X11_sell_18 (by decide) hc hF ?_
      refine am_seg s_X_sell_3 (y := (30, [(0, .ref 0), (1, .int a1), (2, .int a2), (3, .int a3)], [.int (-1 : Int32)], am_D x2.2)) hF t_s_X_sell_3 rfl rfl ?_
      obtain ⟨rfl, rfl⟩ := am_pair h
      exact am_iret d_X11_sell_30 hF hB
    · refine am_if_eq_f (t := 29) d_X11_sell_18 (by decide) hc hF ?_
      refine am_seg s_X_sell_4 (y := (23, [(0, .ref 0), (1, .int a1), (2, .int a2), (3, .int a3)], [.int a3, .ref 0], am_D x2.2)) hF t_s_X_sell_4 rfl rfl ?_
      refine am_bd h (fun x3 hx h => ?_)
      refine am_callV (As := [.int a3]) (r := (some (.int x3.1))) (st := []) (σ' := am_D x3.2) (ci := 11) hF hR d_X11_sell_23 (c_X_isPast (τ' := x3.2) hx) (Nat.le_refl _) (Nat.le_refl _) wl_X_153 wi_yX11_isPast we_yX11_isPast wn_ShareHouse wc_yX11_isPast (Nat.le_of_ble_eq_true rfl) (Nat.le_of_ble_eq_true rfl) rfl rfl wy_yX11_isPast rfl ⟨by decide, by decide⟩ (Nat.le_of_ble_eq_true rfl) ?_
      refine am_ite h (fun hc h => ?_) (fun hc h => ?_)
      · refine am_if_ne_f (t := 31) d_X11_sell_26 (by decide) hc hF ?_
        refine am_seg s_X_sell_6 (y := (30, [(0, .ref 0), (1, .int a1), (2, .int a2), (3, .int a3)], [.int (-1 : Int32)], am_D x3.2)) hF t_s_X_sell_6 rfl rfl ?_
        obtain ⟨rfl, rfl⟩ := am_pair h
        exact am_iret d_X11_sell_30 hF hB
      · refine am_if_ne_t (t := 31) d_X11_sell_26 (by decide) hc hF ?_
        refine am_seg s_X_sell_5 (y := (41, [(0, .ref 0), (1, .int a1), (2, .int a2), (3, .int a3)], [.int a3, .int a2, .int a1, .ref 34], am_D x3.2)) hF t_s_X_sell_5 rfl rfl ?_
        refine am_bd h (fun x4 hx h => ?_)
        refine am_callV (As := [.int a1, .int a2, .int a3]) (r := (some (.int x4.1))) (st := []) (σ' := am_D x4.2) (ci := 5) hF hR d_X11_sell_41 (c_Ow_addSale (τ' := x4.2) hx) (Nat.le_refl _) (Nat.le_refl _) wl_X_217 wi_yX5_addSale we_yX5_addSale wn_ShareHouse_Owners wc_yX5_addSale (Nat.le_of_ble_eq_true rfl) (Nat.le_of_ble_eq_true rfl) rfl rfl wy_yX5_addSale rfl ⟨by decide, by decide⟩ (Nat.le_of_ble_eq_true rfl) ?_
        obtain ⟨rfl, rfl⟩ := am_pair h
        exact am_iret d_X11_sell_44 hF hB
theorem c_X_sell {a1 : Int32} {a2 : Int32} {a3 : Int32} {v : Int32} {τ τ' : am_T} (h : X_sell τ a1 a2 a3 = some (v, τ')) : am_C yX11_sell cX11_sell 4 (some .int) 2 43 [.ref 0, .int a1, .int a2, .int a3] (am_D τ) (some (.int v)) (am_D τ') :=
  am_enter (by decide +kernel) (Nat.le_of_ble_eq_true rfl) ⟨Nat.le_refl _, Nat.le_refl _⟩ (fun X hF hR hB => ok_X_sell hF hR hB h)
def s_Ow_ownerOn_0 : List am_Q := [(0, .bipush (-3), 0, 0, 0, .int (-3 : Int32)), (2, .istore_n 3, 0, 0, 0, .null), (3, .iconst 0, 0, 0, 0, .int (nI 0)), (4, .istore 4, 0, 0, 0, .null), (6, .iconst 0, 0, 0, 0, .int (nI 0)), (7, .istore 5, 0, 0, 0, .null)]
theorem t_s_Ow_ownerOn_0 : s_Ow_ownerOn_0.all (am_ok 5 cX5_ownerOn) = true := by decide +kernel
def s_Ow_ownerOn_1 : List am_Q := [(9, .iload 5, 0, 0, 0, .null), (11, .aload_n 0, 0, 0, 0, .null), (12, .getfield 34, 5, 3, 43, .null)]
theorem t_s_Ow_ownerOn_1 : s_Ow_ownerOn_1.all (am_ok 5 cX5_ownerOn) = true := by decide +kernel
theorem d_X5_ownerOn_15 : decode cX5_ownerOn 15 = .ok (.if_icmp .ge 53, 3) := by decide +kernel
def s_Ow_ownerOn_2 : List am_Q := [(68, .iload_n 3, 0, 0, 0, .null)]
theorem t_s_Ow_ownerOn_2 : s_Ow_ownerOn_2.all (am_ok 5 cX5_ownerOn) = true := by decide +kernel
theorem d_X5_ownerOn_69 : decode cX5_ownerOn 69 = .ok (.ireturn, 1) := by decide +kernel
def s_Ow_ownerOn_3 : List am_Q := [(18, .aload_n 0, 0, 0, 0, .null), (19, .getfield 11, 5, 0, 40, .null), (22, .iload 5, 0, 0, 0, .null)]
theorem t_s_Ow_ownerOn_3 : s_Ow_ownerOn_3.all (am_ok 5 cX5_ownerOn) = true := by decide +kernel
theorem d_X5_ownerOn_24 : decode cX5_ownerOn 24 = .ok (.iaload, 1) := by decide +kernel
def s_Ow_ownerOn_4 : List am_Q := [(25, .iload_n 1, 0, 0, 0, .null)]
theorem t_s_Ow_ownerOn_4 : s_Ow_ownerOn_4.all (am_ok 5 cX5_ownerOn) = true := by decide +kernel
theorem d_X5_ownerOn_26 : decode cX5_ownerOn 26 = .ok (.if_icmp .ne 36, 3) := by decide +kernel
def s_Ow_ownerOn_5 : List am_Q := [(62, .iinc 5 1, 0, 0, 0, .int (nI 1)), (65, .goto (-56), 9, 0, 0, .null)]
theorem t_s_Ow_ownerOn_5 : s_Ow_ownerOn_5.all (am_ok 5 cX5_ownerOn) = true := by decide +kernel
def s_Ow_ownerOn_6 : List am_Q := [(29, .aload_n 0, 0, 0, 0, .null), (30, .getfield 18, 5, 2, 42, .null), (33, .iload 5, 0, 0, 0, .null)]
theorem t_s_Ow_ownerOn_6 : s_Ow_ownerOn_6.all (am_ok 5 cX5_ownerOn) = true := by decide +kernel
theorem d_X5_ownerOn_35 : decode cX5_ownerOn 35 = .ok (.iaload, 1) := by decide +kernel
def s_Ow_ownerOn_7 : List am_Q := [(36, .iload 4, 0, 0, 0, .null), (38, .iload_n 2, 0, 0, 0, .null)]
theorem t_s_Ow_ownerOn_7 : s_Ow_ownerOn_7.all (am_ok 5 cX5_ownerOn) = true := by decide +kernel
theorem d_X5_ownerOn_39 : decode cX5_ownerOn 39 = .ok (.invokestatic 41, 3) := by decide +kernel
theorem d_X5_ownerOn_42 : decode cX5_ownerOn 42 = .ok (.ifCond .eq 20, 3) := by decide +kernel
def s_Ow_ownerOn_8 : List am_Q := [(62, .iinc 5 1, 0, 0, 0, .int (nI 1)), (65, .goto (-56), 9, 0, 0, .null)]
theorem t_s_Ow_ownerOn_8 : s_Ow_ownerOn_8.all (am_ok 5 cX5_ownerOn) = true := by decide +kernel
def s_Ow_ownerOn_9 : List am_Q := [(45, .aload_n 0, 0, 0, 0, .null), (46, .getfield 15, 5, 1, 41, .null), (49, .iload 5, 0, 0, 0, .null)]
theorem t_s_Ow_ownerOn_9 : s_Ow_ownerOn_9.all (am_ok 5 cX5_ownerOn) = true := by decide +kernel
theorem d_X5_ownerOn_51 : decode cX5_ownerOn 51 = .ok (.iaload, 1) := by decide +kernel
def s_Ow_ownerOn_10 : List am_Q := [(52, .istore_n 3, 0, 0, 0, .null), (53, .aload_n 0, 0, 0, 0, .null), (54, .getfield 18, 5, 2, 42, .null), (57, .iload 5, 0, 0, 0, .null)]
theorem t_s_Ow_ownerOn_10 : s_Ow_ownerOn_10.all (am_ok 5 cX5_ownerOn) = true := by decide +kernel
theorem d_X5_ownerOn_59 : decode cX5_ownerOn 59 = .ok (.iaload, 1) := by decide +kernel
def s_Ow_ownerOn_11 : List am_Q := [(60, .istore 4, 0, 0, 0, .null), (62, .iinc 5 1, 0, 0, 0, .int (nI 1)), (65, .goto (-56), 9, 0, 0, .null)]
theorem t_s_Ow_ownerOn_11 : s_Ow_ownerOn_11.all (am_ok 5 cX5_ownerOn) = true := by decide +kernel
def Ow_ownerOn_9 : Nat → am_T → Int32 → Int32 → Int32 → Int32 → Int32 → Option (Int32 × am_T)
  | 0, _, _, _, _, _, _ => none
  | n + 1, τ, a1, a2, a3, a4, a5 =>
    if (τ.1 34 3) ≤ a5 then
  (some (a3, τ))
else
  (am_g (am_in a5 20) (if (τ.1 35 (a5.toNatClampNeg)) = a1 then
  (am_g (am_in a5 20) ((X_within τ (τ.1 37 (a5.toNatClampNeg)) a4 a2).bind (fun x1 =>
  if x1.1 = 0 then
  ((Ow_ownerOn_9 n) x1.2 a1 a2 a3 a4 (a5 + (nI 1)))
else
  (am_g (am_in a5 20) (am_g (am_in a5 20) ((Ow_ownerOn_9 n) x1.2 a1 a2 (x1.2.1 36 (a5.toNatClampNeg)) (x1.2.1 37 (a5.toNatClampNeg)) (a5 + (nI 1))))))))
else
  ((Ow_ownerOn_9 n) τ a1 a2 a3 a4 (a5 + (nI 1)))))
set_option maxRecDepth 20000 in
theorem ok_Ow_ownerOn_9 {X : am_X} {v : Int32} {τ' : am_T} (hF : am_F X "ShareHouse$Owners" cX5_ownerOn 6) (hR : am_R X 1 22) (hB : am_B X (some .int) (some (.int v)) (am_D τ')) : ∀ (n : Nat) (τ : am_T) (a1 : Int32) (a2 : Int32) (a3 : Int32) (a4 : Int32) (a5 : Int32), Ow_ownerOn_9 n τ a1 a2 a3 a4 a5 = some (v, τ') → am_W X 6 (9, [(0, .ref 34), (1, .int a1), (2, .int a2), (3, .int a3), (4, .int a4), (5, .int a5)], [], am_D τ) := by
  intro n
  induction n with
  | zero => intro τ a1 a2 a3 a4 a5 h; unfold Ow_ownerOn_9 at h; cases h
  | succ n ih =>
    intro τ a1 a2 a3 a4 a5 h
    unfold Ow_ownerOn_9 at h
    refine am_seg s_Ow_ownerOn_1 (y := (15, [(0, .ref 34), (1, .int a1), (2, .int a2), (3, .int a3), (4, .int a4), (5, .int a5)], [.int (τ.1 34 3), .int a5], am_D τ)) hF t_s_Ow_ownerOn_1 rfl rfl ?_
    refine am_ite h (fun hc h => ?_) (fun hc h => ?_)
    · refine am_icmp_ge_t (t := 68) d_X5_ownerOn_15 (by decide) hc hF ?_
      refine am_seg s_Ow_ownerOn_2 (y := (69, [(0, .ref 34), (1, .int a1), (2, .int a2), (3, .int a3), (4, .int a4), (5, .int a5)], [.int a3], am_D τ)) hF t_s_Ow_ownerOn_2 rfl rfl ?_
      obtain ⟨rfl, rfl⟩ := am_pair h
      exact am_iret d_X5_ownerOn_69 hF hB
    · refine am_icmp_ge_f (t := 68) d_X5_ownerOn_15 (by decide) hc hF ?_
      refine am_seg s_Ow_ownerOn_3 (y := (24, [(0, .ref 34), (1, .int a1), (2, .int a2), (3, .int a3), (4, .int a4), (5, .int a5)], [.int a5, .ref 35], am_D τ)) hF t_s_Ow_ownerOn_3 rfl rfl ?_
      refine am_gd h (fun hi h => ?_)
      refine am_iald (n := 20) (j := (a5.toNatClampNeg)) d_X5_ownerOn_24 (Nat.le_of_ble_eq_true rfl) (Nat.le_of_ble_eq_true rfl) rfl hi rfl hF ?_
      refine am_seg s_Ow_ownerOn_4 (y := (26, [(0, .ref 34), (1, .int a1), (2, .int a2), (3, .int a3), (4, .int a4), (5, .int a5)], [.int a1, .int (τ.1 35 (a5.toNatClampNeg))], am_D τ)) hF t_s_Ow_ownerOn_4 rfl rfl ?_
      refine am_ite h (fun hc h => ?_) (fun hc h => ?_)
      · refine am_icmp_ne_f (t := 62) d_X5_ownerOn_26 (by decide) hc hF ?_
        refine am_seg s_Ow_ownerOn_6 (y := (35, [(0, .ref 34), (1, .int a1), (2, .int a2), (3, .int a3), (4, .int a4), (5, .int a5)], [.int a5, .ref 37], am_D τ)) hF t_s_Ow_ownerOn_6 rfl rfl ?_
        refine am_gd h (fun hi h => ?_)
        refine am_iald (n := 20) (j := (a5.toNatClampNeg)) d_X5_ownerOn_35 (Nat.le_of_ble_eq_true rfl) (Nat.le_of_ble_eq_true rfl) rfl hi rfl hF ?_
        refine am_seg s_Ow_ownerOn_7 (y := (39, [(0, .ref 34), (1, .int a1), (2, .int a2), (3, .int a3), (4, .int a4), (5, .int a5)], [.int a2, .int a4, .int (τ.1 37 (a5.toNatClampNeg))], am_D τ)) hF t_s_Ow_ownerOn_7 rfl rfl ?_
        refine am_bd h (fun x1 hx h => ?_)
        refine am_callSN (As := [.int (τ.1 37 (a5.toNatClampNeg)), .int a4, .int a2]) (r := (some (.int x1.1))) (st := []) (σ' := am_D x1.2) (host := "ShareHouse") hF hR d_X5_ownerOn_39 (c_X_within (τ' := x1.2) hx) (Nat.le_refl _) (Nat.le_refl _) wk_Ow_41 ws_yX11_within wn_ShareHouse wc_yX11_within wy_yX11_within rfl ⟨by decide, by decide⟩ (Nat.le_of_ble_eq_true rfl) ?_
        refine am_ite h (fun hc h => ?_) (fun hc h => ?_)
        · refine am_if_eq_t (t := 62) d_X5_ownerOn_42 (by decide) hc hF ?_
          refine am_seg s_Ow_ownerOn_8 (y := (9, [(5, .int (a5 + (nI 1))), (0, .ref 34), (1, .int a1), (2, .int a2), (3, .int a3), (4, .int a4)], [], am_D x1.2)) hF t_s_Ow_ownerOn_8 rfl rfl ?_
          refine am_pick [1, 2, 3, 4, 5, 0] rfl ?_
          exact ih _ _ _ _ _ _ h
        · refine am_if_eq_f (t := 62) d_X5_ownerOn_42 (by decide) hc hF ?_
          refine am_seg s_Ow_ownerOn_9 (y := (51, [(0, .ref 34), (1, .int a1), (2, .int a2), (3, .int a3), (4, .int a4), (5, .int a5)], [.int a5, .ref 36], am_D x1.2)) hF t_s_Ow_ownerOn_9 rfl rfl ?_
          refine am_gd h (fun hi h => ?_)
          refine am_iald (n := 20) (j := (a5.toNatClampNeg)) d_X5_ownerOn_51 (Nat.le_of_ble_eq_true rfl) (Nat.le_of_ble_eq_true rfl) rfl hi rfl hF ?_
          refine am_seg s_Ow_ownerOn_10 (y := (59, [(3, .int (x1.2.1 36 (a5.toNatClampNeg))), (0, .ref 34), (1, .int a1), (2, .int a2), (4, .int a4), (5, .int a5)], [.int a5, .ref 37], am_D x1.2)) hF t_s_Ow_ownerOn_10 rfl rfl ?_
          refine am_gd h (fun hi h => ?_)
          refine am_iald (n := 20) (j := (a5.toNatClampNeg)) d_X5_ownerOn_59 (Nat.le_of_ble_eq_true rfl) (Nat.le_of_ble_eq_true rfl) rfl hi rfl hF ?_
          refine am_seg s_Ow_ownerOn_11 (y := (9, [(5, .int (a5 + (nI 1))), (4, .int (x1.2.1 37 (a5.toNatClampNeg))), (3, .int (x1.2.1 36 (a5.toNatClampNeg))), (0, .ref 34), (1, .int a1), (2, .int a2)], [], am_D x1.2)) hF t_s_Ow_ownerOn_11 rfl rfl ?_
          refine am_pick [3, 4, 5, 2, 1, 0] rfl ?_
          exact ih _ _ _ _ _ _ h
      · refine am_icmp_ne_t (t := 62) d_X5_ownerOn_26 (by decide) hc hF ?_
        refine am_seg s_Ow_ownerOn_5 (y := (9, [(5, .int (a5 + (nI 1))), (0, .ref 34), (1, .int a1), (2, .int a2), (3, .int a3), (4, .int a4)], [], am_D τ)) hF t_s_Ow_ownerOn_5 rfl rfl ?_
        refine am_pick [1, 2, 3, 4, 5, 0] rfl ?_
        exact ih _ _ _ _ _ _ h
def Ow_ownerOn (τ : am_T) (a1 : Int32) (a2 : Int32) : Option (Int32 × am_T) :=
  Ow_ownerOn_9 5000 τ a1 a2 (-3 : Int32) (nI 0) (nI 0)
set_option maxRecDepth 20000 in
theorem ok_Ow_ownerOn {X : am_X} {a1 : Int32} {a2 : Int32} {v : Int32} {τ τ' : am_T} (hF : am_F X "ShareHouse$Owners" cX5_ownerOn 6) (hR : am_R X 1 22) (hB : am_B X (some .int) (some (.int v)) (am_D τ')) (h : Ow_ownerOn τ a1 a2 = some (v, τ')) : am_W X 6 (0, [(0, .ref 34), (1, .int a1), (2, .int a2)], [], am_D τ) := by
  unfold Ow_ownerOn at h
  refine am_seg s_Ow_ownerOn_0 (y := (9, [(5, .int (nI 0)), (4, .int (nI 0)), (3, .int (-3 : Int32)), (0, .ref 34), (1, .int a1), (2, .int a2)], [], am_D τ)) hF t_s_Ow_ownerOn_0 rfl rfl ?_
  refine am_pick [3, 4, 5, 2, 1, 0] rfl ?_
  exact ok_Ow_ownerOn_9 hF hR hB _ _ _ _ _ _ _ h
theorem c_Ow_ownerOn {a1 : Int32} {a2 : Int32} {v : Int32} {τ τ' : am_T} (h : Ow_ownerOn τ a1 a2 = some (v, τ')) : am_C yX5_ownerOn cX5_ownerOn 6 (some .int) 1 22 [.ref 34, .int a1, .int a2] (am_D τ) (some (.int v)) (am_D τ') :=
  am_enter (by decide +kernel) (Nat.le_of_ble_eq_true rfl) ⟨Nat.le_refl _, Nat.le_refl _⟩ (fun X hF hR hB => ok_Ow_ownerOn hF hR hB h)
def s_X_owner_0 : List am_Q := [(0, .aload_n 0, 0, 0, 0, .null), (1, .getfield 10, 11, 0, 145, .null), (4, .getfield 51, 3, 3, 95, .null), (7, .iload_n 1, 0, 0, 0, .null)]
theorem t_s_X_owner_0 : s_X_owner_0.all (am_ok 11 cX11_owner) = true := by decide +kernel
theorem d_X11_owner_8 : decode cX11_owner 8 = .ok (.invokevirtual 68, 3) := by decide +kernel
theorem d_X11_owner_11 : decode cX11_owner 11 = .ok (.ifCond .eq 14, 3) := by decide +kernel
def s_X_owner_1 : List am_Q := [(25, .iconst (-1), 0, 0, 0, .int (-1 : Int32))]
theorem t_s_X_owner_1 : s_X_owner_1.all (am_ok 11 cX11_owner) = true := by decide +kernel
theorem d_X11_owner_26 : decode cX11_owner 26 = .ok (.ireturn, 1) := by decide +kernel
def s_X_owner_2 : List am_Q := [(14, .iload_n 2, 0, 0, 0, .null), (15, .iconst 0, 0, 0, 0, .int (nI 0)), (16, .sipush 900, 0, 0, 0, .int (nI 900))]
theorem t_s_X_owner_2 : s_X_owner_2.all (am_ok 11 cX11_owner) = true := by decide +kernel
theorem d_X11_owner_19 : decode cX11_owner 19 = .ok (.invokestatic 47, 3) := by decide +kernel
theorem d_X11_owner_22 : decode cX11_owner 22 = .ok (.ifCond .ne 5, 3) := by decide +kernel
def s_X_owner_3 : List am_Q := [(27, .aload_n 0, 0, 0, 0, .null), (28, .getfield 10, 11, 0, 145, .null), (31, .getfield 213, 3, 5, 104, .null), (34, .iload_n 1, 0, 0, 0, .null), (35, .iload_n 2, 0, 0, 0, .null)]
theorem t_s_X_owner_3 : s_X_owner_3.all (am_ok 11 cX11_owner) = true := by decide +kernel
theorem d_X11_owner_36 : decode cX11_owner 36 = .ok (.invokevirtual 223, 3) := by decide +kernel
theorem d_X11_owner_39 : decode cX11_owner 39 = .ok (.ireturn, 1) := by decide +kernel
def s_X_owner_4 : List am_Q := [(25, .iconst (-1), 0, 0, 0, .int (-1 : Int32))]
theorem t_s_X_owner_4 : s_X_owner_4.all (am_ok 11 cX11_owner) = true := by decide +kernel
def X_owner (τ : am_T) (a1 : Int32) (a2 : Int32) : Option (Int32 × am_T) :=
  (Fl_has τ a1).bind (fun x1 =>
  if x1.1 = 0 then
  (some ((-1 : Int32), x1.2))
else
  ((X_within x1.2 a2 (nI 0) (nI 900)).bind (fun x2 =>
  if x2.1 = 0 then
  (some ((-1 : Int32), x2.2))
else
  ((Ow_ownerOn x2.2 a1 a2).bind (fun x3 =>
  some (x3.1, x3.2))))))
set_option maxRecDepth 20000 in
theorem ok_X_owner {X : am_X} {a1 : Int32} {a2 : Int32} {v : Int32} {τ τ' : am_T} (hF : am_F X "ShareHouse" cX11_owner 3) (hR : am_R X 2 47) (hB : am_B X (some .int) (some (.int v)) (am_D τ')) (h : X_owner τ a1 a2 = some (v, τ')) : am_W X 3 (0, [(0, .ref 0), (1, .int a1), (2, .int a2)], [], am_D τ) := by
  unfold X_owner at h
  refine am_seg s_X_owner_0 (y := (8, [(0, .ref 0), (1, .int a1), (2, .int a2)], [.int a1, .ref 4], am_D τ)) hF t_s_X_owner_0 rfl rfl ?_
  refine am_bd h (fun x1 hx h => ?_)
  refine am_callV (As := [.int a1]) (r := (some (.int x1.1))) (st := []) (σ' := am_D x1.2) (ci := 2) hF hR d_X11_owner_8 (c_Fl_has (τ' := x1.2) hx) (Nat.le_refl _) (Nat.le_refl _) wl_X_68 wi_yX2_has we_yX2_has wn_ShareHouse_Flats wc_yX2_has (Nat.le_of_ble_eq_true rfl) (Nat.le_of_ble_eq_true rfl) rfl rfl wy_yX2_has rfl ⟨by decide, by decide⟩ (Nat.le_of_ble_eq_true rfl) ?_
  refine am_ite h (fun hc h => ?_) (fun hc h => ?_)
  · refine am_if_eq_t (t := 25) d_X11_owner_11 (by decide) hc hF ?_
    refine am_seg s_X_owner_1 (y := (26, [(0, .ref 0), (1, .int a1), (2, .int a2)], [.int (-1 : Int32)], am_D x1.2)) hF t_s_X_owner_1 rfl rfl ?_
    obtain ⟨rfl, rfl⟩ := am_pair h
    exact am_iret d_X11_owner_26 hF hB
  · refine am_if_eq_f (t := 25) d_X11_owner_11 (by decide) hc hF ?_
    refine am_seg s_X_owner_2 (y := (19, [(0, .ref 0), (1, .int a1), (2, .int a2)], [.int (nI 900), .int (nI 0), .int a2], am_D x1.2)) hF t_s_X_owner_2 rfl rfl ?_
    refine am_bd h (fun x2 hx h => ?_)
    refine am_callS (As := [.int a2, .int (nI 0), .int (nI 900)]) (r := (some (.int x2.1))) (st := []) (σ' := am_D x2.2) hF hR d_X11_owner_19 (c_X_within (τ' := x2.2) hx) (Nat.le_refl _) (Nat.le_refl _) wl_X_47 ws_yX11_within wn_ShareHouse wc_yX11_within wy_yX11_within rfl ⟨by decide, by decide⟩ (Nat.le_of_ble_eq_true rfl) ?_
    refine am_ite h (fun hc h => ?_) (fun hc h => ?_)
    · refine am_if_ne_f (t := 27) d_X11_owner_22 (by decide) hc hF ?_
      refine am_seg s_X_owner_4 (y := (26, [(0, .ref 0), (1, .int a1), (2, .int a2)], [.int (-1 : Int32)], am_D x2.2)) hF t_s_X_owner_4 rfl rfl ?_
      obtain ⟨rfl, rfl⟩ := am_pair h
      exact am_iret d_X11_owner_26 hF hB
    · refine am_if_ne_t (t := 27) d_X11_owner_22 (by decide) hc hF ?_
      refine am_seg s_X_owner_3 (y := (36, [(0, .ref 0), (1, .int a1), (2, .int a2)], [.int a2, .int a1, .ref 34], am_D x2.2)) hF t_s_X_owner_3 rfl rfl ?_
      refine am_bd h (fun x3 hx h => ?_)
      refine am_callV (As := [.int a1, .int a2]) (r := (some (.int x3.1))) (st := []) (σ' := am_D x3.2) (ci := 5) hF hR d_X11_owner_36 (c_Ow_ownerOn (τ' := x3.2) hx) (Nat.le_refl _) (Nat.le_refl _) wl_X_223 wi_yX5_ownerOn we_yX5_ownerOn wn_ShareHouse_Owners wc_yX5_ownerOn (Nat.le_of_ble_eq_true rfl) (Nat.le_of_ble_eq_true rfl) rfl rfl wy_yX5_ownerOn rfl ⟨by decide, by decide⟩ (Nat.le_of_ble_eq_true rfl) ?_
      obtain ⟨rfl, rfl⟩ := am_pair h
      exact am_iret d_X11_owner_39 hF hB
theorem c_X_owner {a1 : Int32} {a2 : Int32} {v : Int32} {τ τ' : am_T} (h : X_owner τ a1 a2 = some (v, τ')) : am_C yX11_owner cX11_owner 3 (some .int) 2 47 [.ref 0, .int a1, .int a2] (am_D τ) (some (.int v)) (am_D τ') :=
  am_enter (by decide +kernel) (Nat.le_of_ble_eq_true rfl) ⟨Nat.le_refl _, Nat.le_refl _⟩ (fun X hF hR hB => ok_X_owner hF hR hB h)

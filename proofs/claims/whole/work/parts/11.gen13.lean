def s_M_share_0 : List am_Q := [(0, .aload_n 0, 0, 0, 0, .null), (1, .iload_n 1, 0, 0, 0, .null)]
theorem t_s_M_share_0 : s_M_share_0.all (am_ok 12 cX12_share) = true := by decide +kernel
theorem d_X12_share_2 : decode cX12_share 2 = .ok (.invokevirtual 179, 3) := by decide +kernel
theorem d_X12_share_5 : decode cX12_share 5 = .ok (.ifCond .eq 19, 3) := by decide +kernel
def s_M_share_1 : List am_Q := [(24, .iconst (-1), 0, 0, 0, .int (-1 : Int32))]
theorem t_s_M_share_1 : s_M_share_1.all (am_ok 12 cX12_share) = true := by decide +kernel
theorem d_X12_share_25 : decode cX12_share 25 = .ok (.ireturn, 1) := by decide +kernel
def s_M_share_2 : List am_Q := [(8, .iload_n 2, 0, 0, 0, .null)]
theorem t_s_M_share_2 : s_M_share_2.all (am_ok 12 cX12_share) = true := by decide +kernel
theorem d_X12_share_9 : decode cX12_share 9 = .ok (.invokestatic 203, 3) := by decide +kernel
theorem d_X12_share_12 : decode cX12_share 12 = .ok (.ifCond .eq 12, 3) := by decide +kernel
def s_M_share_3 : List am_Q := [(24, .iconst (-1), 0, 0, 0, .int (-1 : Int32))]
theorem t_s_M_share_3 : s_M_share_3.all (am_ok 12 cX12_share) = true := by decide +kernel
def s_M_share_4 : List am_Q := [(15, .iload_n 3, 0, 0, 0, .null), (16, .iconst 0, 0, 0, 0, .int (nI 0)), (17, .iconst 1, 0, 0, 0, .int (nI 1))]
theorem t_s_M_share_4 : s_M_share_4.all (am_ok 12 cX12_share) = true := by decide +kernel
theorem d_X12_share_18 : decode cX12_share 18 = .ok (.invokestatic 51, 3) := by decide +kernel
theorem d_X12_share_21 : decode cX12_share 21 = .ok (.ifCond .ne 5, 3) := by decide +kernel
def s_M_share_5 : List am_Q := [(26, .aload_n 0, 0, 0, 0, .null), (27, .iload_n 1, 0, 0, 0, .null), (28, .iload_n 2, 0, 0, 0, .null)]
theorem t_s_M_share_5 : s_M_share_5.all (am_ok 12 cX12_share) = true := by decide +kernel
theorem d_X12_share_29 : decode cX12_share 29 = .ok (.invokevirtual 206, 3) := by decide +kernel
def s_M_share_6 : List am_Q := [(32, .iload_n 3, 0, 0, 0, .null)]
theorem t_s_M_share_6 : s_M_share_6.all (am_ok 12 cX12_share) = true := by decide +kernel
theorem d_X12_share_33 : decode cX12_share 33 = .ok (.ifCond .ne 10, 3) := by decide +kernel
def s_M_share_7 : List am_Q := [(43, .aload_n 0, 0, 0, 0, .null), (44, .getfield 192, 12, 16, 168, .null)]
theorem t_s_M_share_7 : s_M_share_7.all (am_ok 12 cX12_share) = true := by decide +kernel
theorem d_X12_share_47 : decode cX12_share 47 = .ok (.ireturn, 1) := by decide +kernel
def s_M_share_8 : List am_Q := [(36, .aload_n 0, 0, 0, 0, .null), (37, .getfield 189, 12, 15, 167, .null), (40, .goto 7, 47, 0, 0, .null)]
theorem t_s_M_share_8 : s_M_share_8.all (am_ok 12 cX12_share) = true := by decide +kernel
def s_M_share_9 : List am_Q := [(24, .iconst (-1), 0, 0, 0, .int (-1 : Int32))]
theorem t_s_M_share_9 : s_M_share_9.all (am_ok 12 cX12_share) = true := by decide +kernel
def M_share (τ : am_T) (a1 : Int32) (a2 : Int32) (a3 : Int32) : Option (Int32 × am_T) :=
  (M_isFlat τ a1).bind (fun x1 =>
  if x1.1 = 0 then
  (some ((-1 : Int32), x1.2))
else
  ((M_isHead x1.2 a2).bind (fun x2 =>
  if x2.1 = 0 then
  (some ((-1 : Int32), x2.2))
else
  ((M_in x2.2 a3 (nI 0) (nI 1)).bind (fun x3 =>
  if x3.1 = 0 then
  (some ((-1 : Int32), x3.2))
else
  ((M_findShare x3.2 a1 a2).bind (fun x4 =>
  if a3 = 0 then
  (some ((x4.1 140 15), x4))
else
  (some ((x4.1 140 16), x4)))))))))
set_option maxRecDepth 20000 in
theorem ok_M_share {X : am_X} {a1 : Int32} {a2 : Int32} {a3 : Int32} {v : Int32} {τ τ' : am_T} (hF : am_F X "ShareHouseModel" cX12_share 4) (hR : am_R X 3 69) (hB : am_B X (some .int) (some (.int v)) (am_D τ')) (h : M_share τ a1 a2 a3 = some (v, τ')) : am_W X 4 (0, [(0, .ref 140), (1, .int a1), (2, .int a2), (3, .int a3)], [], am_D τ) := by
  unfold M_share at h
  refine am_seg s_M_share_0 (y := (2, [(0, .ref 140), (1, .int a1), (2, .int a2), (3, .int a3)], [.int a1, .ref 140], am_D τ)) hF t_s_M_share_0 rfl rfl ?_
  refine am_bd h (fun x1 hx h => ?_)
  refine am_callV (As := [.int a1]) (r := (some (.int x1.1))) (st := []) (σ' := am_D x1.2) (ci := 12) hF hR d_X12_share_2 (c_M_isFlat (τ' := x1.2) hx) (Nat.le_refl _) (Nat.le_refl _) wl_M_179 wi_yX12_isFlat we_yX12_isFlat wn_ShareHouseModel wc_yX12_isFlat (Nat.le_of_ble_eq_true rfl) (Nat.le_of_ble_eq_true rfl) rfl rfl wy_yX12_isFlat rfl ⟨by decide, by decide⟩ (Nat.le_of_ble_eq_true rfl) ?_
  refine am_ite h (fun hc h => ?_) (fun hc h => ?_)
  · refine am_if_eq_t (t := 24) d_X12_share_5 (by decide) hc hF ?_
    refine am_seg s_M_share_1 (y := (25, [(0, .ref 140), (1, .int a1), (2, .int a2), (3, .int a3)], [.int (-1 : Int32)], am_D x1.2)) hF t_s_M_share_1 rfl rfl ?_
    obtain ⟨rfl, rfl⟩ := am_pair h
    exact am_iret d_X12_share_25 hF hB
  · refine am_if_eq_f (t := 24) d_X12_share_5 (by decide) hc hF ?_
    refine am_seg s_M_share_2 (y := (9, [(0, .ref 140), (1, .int a1), (2, .int a2), (3, .int a3)], [.int a2], am_D x1.2)) hF t_s_M_share_2 rfl rfl ?_
    refine am_bd h (fun x2 hx h => ?_)
    refine am_callS (As := [.int a2]) (r := (some (.int x2.1))) (st := []) (σ' := am_D x2.2) hF hR d_X12_share_9 (c_M_isHead (τ' := x2.2) hx) (Nat.le_refl _) (Nat.le_refl _) wl_M_203 ws_yX12_isHead wn_ShareHouseModel wc_yX12_isHead wy_yX12_isHead rfl ⟨by decide, by decide⟩ (Nat.le_of_ble_eq_true rfl) ?_
    refine am_ite h (fun hc h => ?_) (fun hc h => ?_)
    · refine am_if_eq_t (t := 24) d_X12_share_12 (by decide) hc hF ?_
      refine am_seg s_M_share_3 (y := (25, [(0, .ref 140), (1, .int a1), (2, .int a2), (3, .int a3)], [.int (-1 : Int32)], am_D x2.2)) hF t_s_M_share_3 rfl rfl ?_
      obtain ⟨rfl, rfl⟩ := am_pair h
      exact am_iret d_X12_share_25 hF hB
    · refine am_if_eq_f (t := 24) d_X12_share_12 (by decide) hc hF ?_
      refine am_seg s_M_share_4 (y := (18, [(0, .ref 140), (1, .int a1), (2, .int a2), (3, .int a3)], [.int (nI 1), .int (nI 0), .int a3], am_D x2.2)) hF t_s_M_share_4 rfl rfl ?_
      refine am_bd h (fun x3 hx h => ?_)
      refine am_callS (As := [.int a3, .int (nI 0), .int (nI 1)]) (r := (some (.int x3.1))) (st := []) (σ' := am_D x3.2) hF hR d_X12_share_18 (c_M_in (τ' := x3.2) hx) (Nat.le_refl _) (Nat.le_refl _) wl_M_51 ws_yX12_in wn_ShareHouseModel wc_yX12_in wy_yX12_in rfl ⟨by decide, by decide⟩ (Nat.le_of_ble_eq_true rfl) ?_
      refine am_ite h (fun hc h => ?_) (fun hc h => ?_)
      · refine am_if_ne_f (t := 26) d_X12_share_21 (by decide) hc hF ?_
        refine am_seg s_M_share_9 (y := (25, [(0, .ref 140), (1, .int a1), (2, .int a2), (3, .int a3)], [.int (-1 : Int32)], am_D x3.2)) hF t_s_M_share_9 rfl rfl ?_
        obtain ⟨rfl, rfl⟩ := am_pair h
        exact am_iret d_X12_share_25 hF hB
      · refine am_if_ne_t (t := 26) d_X12_share_21 (by decide) hc hF ?_
        refine am_seg s_M_share_5 (y := (29, [(0, .ref 140), (1, .int a1), (2, .int a2), (3, .int a3)], [.int a2, .int a1, .ref 140], am_D x3.2)) hF t_s_M_share_5 rfl rfl ?_
        refine am_bd h (fun x4 hx h => ?_)
        refine am_callV (As := [.int a1, .int a2]) (r := none) (st := []) (σ' := am_D x4) (ci := 12) hF hR d_X12_share_29 (c_M_findShare (τ' := x4) hx) (Nat.le_refl _) (Nat.le_refl _) wl_M_206 wi_yX12_findShare we_yX12_findShare wn_ShareHouseModel wc_yX12_findShare (Nat.le_of_ble_eq_true rfl) (Nat.le_of_ble_eq_true rfl) rfl rfl wy_yX12_findShare rfl ⟨by decide, by decide⟩ (Nat.le_of_ble_eq_true rfl) ?_
        refine am_seg s_M_share_6 (y := (33, [(0, .ref 140), (1, .int a1), (2, .int a2), (3, .int a3)], [.int a3], am_D x4)) hF t_s_M_share_6 rfl rfl ?_
        refine am_ite h (fun hc h => ?_) (fun hc h => ?_)
        · refine am_if_ne_f (t := 43) d_X12_share_33 (by decide) hc hF ?_
          refine am_seg s_M_share_8 (y := (47, [(0, .ref 140), (1, .int a1), (2, .int a2), (3, .int a3)], [.int (x4.1 140 15)], am_D x4)) hF t_s_M_share_8 rfl rfl ?_
          obtain ⟨rfl, rfl⟩ := am_pair h
          exact am_iret d_X12_share_47 hF hB
        · refine am_if_ne_t (t := 43) d_X12_share_33 (by decide) hc hF ?_
          refine am_seg s_M_share_7 (y := (47, [(0, .ref 140), (1, .int a1), (2, .int a2), (3, .int a3)], [.int (x4.1 140 16)], am_D x4)) hF t_s_M_share_7 rfl rfl ?_
          obtain ⟨rfl, rfl⟩ := am_pair h
          exact am_iret d_X12_share_47 hF hB
theorem c_M_share {a1 : Int32} {a2 : Int32} {a3 : Int32} {v : Int32} {τ τ' : am_T} (h : M_share τ a1 a2 a3 = some (v, τ')) : am_C yX12_share cX12_share 4 (some .int) 3 69 [.ref 140, .int a1, .int a2, .int a3] (am_D τ) (some (.int v)) (am_D τ') :=
  am_enter (by decide +kernel) (Nat.le_of_ble_eq_true rfl) ⟨Nat.le_refl _, Nat.le_refl _⟩ (fun X hF hR hB => ok_M_share hF hR hB h)
def s_M_findShares_0 : List am_Q := [(0, .aload_n 0, 0, 0, 0, .null), (1, .lconst 1, 0, 0, 0, .long (lN 1)), (2, .putfield 210, 12, 18, 170, .null), (5, .iconst 0, 0, 0, 0, .int (nI 0)), (6, .istore_n 2, 0, 0, 0, .null)]
theorem t_s_M_findShares_0 : s_M_findShares_0.all (am_ok 12 cX12_findShares) = true := by decide +kernel
def s_M_findShares_1 : List am_Q := [(7, .iload_n 2, 0, 0, 0, .null), (8, .aload_n 0, 0, 0, 0, .null), (9, .getfield 7, 12, 0, 152, .null), (12, .iconst 1, 0, 0, 0, .int (nI 1))]
theorem t_s_M_findShares_1 : s_M_findShares_1.all (am_ok 12 cX12_findShares) = true := by decide +kernel
theorem d_X12_findShares_13 : decode cX12_findShares 13 = .ok (.iaload, 1) := by decide +kernel
theorem d_X12_findShares_14 : decode cX12_findShares 14 = .ok (.if_icmp .ge 42, 3) := by decide +kernel
def s_M_findShares_2 : List am_Q := [(56, .aload_n 0, 0, 0, 0, .null), (57, .lconst 0, 0, 0, 0, .long (lN 0)), (58, .putfield 214, 12, 19, 171, .null), (61, .iconst 0, 0, 0, 0, .int (nI 0)), (62, .istore_n 2, 0, 0, 0, .null)]
theorem t_s_M_findShares_2 : s_M_findShares_2.all (am_ok 12 cX12_findShares) = true := by decide +kernel
def s_M_findShares_3 : List am_Q := [(63, .iload_n 2, 0, 0, 0, .null), (64, .aload_n 0, 0, 0, 0, .null), (65, .getfield 7, 12, 0, 152, .null), (68, .iconst 1, 0, 0, 0, .int (nI 1))]
theorem t_s_M_findShares_3 : s_M_findShares_3.all (am_ok 12 cX12_findShares) = true := by decide +kernel
theorem d_X12_findShares_69 : decode cX12_findShares 69 = .ok (.iaload, 1) := by decide +kernel
theorem d_X12_findShares_70 : decode cX12_findShares 70 = .ok (.if_icmp .ge 52, 3) := by decide +kernel
theorem d_X12_findShares_122 : decode cX12_findShares 122 = .ok (.return_, 1) := by decide +kernel
def s_M_findShares_4 : List am_Q := [(73, .aload_n 0, 0, 0, 0, .null), (74, .iload_n 2, 0, 0, 0, .null), (75, .iload_n 1, 0, 0, 0, .null)]
theorem t_s_M_findShares_4 : s_M_findShares_4.all (am_ok 12 cX12_findShares) = true := by decide +kernel
theorem d_X12_findShares_76 : decode cX12_findShares 76 = .ok (.invokevirtual 206, 3) := by decide +kernel
def s_M_findShares_5 : List am_Q := [(79, .aload_n 0, 0, 0, 0, .null), (80, .getfield 22, 12, 17, 169, .null), (83, .iload_n 2, 0, 0, 0, .null), (84, .aload_n 0, 0, 0, 0, .null), (85, .getfield 189, 12, 15, 167, .null), (88, .i2l, 0, 0, 0, .null), (89, .aload_n 0, 0, 0, 0, .null), (90, .getfield 210, 12, 18, 170, .null), (93, .aload_n 0, 0, 0, 0, .null), (94, .getfield 192, 12, 16, 168, .null), (97, .i2l, 0, 0, 0, .null)]
theorem t_s_M_findShares_5 : s_M_findShares_5.all (am_ok 12 cX12_findShares) = true := by decide +kernel
theorem d_X12_findShares_98 : decode cX12_findShares 98 = .ok (.ldiv, 1) := by decide +kernel
def s_M_findShares_6 : List am_Q := [(99, .lmul, 0, 0, 0, .null)]
theorem t_s_M_findShares_6 : s_M_findShares_6.all (am_ok 12 cX12_findShares) = true := by decide +kernel
theorem d_X12_findShares_100 : decode cX12_findShares 100 = .ok (.lastore, 1) := by decide +kernel
def s_M_findShares_7 : List am_Q := [(101, .aload_n 0, 0, 0, 0, .null), (102, .dup, 0, 0, 0, .null), (103, .getfield 214, 12, 19, 171, .null), (106, .aload_n 0, 0, 0, 0, .null), (107, .getfield 22, 12, 17, 169, .null), (110, .iload_n 2, 0, 0, 0, .null)]
theorem t_s_M_findShares_7 : s_M_findShares_7.all (am_ok 12 cX12_findShares) = true := by decide +kernel
theorem d_X12_findShares_111 : decode cX12_findShares 111 = .ok (.laload, 1) := by decide +kernel
def s_M_findShares_8 : List am_Q := [(112, .ladd, 0, 0, 0, .null), (113, .putfield 214, 12, 19, 171, .null), (116, .iinc 2 1, 0, 0, 0, .int (nI 1)), (119, .goto (-56), 63, 0, 0, .null)]
theorem t_s_M_findShares_8 : s_M_findShares_8.all (am_ok 12 cX12_findShares) = true := by decide +kernel
def s_M_findShares_9 : List am_Q := [(17, .aload_n 0, 0, 0, 0, .null), (18, .iload_n 2, 0, 0, 0, .null), (19, .iload_n 1, 0, 0, 0, .null)]
theorem t_s_M_findShares_9 : s_M_findShares_9.all (am_ok 12 cX12_findShares) = true := by decide +kernel
theorem d_X12_findShares_20 : decode cX12_findShares 20 = .ok (.invokevirtual 206, 3) := by decide +kernel
def s_M_findShares_10 : List am_Q := [(23, .aload_n 0, 0, 0, 0, .null), (24, .aload_n 0, 0, 0, 0, .null), (25, .getfield 210, 12, 18, 170, .null), (28, .aload_n 0, 0, 0, 0, .null), (29, .getfield 210, 12, 18, 170, .null), (32, .aload_n 0, 0, 0, 0, .null), (33, .getfield 192, 12, 16, 168, .null), (36, .i2l, 0, 0, 0, .null)]
theorem t_s_M_findShares_10 : s_M_findShares_10.all (am_ok 12 cX12_findShares) = true := by decide +kernel
theorem d_X12_findShares_37 : decode cX12_findShares 37 = .ok (.invokestatic 199, 3) := by decide +kernel
theorem d_X12_findShares_40 : decode cX12_findShares 40 = .ok (.ldiv, 1) := by decide +kernel
def s_M_findShares_11 : List am_Q := [(41, .aload_n 0, 0, 0, 0, .null), (42, .getfield 192, 12, 16, 168, .null), (45, .i2l, 0, 0, 0, .null), (46, .lmul, 0, 0, 0, .null), (47, .putfield 210, 12, 18, 170, .null), (50, .iinc 2 1, 0, 0, 0, .int (nI 1)), (53, .goto (-46), 7, 0, 0, .null)]
theorem t_s_M_findShares_11 : s_M_findShares_11.all (am_ok 12 cX12_findShares) = true := by decide +kernel
def M_findShares_63 : Nat → am_T → Int32 → Int32 → Option (am_T)
  | 0, _, _, _ => none
  | n + 1, τ, a1, a2 =>
    if (τ.1 141 1) ≤ a2 then
  (some τ)
else
  ((M_findShare τ a2 a1).bind (fun x1 =>
  if (Int32.toInt64 (x1.1 140 16)) = 0 then none else
  am_g (am_in a2 8) (am_g (am_in a2 8) ((M_findShares_63 n) (am_sl (am_sl x1 145 (a2.toNatClampNeg) ((Int32.toInt64 (x1.1 140 15)) * ((x1.2 140 18) / (Int32.toInt64 (x1.1 140 16))))) 140 19 (((am_sl x1 145 (a2.toNatClampNeg) ((Int32.toInt64 (x1.1 140 15)) * ((x1.2 140 18) / (Int32.toInt64 (x1.1 140 16))))).2 140 19) + ((am_sl x1 145 (a2.toNatClampNeg) ((Int32.toInt64 (x1.1 140 15)) * ((x1.2 140 18) / (Int32.toInt64 (x1.1 140 16))))).2 145 (a2.toNatClampNeg)))) a1 (a2 + (nI 1))))))
set_option maxRecDepth 20000 in
theorem ok_M_findShares_63 {X : am_X} {τ' : am_T} (hF : am_F X "ShareHouseModel" cX12_findShares 3) (hR : am_R X 3 69) (hB : am_B X none none (am_D τ')) : ∀ (n : Nat) (τ : am_T) (a1 : Int32) (a2 : Int32), M_findShares_63 n τ a1 a2 = some τ' → am_W X 3 (63, [(0, .ref 140), (1, .int a1), (2, .int a2)], [], am_D τ) := by
  intro n
  induction n with
  | zero => intro τ a1 a2 h; unfold M_findShares_63 at h; cases h
  | succ n ih =>
    intro τ a1 a2 h
    unfold M_findShares_63 at h
    refine am_seg s_M_findShares_3 (y := (69, [(0, .ref 140), (1, .int a1), (2, .int a2)], [.int (nI 1), .ref 141, .int a2], am_D τ)) hF t_s_M_findShares_3 rfl rfl ?_
    refine am_iald (n := 1060) (j := 1) d_X12_findShares_69 (Nat.le_of_ble_eq_true rfl) (Nat.le_of_ble_eq_true rfl) rfl (by decide) rfl hF ?_
    refine am_ite h (fun hc h => ?_) (fun hc h => ?_)
    · refine am_icmp_ge_t (t := 122) d_X12_findShares_70 (by decide) hc hF ?_
      obtain rfl := am_one h
      exact am_vret d_X12_findShares_122 hF hB
    · refine am_icmp_ge_f (t := 122) d_X12_findShares_70 (by decide) hc hF ?_
      refine am_seg s_M_findShares_4 (y := (76, [(0, .ref 140), (1, .int a1), (2, .int a2)], [.int a1, .int a2, .ref 140], am_D τ)) hF t_s_M_findShares_4 rfl rfl ?_
      refine am_bd h (fun x1 hx h => ?_)
      refine am_callV (As := [.int a2, .int a1]) (r := none) (st := []) (σ' := am_D x1) (ci := 12) hF hR d_X12_findShares_76 (c_M_findShare (τ' := x1) hx) (Nat.le_refl _) (Nat.le_refl _) wl_M_206 wi_yX12_findShare we_yX12_findShare wn_ShareHouseModel wc_yX12_findShare (Nat.le_of_ble_eq_true rfl) (Nat.le_of_ble_eq_true rfl) rfl rfl wy_yX12_findShare rfl ⟨by decide, by decide⟩ (Nat.le_of_ble_eq_true rfl) ?_
      refine am_seg s_M_findShares_5 (y := (98, [(0, .ref 140), (1, .int a1), (2, .int a2)], [.long (Int32.toInt64 (x1.1 140 16)), .long (x1.2 140 18), .long (Int32.toInt64 (x1.1 140 15)), .int a2, .ref 145], am_D x1)) hF t_s_M_findShares_5 rfl rfl ?_
      refine am_ite h (fun _ h => by cases h) (fun hc h => ?_)
      refine am_ldiv d_X12_findShares_98 hc hF ?_
      refine am_seg s_M_findShares_6 (y := (100, [(0, .ref 140), (1, .int a1), (2, .int a2)], [.long ((Int32.toInt64 (x1.1 140 15)) * ((x1.2 140 18) / (Int32.toInt64 (x1.1 140 16)))), .int a2, .ref 145], am_D x1)) hF t_s_M_findShares_6 rfl rfl ?_
      refine am_gd h (fun hi h => ?_)
      refine am_last (n := 8) (j := (a2.toNatClampNeg)) d_X12_findShares_100 (Nat.le_of_ble_eq_true rfl) (Nat.le_of_ble_eq_true rfl) rfl hi rfl hF ?_
      refine am_seg s_M_findShares_7 (y := (111, [(0, .ref 140), (1, .int a1), (2, .int a2)], [.int a2, .ref 145, .long ((am_sl x1 145 (a2.toNatClampNeg) ((Int32.toInt64 (x1.1 140 15)) * ((x1.2 140 18) / (Int32.toInt64 (x1.1 140 16))))).2 140 19), .ref 140], am_D (am_sl x1 145 (a2.toNatClampNeg) ((Int32.toInt64 (x1.1 140 15)) * ((x1.2 140 18) / (Int32.toInt64 (x1.1 140 16))))))) hF t_s_M_findShares_7 rfl rfl ?_
      refine am_gd h (fun hi h => ?_)
      refine am_lald (n := 8) (j := (a2.toNatClampNeg)) d_X12_findShares_111 (Nat.le_of_ble_eq_true rfl) (Nat.le_of_ble_eq_true rfl) rfl hi rfl hF ?_
      refine am_seg s_M_findShares_8 (y := (63, [(2, .int (a2 + (nI 1))), (0, .ref 140), (1, .int a1)], [], am_D (am_sl (am_sl x1 145 (a2.toNatClampNeg) ((Int32.toInt64 (x1.1 140 15)) * ((x1.2 140 18) / (Int32.toInt64 (x1.1 140 16))))) 140 19 (((am_sl x1 145 (a2.toNatClampNeg) ((Int32.toInt64 (x1.1 140 15)) * ((x1.2 140 18) / (Int32.toInt64 (x1.1 140 16))))).2 140 19) + ((am_sl x1 145 (a2.toNatClampNeg) ((Int32.toInt64 (x1.1 140 15)) * ((x1.2 140 18) / (Int32.toInt64 (x1.1 140 16))))).2 145 (a2.toNatClampNeg)))))) hF t_s_M_findShares_8 rfl rfl ?_
      refine am_pick [1, 2, 0] rfl ?_
      exact ih _ _ _ h
def M_findShares_7 : Nat → am_T → Int32 → Int32 → Option (am_T)
  | 0, _, _, _ => none
  | n + 1, τ, a1, a2 =>
    if (τ.1 141 1) ≤ a2 then
  (M_findShares_63 5000 (am_sl τ 140 19 (lN 0)) a1 (nI 0))
else
  ((M_findShare τ a2 a1).bind (fun x2 =>
  (M_common x2 (x2.2 140 18) (Int32.toInt64 (x2.1 140 16))).bind (fun x3 =>
  if x3.1 = 0 then none else
  (M_findShares_7 n) (am_sl x3.2 140 18 (((x2.2 140 18) / x3.1) * (Int32.toInt64 (x3.2.1 140 16)))) a1 (a2 + (nI 1)))))
set_option maxRecDepth 20000 in
theorem ok_M_findShares_7 {X : am_X} {τ' : am_T} (hF : am_F X "ShareHouseModel" cX12_findShares 3) (hR : am_R X 3 69) (hB : am_B X none none (am_D τ')) : ∀ (n : Nat) (τ : am_T) (a1 : Int32) (a2 : Int32), M_findShares_7 n τ a1 a2 = some τ' → am_W X 3 (7, [(0, .ref 140), (1, .int a1), (2, .int a2)], [], am_D τ) := by
  intro n
  induction n with
  | zero => intro τ a1 a2 h; unfold M_findShares_7 at h; cases h
  | succ n ih =>
    intro τ a1 a2 h
    unfold M_findShares_7 at h
    refine am_seg s_M_findShares_1 (y := (13, [(0, .ref 140), (1, .int a1), (2, .int a2)], [.int (nI 1), .ref 141, .int a2], am_D τ)) hF t_s_M_findShares_1 rfl rfl ?_
    refine am_iald (n := 1060) (j := 1) d_X12_findShares_13 (Nat.le_of_ble_eq_true rfl) (Nat.le_of_ble_eq_true rfl) rfl (by decide) rfl hF ?_
    refine am_ite h (fun hc h => ?_) (fun hc h => ?_)
    · refine am_icmp_ge_t (t := 56) d_X12_findShares_14 (by decide) hc hF ?_
      refine am_seg s_M_findShares_2 (y := (63, [(2, .int (nI 0)), (0, .ref 140), (1, .int a1)], [], am_D (am_sl τ 140 19 (lN 0)))) hF t_s_M_findShares_2 rfl rfl ?_
      refine am_pick [1, 2, 0] rfl ?_
      exact ok_M_findShares_63 hF hR hB _ _ _ _ h
    · refine am_icmp_ge_f (t := 56) d_X12_findShares_14 (by decide) hc hF ?_
      refine am_seg s_M_findShares_9 (y := (20, [(0, .ref 140), (1, .int a1), (2, .int a2)], [.int a1, .int a2, .ref 140], am_D τ)) hF t_s_M_findShares_9 rfl rfl ?_
      refine am_bd h (fun x2 hx h => ?_)
      refine am_callV (As := [.int a2, .int a1]) (r := none) (st := []) (σ' := am_D x2) (ci := 12) hF hR d_X12_findShares_20 (c_M_findShare (τ' := x2) hx) (Nat.le_refl _) (Nat.le_refl _) wl_M_206 wi_yX12_findShare we_yX12_findShare wn_ShareHouseModel wc_yX12_findShare (Nat.le_of_ble_eq_true rfl) (Nat.le_of_ble_eq_true rfl) rfl rfl wy_yX12_findShare rfl ⟨by decide, by decide⟩ (Nat.le_of_ble_eq_true rfl) ?_
      refine am_seg s_M_findShares_10 (y := (37, [(0, .ref 140), (1, .int a1), (2, .int a2)], [.long (Int32.toInt64 (x2.1 140 16)), .long (x2.2 140 18), .long (x2.2 140 18), .ref 140], am_D x2)) hF t_s_M_findShares_10 rfl rfl ?_
      refine am_bd h (fun x3 hx h => ?_)
      refine am_callS (As := [.long (x2.2 140 18), .long (Int32.toInt64 (x2.1 140 16))]) (r := (some (.long x3.1))) (st := [.long (x2.2 140 18), .ref 140]) (σ' := am_D x3.2) hF hR d_X12_findShares_37 (c_M_common (τ' := x3.2) hx) (Nat.le_refl _) (Nat.le_refl _) wl_M_199 ws_yX12_common wn_ShareHouseModel wc_yX12_common wy_yX12_common rfl ⟨by decide, by decide⟩ (Nat.le_of_ble_eq_true rfl) ?_
      refine am_ite h (fun _ h => by cases h) (fun hc h => ?_)
      refine am_ldiv d_X12_findShares_40 hc hF ?_
      refine am_seg s_M_findShares_11 (y := (7, [(2, .int (a2 + (nI 1))), (0, .ref 140), (1, .int a1)], [], am_D (am_sl x3.2 140 18 (((x2.2 140 18) / x3.1) * (Int32.toInt64 (x3.2.1 140 16)))))) hF t_s_M_findShares_11 rfl rfl ?_
      refine am_pick [1, 2, 0] rfl ?_
      exact ih _ _ _ h
def M_findShares (τ : am_T) (a1 : Int32) : Option (am_T) :=
  M_findShares_7 5000 (am_sl τ 140 18 (lN 1)) a1 (nI 0)
set_option maxRecDepth 20000 in
theorem ok_M_findShares {X : am_X} {a1 : Int32} {τ τ' : am_T} (hF : am_F X "ShareHouseModel" cX12_findShares 3) (hR : am_R X 3 69) (hB : am_B X none none (am_D τ')) (h : M_findShares τ a1 = some τ') : am_W X 3 (0, [(0, .ref 140), (1, .int a1)], [], am_D τ) := by
  unfold M_findShares at h
  refine am_seg s_M_findShares_0 (y := (7, [(2, .int (nI 0)), (0, .ref 140), (1, .int a1)], [], am_D (am_sl τ 140 18 (lN 1)))) hF t_s_M_findShares_0 rfl rfl ?_
  refine am_pick [1, 2, 0] rfl ?_
  exact ok_M_findShares_7 hF hR hB _ _ _ _ h
theorem c_M_findShares {a1 : Int32} {τ τ' : am_T} (h : M_findShares τ a1 = some τ') : am_C yX12_findShares cX12_findShares 3 none 3 69 [.ref 140, .int a1] (am_D τ) none (am_D τ') :=
  am_enter (by decide +kernel) (Nat.le_of_ble_eq_true rfl) ⟨Nat.le_refl _, Nat.le_refl _⟩ (fun X hF hR hB => ok_M_findShares hF hR hB h)
def s_M_sum_0 : List am_Q := [(0, .iload_n 1, 0, 0, 0, .null)]
theorem t_s_M_sum_0 : s_M_sum_0.all (am_ok 12 cX12_sum) = true := by decide +kernel
theorem d_X12_sum_1 : decode cX12_sum 1 = .ok (.invokestatic 203, 3) := by decide +kernel
theorem d_X12_sum_4 : decode cX12_sum 4 = .ok (.ifCond .eq 12, 3) := by decide +kernel
def s_M_sum_1 : List am_Q := [(16, .ldc2_w 217, 0, 0, 29, .long (-1000000000 : Int64))]
theorem t_s_M_sum_1 : s_M_sum_1.all (am_ok 12 cX12_sum) = true := by decide +kernel
theorem d_X12_sum_19 : decode cX12_sum 19 = .ok (.lreturn, 1) := by decide +kernel
def s_M_sum_2 : List am_Q := [(7, .iload_n 2, 0, 0, 0, .null), (8, .iconst 0, 0, 0, 0, .int (nI 0)), (9, .iconst 1, 0, 0, 0, .int (nI 1))]
theorem t_s_M_sum_2 : s_M_sum_2.all (am_ok 12 cX12_sum) = true := by decide +kernel
theorem d_X12_sum_10 : decode cX12_sum 10 = .ok (.invokestatic 51, 3) := by decide +kernel
theorem d_X12_sum_13 : decode cX12_sum 13 = .ok (.ifCond .ne 7, 3) := by decide +kernel
def s_M_sum_3 : List am_Q := [(20, .aload_n 0, 0, 0, 0, .null), (21, .iload_n 1, 0, 0, 0, .null)]
theorem t_s_M_sum_3 : s_M_sum_3.all (am_ok 12 cX12_sum) = true := by decide +kernel
theorem d_X12_sum_22 : decode cX12_sum 22 = .ok (.invokevirtual 219, 3) := by decide +kernel
def s_M_sum_4 : List am_Q := [(25, .aload_n 0, 0, 0, 0, .null), (26, .getfield 214, 12, 19, 171, .null), (29, .aload_n 0, 0, 0, 0, .null), (30, .getfield 210, 12, 18, 170, .null)]
theorem t_s_M_sum_4 : s_M_sum_4.all (am_ok 12 cX12_sum) = true := by decide +kernel
theorem d_X12_sum_33 : decode cX12_sum 33 = .ok (.invokestatic 199, 3) := by decide +kernel
def s_M_sum_5 : List am_Q := [(36, .lstore_n 3, 0, 0, 0, .null), (37, .iload_n 2, 0, 0, 0, .null)]
theorem t_s_M_sum_5 : s_M_sum_5.all (am_ok 12 cX12_sum) = true := by decide +kernel
theorem d_X12_sum_38 : decode cX12_sum 38 = .ok (.ifCond .ne 12, 3) := by decide +kernel
def s_M_sum_6 : List am_Q := [(50, .aload_n 0, 0, 0, 0, .null), (51, .getfield 210, 12, 18, 170, .null), (54, .lload_n 3, 0, 0, 0, .null)]
theorem t_s_M_sum_6 : s_M_sum_6.all (am_ok 12 cX12_sum) = true := by decide +kernel
theorem d_X12_sum_55 : decode cX12_sum 55 = .ok (.ldiv, 1) := by decide +kernel
theorem d_X12_sum_56 : decode cX12_sum 56 = .ok (.lreturn, 1) := by decide +kernel
def s_M_sum_7 : List am_Q := [(41, .aload_n 0, 0, 0, 0, .null), (42, .getfield 214, 12, 19, 171, .null), (45, .lload_n 3, 0, 0, 0, .null)]
theorem t_s_M_sum_7 : s_M_sum_7.all (am_ok 12 cX12_sum) = true := by decide +kernel
theorem d_X12_sum_46 : decode cX12_sum 46 = .ok (.ldiv, 1) := by decide +kernel
def s_M_sum_8 : List am_Q := [(47, .goto 9, 56, 0, 0, .null)]
theorem t_s_M_sum_8 : s_M_sum_8.all (am_ok 12 cX12_sum) = true := by decide +kernel
def s_M_sum_9 : List am_Q := [(16, .ldc2_w 217, 0, 0, 29, .long (-1000000000 : Int64))]
theorem t_s_M_sum_9 : s_M_sum_9.all (am_ok 12 cX12_sum) = true := by decide +kernel
def M_sum (τ : am_T) (a1 : Int32) (a2 : Int32) : Option (Int64 × am_T) :=
  (M_isHead τ a1).bind (fun x1 =>
  if x1.1 = 0 then
  (some ((-1000000000 : Int64), x1.2))
else
  ((M_in x1.2 a2 (nI 0) (nI 1)).bind (fun x2 =>
  if x2.1 = 0 then
  (some ((-1000000000 : Int64), x2.2))
else
  ((M_findShares x2.2 a1).bind (fun x3 =>
  (M_common x3 (x3.2 140 19) (x3.2 140 18)).bind (fun x4 =>
  if a2 = 0 then
  (if x4.1 = 0 then none else
  some (((x4.2.2 140 19) / x4.1), x4.2))
else
  (if x4.1 = 0 then none else
  some (((x4.2.2 140 18) / x4.1), x4.2))))))))
set_option maxRecDepth 20000 in
theorem ok_M_sum {X : am_X} {a1 : Int32} {a2 : Int32} {v : Int64} {τ τ' : am_T} (hF : am_F X "ShareHouseModel" cX12_sum 5) (hR : am_R X 4 91) (hB : am_B X (some .long) (some (.long v)) (am_D τ')) (h : M_sum τ a1 a2 = some (v, τ')) : am_W X 5 (0, [(0, .ref 140), (1, .int a1), (2, .int a2)], [], am_D τ) := by
  unfold M_sum at h
  refine am_seg s_M_sum_0 (y := (1, [(0, .ref 140), (1, .int a1), (2, .int a2)], [.int a1], am_D τ)) hF t_s_M_sum_0 rfl rfl ?_
  refine am_bd h (fun x1 hx h => ?_)
  refine am_callS (As := [.int a1]) (r := (some (.int x1.1))) (st := []) (σ' := am_D x1.2) hF hR d_X12_sum_1 (c_M_isHead (τ' := x1.2) hx) (Nat.le_refl _) (Nat.le_refl _) wl_M_203 ws_yX12_isHead wn_ShareHouseModel wc_yX12_isHead wy_yX12_isHead rfl ⟨by decide, by decide⟩ (Nat.le_of_ble_eq_true rfl) ?_
  refine am_ite h (fun hc h => ?_) (fun hc h => ?_)
  · refine am_if_eq_t (t := 16) d_X12_sum_4 (by decide) hc hF ?_
    refine am_seg s_M_sum_1 (y := (19, [(0, .ref 140), (1, .int a1), (2, .int a2)], [.long (-1000000000 : Int64)], am_D x1.2)) hF t_s_M_sum_1 rfl rfl ?_
    obtain ⟨rfl, rfl⟩ := am_pair h
    exact am_lret d_X12_sum_19 hF hB
  · refine am_if_eq_f (t := 16) d_X12_sum_4 (by decide) hc hF ?_
    refine am_seg s_M_sum_2 (y := (10, [(0, .ref 140), (1, .int a1), (2, .int a2)], [.int (nI 1), .int (nI 0), .int a2], am_D x1.2)) hF t_s_M_sum_2 rfl rfl ?_
    refine am_bd h (fun x2 hx h => ?_)
    refine am_callS (As := [.int a2, .int (nI 0), .int (nI 1)]) (r := (some (.int x2.1))) (st := []) (σ' := am_D x2.2) hF hR d_X12_sum_10 (c_M_in (τ' := x2.2) hx) (Nat.le_refl _) (Nat.le_refl _) wl_M_51 ws_yX12_in wn_ShareHouseModel wc_yX12_in wy_yX12_in rfl ⟨by decide, by decide⟩ (Nat.le_of_ble_eq_true rfl) ?_
    refine am_ite h (fun hc h => ?_) (fun hc h => ?_)
    · refine am_if_ne_f (t := 20) d_X12_sum_13 (by decide) hc hF ?_
      refine am_seg s_M_sum_9 (y := (19, [(0, .ref 140), (1, .int a1), (2, .int a2)], [.long (-1000000000 : Int64)], am_D x2.2)) hF t_s_M_sum_9 rfl rfl ?_
      obtain ⟨rfl, rfl⟩ := am_pair h
      exact am_lret d_X12_sum_19 hF hB
    · refine am_if_ne_t (t := 20) d_X12_sum_13 (by decide) hc hF ?_
      refine am_seg s_M_sum_3 (y := (22, [(0, .ref 140), (1, .int a1), (2, .int a2)], [.int a1, .ref 140], am_D x2.2)) hF t_s_M_sum_3 rfl rfl ?_
      refine am_bd h (fun x3 hx h => ?_)
      refine am_callV (As := [.int a1]) (r := none) (st := []) (σ' := am_D x3) (ci := 12) hF hR d_X12_sum_22 (c_M_findShares (τ' := x3) hx) (Nat.le_refl _) (Nat.le_refl _) wl_M_219 wi_yX12_findShares we_yX12_findShares wn_ShareHouseModel wc_yX12_findShares (Nat.le_of_ble_eq_true rfl) (Nat.le_of_ble_eq_true rfl) rfl rfl wy_yX12_findShares rfl ⟨by decide, by decide⟩ (Nat.le_of_ble_eq_true rfl) ?_
      refine am_seg s_M_sum_4 (y := (33, [(0, .ref 140), (1, .int a1), (2, .int a2)], [.long (x3.2 140 18), .long (x3.2 140 19)], am_D x3)) hF t_s_M_sum_4 rfl rfl ?_
      refine am_bd h (fun x4 hx h => ?_)
      refine am_callS (As := [.long (x3.2 140 19), .long (x3.2 140 18)]) (r := (some (.long x4.1))) (st := []) (σ' := am_D x4.2) hF hR d_X12_sum_33 (c_M_common (τ' := x4.2) hx) (Nat.le_refl _) (Nat.le_refl _) wl_M_199 ws_yX12_common wn_ShareHouseModel wc_yX12_common wy_yX12_common rfl ⟨by decide, by decide⟩ (Nat.le_of_ble_eq_true rfl) ?_
      refine am_seg s_M_sum_5 (y := (38, [(3, .long x4.1), (0, .ref 140), (1, .int a1), (2, .int a2)], [.int a2], am_D x4.2)) hF t_s_M_sum_5 rfl rfl ?_
      refine am_ite h (fun hc h => ?_) (fun hc h => ?_)
      · refine am_if_ne_f (t := 50) d_X12_sum_38 (by decide) hc hF ?_
        refine am_seg s_M_sum_7 (y := (46, [(3, .long x4.1), (0, .ref 140), (1, .int a1), (2, .int a2)], [.long x4.1, .long (x4.2.2 140 19)], am_D x4.2)) hF t_s_M_sum_7 rfl rfl ?_
        refine am_ite h (fun _ h => by cases h) (fun hc h => ?_)
        refine am_ldiv d_X12_sum_46 hc hF ?_
        refine am_seg s_M_sum_8 (y := (56, [(3, .long x4.1), (0, .ref 140), (1, .int a1), (2, .int a2)], [.long ((x4.2.2 140 19) / x4.1)], am_D x4.2)) hF t_s_M_sum_8 rfl rfl ?_
        obtain ⟨rfl, rfl⟩ := am_pair h
        exact am_lret d_X12_sum_56 hF hB
      · refine am_if_ne_t (t := 50) d_X12_sum_38 (by decide) hc hF ?_
        refine am_seg s_M_sum_6 (y := (55, [(3, .long x4.1), (0, .ref 140), (1, .int a1), (2, .int a2)], [.long x4.1, .long (x4.2.2 140 18)], am_D x4.2)) hF t_s_M_sum_6 rfl rfl ?_
        refine am_ite h (fun _ h => by cases h) (fun hc h => ?_)
        refine am_ldiv d_X12_sum_55 hc hF ?_
        obtain ⟨rfl, rfl⟩ := am_pair h
        exact am_lret d_X12_sum_56 hF hB
theorem c_M_sum {a1 : Int32} {a2 : Int32} {v : Int64} {τ τ' : am_T} (h : M_sum τ a1 a2 = some (v, τ')) : am_C yX12_sum cX12_sum 5 (some .long) 4 91 [.ref 140, .int a1, .int a2] (am_D τ) (some (.long v)) (am_D τ') :=
  am_enter (by decide +kernel) (Nat.le_of_ble_eq_true rfl) ⟨Nat.le_refl _, Nat.le_refl _⟩ (fun X hF hR hB => ok_M_sum hF hR hB h)
def s_M_law_0 : List am_Q := [(0, .iload_n 1, 0, 0, 0, .null)]
theorem t_s_M_law_0 : s_M_law_0.all (am_ok 12 cX12_law) = true := by decide +kernel
theorem d_X12_law_1 : decode cX12_law 1 = .ok (.invokestatic 203, 3) := by decide +kernel
theorem d_X12_law_4 : decode cX12_law 4 = .ok (.ifCond .eq 12, 3) := by decide +kernel
def s_M_law_1 : List am_Q := [(16, .iconst (-1), 0, 0, 0, .int (-1 : Int32))]
theorem t_s_M_law_1 : s_M_law_1.all (am_ok 12 cX12_law) = true := by decide +kernel
theorem d_X12_law_17 : decode cX12_law 17 = .ok (.ireturn, 1) := by decide +kernel
def s_M_law_2 : List am_Q := [(7, .iload_n 2, 0, 0, 0, .null), (8, .iconst 0, 0, 0, 0, .int (nI 0)), (9, .iconst 2, 0, 0, 0, .int (nI 2))]
theorem t_s_M_law_2 : s_M_law_2.all (am_ok 12 cX12_law) = true := by decide +kernel
theorem d_X12_law_10 : decode cX12_law 10 = .ok (.invokestatic 51, 3) := by decide +kernel
theorem d_X12_law_13 : decode cX12_law 13 = .ok (.ifCond .ne 5, 3) := by decide +kernel
def s_M_law_3 : List am_Q := [(18, .aload_n 0, 0, 0, 0, .null), (19, .getfield 7, 12, 0, 152, .null), (22, .bipush 16, 0, 0, 0, .int (nI 16)), (24, .iload_n 1, 0, 0, 0, .null), (25, .iadd, 0, 0, 0, .null)]
theorem t_s_M_law_3 : s_M_law_3.all (am_ok 12 cX12_law) = true := by decide +kernel
theorem d_X12_law_26 : decode cX12_law 26 = .ok (.iaload, 1) := by decide +kernel
def s_M_law_4 : List am_Q := [(27, .istore_n 3, 0, 0, 0, .null), (28, .aload_n 0, 0, 0, 0, .null), (29, .getfield 7, 12, 0, 152, .null), (32, .bipush 16, 0, 0, 0, .int (nI 16)), (34, .iload_n 1, 0, 0, 0, .null), (35, .iadd, 0, 0, 0, .null), (36, .iload_n 2, 0, 0, 0, .null)]
theorem t_s_M_law_4 : s_M_law_4.all (am_ok 12 cX12_law) = true := by decide +kernel
theorem d_X12_law_37 : decode cX12_law 37 = .ok (.iastore, 1) := by decide +kernel
def s_M_law_5 : List am_Q := [(38, .iload_n 3, 0, 0, 0, .null)]
theorem t_s_M_law_5 : s_M_law_5.all (am_ok 12 cX12_law) = true := by decide +kernel
theorem d_X12_law_39 : decode cX12_law 39 = .ok (.ireturn, 1) := by decide +kernel
def s_M_law_6 : List am_Q := [(16, .iconst (-1), 0, 0, 0, .int (-1 : Int32))]
theorem t_s_M_law_6 : s_M_law_6.all (am_ok 12 cX12_law) = true := by decide +kernel
def M_law (τ : am_T) (a1 : Int32) (a2 : Int32) : Option (Int32 × am_T) :=
  (M_isHead τ a1).bind (fun x1 =>
  if x1.1 = 0 then
  (some ((-1 : Int32), x1.2))
else
  ((M_in x1.2 a2 (nI 0) (nI 2)).bind (fun x2 =>
  if x2.1 = 0 then
  (some ((-1 : Int32), x2.2))
else
  (am_g (am_in ((nI 16) + a1) 1060) (am_g (am_in ((nI 16) + a1) 1060) (some ((x2.2.1 141 (((nI 16) + a1).toNatClampNeg)), (am_si x2.2 141 (((nI 16) + a1).toNatClampNeg) a2))))))))
set_option maxRecDepth 20000 in
theorem ok_M_law {X : am_X} {a1 : Int32} {a2 : Int32} {v : Int32} {τ τ' : am_T} (hF : am_F X "ShareHouseModel" cX12_law 4) (hR : am_R X 2 42) (hB : am_B X (some .int) (some (.int v)) (am_D τ')) (h : M_law τ a1 a2 = some (v, τ')) : am_W X 4 (0, [(0, .ref 140), (1, .int a1), (2, .int a2)], [], am_D τ) := by
  unfold M_law at h
  refine am_seg s_M_law_0 (y := (1, [(0, .ref 140), (1, .int a1), (2, .int a2)], [.int a1], am_D τ)) hF t_s_M_law_0 rfl rfl ?_
  refine am_bd h (fun x1 hx h => ?_)
  refine am_callS (As := [.int a1]) (r := (some (.int x1.1))) (st := []) (σ' := am_D x1.2) hF hR d_X12_law_1 (c_M_isHead (τ' := x1.2) hx) (Nat.le_refl _) (Nat.le_refl _) wl_M_203 ws_yX12_isHead wn_ShareHouseModel wc_yX12_isHead wy_yX12_isHead rfl ⟨by decide, by decide⟩ (Nat.le_of_ble_eq_true rfl) ?_
  refine am_ite h (fun hc h => ?_) (fun hc h => ?_)
  · refine am_if_eq_t (t := 16) d_X12_law_4 (by decide) hc hF ?_
    refine am_seg s_M_law_1 (y := (17, [(0, .ref 140), (1, .int a1), (2, .int a2)], [.int (-1 : Int32)], am_D x1.2)) hF t_s_M_law_1 rfl rfl ?_
    obtain ⟨rfl, rfl⟩ := am_pair h
    exact am_iret d_X12_law_17 hF hB
  · refine am_if_eq_f (t := 16) d_X12_law_4 (by decide) hc hF ?_
    refine am_seg s_M_law_2 (y := (10, [(0, .ref 140), (1, .int a1), (2, .int a2)], [.int (nI 2), .int (nI 0), .int a2], am_D x1.2)) hF t_s_M_law_2 rfl rfl ?_
    refine am_bd h (fun x2 hx h => ?_)
    refine am_callS (As := [.int a2, .int (nI 0), .int (nI 2)]) (r := (some (.int x2.1))) (st := []) (σ' := am_D x2.2) hF hR d_X12_law_10 (c_M_in (τ' := x2.2) hx) (Nat.le_refl _) (Nat.le_refl _) wl_M_51 ws_yX12_in wn_ShareHouseModel wc_yX12_in wy_yX12_in rfl ⟨by decide, by decide⟩ (Nat.le_of_ble_eq_true rfl) ?_
    refine am_ite h (fun hc h => ?_) (fun hc h => ?_)
    · refine am_if_ne_f (t := 18) d_X12_law_13 (by decide) hc hF ?_
      refine am_seg s_M_law_6 (y := (17, [(0, .ref 140), (1, .int a1), (2, .int a2)], [.int (-1 : Int32)], am_D x2.2)) hF t_s_M_law_6 rfl rfl ?_
      obtain ⟨rfl, rfl⟩ := am_pair h
      exact am_iret d_X12_law_17 hF hB
    · refine am_if_ne_t (t := 18) d_X12_law_13 (by decide) hc hF ?_
      refine am_seg s_M_law_3 (y := (26, [(0, .ref 140), (1, .int a1), (2, .int a2)], [.int ((nI 16) + a1), .ref 141], am_D x2.2)) hF t_s_M_law_3 rfl rfl ?_
      refine am_gd h (fun hi h => ?_)
      refine am_iald (n := 1060) (j := (((nI 16) + a1).toNatClampNeg)) d_X12_law_26 (Nat.le_of_ble_eq_true rfl) (Nat.le_of_ble_eq_true rfl) rfl hi rfl hF ?_
      refine am_seg s_M_law_4 (y := (37, [(3, .int (x2.2.1 141 (((nI 16) + a1).toNatClampNeg))), (0, .ref 140), (1, .int a1), (2, .int a2)], [.int a2, .int ((nI 16) + a1), .ref 141], am_D x2.2)) hF t_s_M_law_4 rfl rfl ?_
      refine am_gd h (fun hi h => ?_)
      refine am_iast (n := 1060) (j := (((nI 16) + a1).toNatClampNeg)) d_X12_law_37 (Nat.le_of_ble_eq_true rfl) (Nat.le_of_ble_eq_true rfl) rfl hi rfl hF ?_
      refine am_seg s_M_law_5 (y := (39, [(3, .int (x2.2.1 141 (((nI 16) + a1).toNatClampNeg))), (0, .ref 140), (1, .int a1), (2, .int a2)], [.int (x2.2.1 141 (((nI 16) + a1).toNatClampNeg))], am_D (am_si x2.2 141 (((nI 16) + a1).toNatClampNeg) a2))) hF t_s_M_law_5 rfl rfl ?_
      obtain ⟨rfl, rfl⟩ := am_pair h
      exact am_iret d_X12_law_39 hF hB
theorem c_M_law {a1 : Int32} {a2 : Int32} {v : Int32} {τ τ' : am_T} (h : M_law τ a1 a2 = some (v, τ')) : am_C yX12_law cX12_law 4 (some .int) 2 42 [.ref 140, .int a1, .int a2] (am_D τ) (some (.int v)) (am_D τ') :=
  am_enter (by decide +kernel) (Nat.le_of_ble_eq_true rfl) ⟨Nat.le_refl _, Nat.le_refl _⟩ (fun X hF hR hB => ok_M_law hF hR hB h)
def s_M_mostOf_0 : List am_Q := [(0, .iload_n 0, 0, 0, 0, .null)]
theorem t_s_M_mostOf_0 : s_M_mostOf_0.all (am_ok 12 cX12_mostOf) = true := by decide +kernel
theorem d_X12_mostOf_1 : decode cX12_mostOf 1 = .ok (.tableswitch 48 0 4 #[35, 48, 39, 42, 45], 35) := by decide +kernel
def s_M_mostOf_1 : List am_Q := [(49, .sipush 9999, 0, 0, 0, .int (nI 9999))]
theorem t_s_M_mostOf_1 : s_M_mostOf_1.all (am_ok 12 cX12_mostOf) = true := by decide +kernel
theorem d_X12_mostOf_52 : decode cX12_mostOf 52 = .ok (.ireturn, 1) := by decide +kernel
def s_M_mostOf_2 : List am_Q := [(36, .sipush 900, 0, 0, 0, .int (nI 900))]
theorem t_s_M_mostOf_2 : s_M_mostOf_2.all (am_ok 12 cX12_mostOf) = true := by decide +kernel
theorem d_X12_mostOf_39 : decode cX12_mostOf 39 = .ok (.ireturn, 1) := by decide +kernel
def s_M_mostOf_3 : List am_Q := [(49, .sipush 9999, 0, 0, 0, .int (nI 9999))]
theorem t_s_M_mostOf_3 : s_M_mostOf_3.all (am_ok 12 cX12_mostOf) = true := by decide +kernel
def s_M_mostOf_4 : List am_Q := [(40, .bipush 90, 0, 0, 0, .int (nI 90))]
theorem t_s_M_mostOf_4 : s_M_mostOf_4.all (am_ok 12 cX12_mostOf) = true := by decide +kernel
theorem d_X12_mostOf_42 : decode cX12_mostOf 42 = .ok (.ireturn, 1) := by decide +kernel
def s_M_mostOf_5 : List am_Q := [(43, .bipush 99, 0, 0, 0, .int (nI 99))]
theorem t_s_M_mostOf_5 : s_M_mostOf_5.all (am_ok 12 cX12_mostOf) = true := by decide +kernel
theorem d_X12_mostOf_45 : decode cX12_mostOf 45 = .ok (.ireturn, 1) := by decide +kernel
def s_M_mostOf_6 : List am_Q := [(46, .ldc 222, 0, 0, 30, .int (nI 99999))]
theorem t_s_M_mostOf_6 : s_M_mostOf_6.all (am_ok 12 cX12_mostOf) = true := by decide +kernel
theorem d_X12_mostOf_48 : decode cX12_mostOf 48 = .ok (.ireturn, 1) := by decide +kernel
def M_mostOf (τ : am_T) (a0 : Int32) : Option (Int32 × am_T) :=
  if (a0 : Int32).toInt < 0 ∨ 4 < (a0 : Int32).toInt then
  (some ((nI 9999), τ))
else
  (if a0 = nI 0 then
  (some ((nI 900), τ))
else
  (if a0 = nI 1 then
  (some ((nI 9999), τ))
else
  (if a0 = nI 2 then
  (some ((nI 90), τ))
else
  (if a0 = nI 3 then
  (some ((nI 99), τ))
else
  (if a0 = nI 4 then
  (some ((nI 99999), τ))
else
  (none))))))
set_option maxRecDepth 20000 in
theorem ok_M_mostOf {X : am_X} {a0 : Int32} {v : Int32} {τ τ' : am_T} (hF : am_F X "ShareHouseModel" cX12_mostOf 1) (hR : am_R X 0 0) (hB : am_B X (some .int) (some (.int v)) (am_D τ')) (h : M_mostOf τ a0 = some (v, τ')) : am_W X 1 (0, [(0, .int a0)], [], am_D τ) := by
  unfold M_mostOf at h
  refine am_seg s_M_mostOf_0 (y := (1, [(0, .int a0)], [.int a0], am_D τ)) hF t_s_M_mostOf_0 rfl rfl ?_
  refine am_ite h (fun hc h => ?_) (fun hc h => ?_)
  · refine am_tswOut (t := 49) d_X12_mostOf_1 hc (by decide) hF ?_
    refine am_seg s_M_mostOf_1 (y := (52, [(0, .int a0)], [.int (nI 9999)], am_D τ)) hF t_s_M_mostOf_1 rfl rfl ?_
    obtain ⟨rfl, rfl⟩ := am_pair h
    exact am_iret d_X12_mostOf_52 hF hB
  · refine am_ite h (fun hc h => ?_) (fun hc h => ?_)
    · refine am_tswIn (y := nI 0) (o := 35) (t := 36) d_X12_mostOf_1 hc (by decide) (by decide) rfl (by decide) hF ?_
      refine am_seg s_M_mostOf_2 (y := (39, [(0, .int a0)], [.int (nI 900)], am_D τ)) hF t_s_M_mostOf_2 rfl rfl ?_
      obtain ⟨rfl, rfl⟩ := am_pair h
      exact am_iret d_X12_mostOf_39 hF hB
    · refine am_ite h (fun hc h => ?_) (fun hc h => ?_)
      · refine am_tswIn (y := nI 1) (o := 48) (t := 49) d_X12_mostOf_1 hc (by decide) (by decide) rfl (by decide) hF ?_
        refine am_seg s_M_mostOf_3 (y := (52, [(0, .int a0)], [.int (nI 9999)], am_D τ)) hF t_s_M_mostOf_3 rfl rfl ?_
        obtain ⟨rfl, rfl⟩ := am_pair h
        exact am_iret d_X12_mostOf_52 hF hB
      · refine am_ite h (fun hc h => ?_) (fun hc h => ?_)
        · refine am_tswIn (y := nI 2) (o := 39) (t := 40) d_X12_mostOf_1 hc (by decide) (by decide) rfl (by decide) hF ?_
          refine am_seg s_M_mostOf_4 (y := (42, [(0, .int a0)], [.int (nI 90)], am_D τ)) hF t_s_M_mostOf_4 rfl rfl ?_
          obtain ⟨rfl, rfl⟩ := am_pair h
          exact am_iret d_X12_mostOf_42 hF hB
        · refine am_ite h (fun hc h => ?_) (fun hc h => ?_)
          · refine am_tswIn (y := nI 3) (o := 42) (t := 43) d_X12_mostOf_1 hc (by decide) (by decide) rfl (by decide) hF ?_
            refine am_seg s_M_mostOf_5 (y := (45, [(0, .int a0)], [.int (nI 99)], am_D τ)) hF t_s_M_mostOf_5 rfl rfl ?_
            obtain ⟨rfl, rfl⟩ := am_pair h
            exact am_iret d_X12_mostOf_45 hF hB
          · refine am_ite h (fun hc h => ?_) (fun hc h => ?_)
            · refine am_tswIn (y := nI 4) (o := 45) (t := 46) d_X12_mostOf_1 hc (by decide) (by decide) rfl (by decide) hF ?_
              refine am_seg s_M_mostOf_6 (y := (48, [(0, .int a0)], [.int (nI 99999)], am_D τ)) hF t_s_M_mostOf_6 rfl rfl ?_
              obtain ⟨rfl, rfl⟩ := am_pair h
              exact am_iret d_X12_mostOf_48 hF hB
            · cases h
theorem c_M_mostOf {a0 : Int32} {v : Int32} {τ τ' : am_T} (h : M_mostOf τ a0 = some (v, τ')) : am_C yX12_mostOf cX12_mostOf 1 (some .int) 0 0 [.int a0] (am_D τ) (some (.int v)) (am_D τ') :=
  am_enter (by decide +kernel) (Nat.le_of_ble_eq_true rfl) ⟨Nat.le_refl _, Nat.le_refl _⟩ (fun X hF hR hB => ok_M_mostOf hF hR hB h)
def s_M_rule_0 : List am_Q := [(0, .iload_n 1, 0, 0, 0, .null), (1, .iconst 0, 0, 0, 0, .int (nI 0)), (2, .iconst 5, 0, 0, 0, .int (nI 5))]
theorem t_s_M_rule_0 : s_M_rule_0.all (am_ok 12 cX12_rule) = true := by decide +kernel
theorem d_X12_rule_3 : decode cX12_rule 3 = .ok (.invokestatic 51, 3) := by decide +kernel
theorem d_X12_rule_6 : decode cX12_rule 6 = .ok (.ifCond .eq 15, 3) := by decide +kernel
def s_M_rule_1 : List am_Q := [(21, .iconst (-1), 0, 0, 0, .int (-1 : Int32))]
theorem t_s_M_rule_1 : s_M_rule_1.all (am_ok 12 cX12_rule) = true := by decide +kernel
theorem d_X12_rule_22 : decode cX12_rule 22 = .ok (.ireturn, 1) := by decide +kernel
def s_M_rule_2 : List am_Q := [(9, .iload_n 2, 0, 0, 0, .null), (10, .iconst 0, 0, 0, 0, .int (nI 0)), (11, .iload_n 1, 0, 0, 0, .null)]
theorem t_s_M_rule_2 : s_M_rule_2.all (am_ok 12 cX12_rule) = true := by decide +kernel
theorem d_X12_rule_12 : decode cX12_rule 12 = .ok (.invokestatic 223, 3) := by decide +kernel
theorem d_X12_rule_15 : decode cX12_rule 15 = .ok (.invokestatic 51, 3) := by decide +kernel
theorem d_X12_rule_18 : decode cX12_rule 18 = .ok (.ifCond .ne 5, 3) := by decide +kernel
def s_M_rule_3 : List am_Q := [(23, .aload_n 0, 0, 0, 0, .null), (24, .getfield 7, 12, 0, 152, .null), (27, .bipush 10, 0, 0, 0, .int (nI 10)), (29, .iload_n 1, 0, 0, 0, .null), (30, .iadd, 0, 0, 0, .null)]
theorem t_s_M_rule_3 : s_M_rule_3.all (am_ok 12 cX12_rule) = true := by decide +kernel
theorem d_X12_rule_31 : decode cX12_rule 31 = .ok (.iaload, 1) := by decide +kernel
def s_M_rule_4 : List am_Q := [(32, .istore_n 3, 0, 0, 0, .null), (33, .aload_n 0, 0, 0, 0, .null), (34, .getfield 7, 12, 0, 152, .null), (37, .bipush 10, 0, 0, 0, .int (nI 10)), (39, .iload_n 1, 0, 0, 0, .null), (40, .iadd, 0, 0, 0, .null), (41, .iload_n 2, 0, 0, 0, .null)]
theorem t_s_M_rule_4 : s_M_rule_4.all (am_ok 12 cX12_rule) = true := by decide +kernel
theorem d_X12_rule_42 : decode cX12_rule 42 = .ok (.iastore, 1) := by decide +kernel
def s_M_rule_5 : List am_Q := [(43, .iload_n 3, 0, 0, 0, .null)]
theorem t_s_M_rule_5 : s_M_rule_5.all (am_ok 12 cX12_rule) = true := by decide +kernel
theorem d_X12_rule_44 : decode cX12_rule 44 = .ok (.ireturn, 1) := by decide +kernel
def s_M_rule_6 : List am_Q := [(21, .iconst (-1), 0, 0, 0, .int (-1 : Int32))]
theorem t_s_M_rule_6 : s_M_rule_6.all (am_ok 12 cX12_rule) = true := by decide +kernel
def M_rule (τ : am_T) (a1 : Int32) (a2 : Int32) : Option (Int32 × am_T) :=
  (M_in τ a1 (nI 0) (nI 5)).bind (fun x1 =>
  if x1.1 = 0 then
  (some ((-1 : Int32), x1.2))
else
  ((M_mostOf x1.2 a1).bind (fun x2 =>
  (M_in x2.2 a2 (nI 0) x2.1).bind (fun x3 =>
  if x3.1 = 0 then
  (some ((-1 : Int32), x3.2))
else
  (am_g (am_in ((nI 10) + a1) 1060) (am_g (am_in ((nI 10) + a1) 1060) (some ((x3.2.1 141 (((nI 10) + a1).toNatClampNeg)), (am_si x3.2 141 (((nI 10) + a1).toNatClampNeg) a2)))))))))
set_option maxRecDepth 20000 in
theorem ok_M_rule {X : am_X} {a1 : Int32} {a2 : Int32} {v : Int32} {τ τ' : am_T} (hF : am_F X "ShareHouseModel" cX12_rule 4) (hR : am_R X 1 22) (hB : am_B X (some .int) (some (.int v)) (am_D τ')) (h : M_rule τ a1 a2 = some (v, τ')) : am_W X 4 (0, [(0, .ref 140), (1, .int a1), (2, .int a2)], [], am_D τ) := by
  unfold M_rule at h
  refine am_seg s_M_rule_0 (y := (3, [(0, .ref 140), (1, .int a1), (2, .int a2)], [.int (nI 5), .int (nI 0), .int a1], am_D τ)) hF t_s_M_rule_0 rfl rfl ?_
  refine am_bd h (fun x1 hx h => ?_)
  refine am_callS (As := [.int a1, .int (nI 0), .int (nI 5)]) (r := (some (.int x1.1))) (st := []) (σ' := am_D x1.2) hF hR d_X12_rule_3 (c_M_in (τ' := x1.2) hx) (Nat.le_refl _) (Nat.le_refl _) wl_M_51 ws_yX12_in wn_ShareHouseModel wc_yX12_in wy_yX12_in rfl ⟨by decide, by decide⟩ (Nat.le_of_ble_eq_true rfl) ?_
  refine am_ite h (fun hc h => ?_) (fun hc h => ?_)
  · refine am_if_eq_t (t := 21) d_X12_rule_6 (by decide) hc hF ?_
    refine am_seg s_M_rule_1 (y := (22, [(0, .ref 140), (1, .int a1), (2, .int a2)], [.int (-1 : Int32)], am_D x1.2)) hF t_s_M_rule_1 rfl rfl ?_
    obtain ⟨rfl, rfl⟩ := am_pair h
    exact am_iret d_X12_rule_22 hF hB
  · refine am_if_eq_f (t := 21) d_X12_rule_6 (by decide) hc hF ?_
    refine am_seg s_M_rule_2 (y := (12, [(0, .ref 140), (1, .int a1), (2, .int a2)], [.int a1, .int (nI 0), .int a2], am_D x1.2)) hF t_s_M_rule_2 rfl rfl ?_
    refine am_bd h (fun x2 hx h => ?_)
    refine am_callS (As := [.int a1]) (r := (some (.int x2.1))) (st := [.int (nI 0), .int a2]) (σ' := am_D x2.2) hF hR d_X12_rule_12 (c_M_mostOf (τ' := x2.2) hx) (Nat.le_refl _) (Nat.le_refl _) wl_M_223 ws_yX12_mostOf wn_ShareHouseModel wc_yX12_mostOf wy_yX12_mostOf rfl ⟨by decide, by decide⟩ (Nat.le_of_ble_eq_true rfl) ?_
    refine am_bd h (fun x3 hx h => ?_)
    refine am_callS (As := [.int a2, .int (nI 0), .int x2.1]) (r := (some (.int x3.1))) (st := []) (σ' := am_D x3.2) hF hR d_X12_rule_15 (c_M_in (τ' := x3.2) hx) (Nat.le_refl _) (Nat.le_refl _) wl_M_51 ws_yX12_in wn_ShareHouseModel wc_yX12_in wy_yX12_in rfl ⟨by decide, by decide⟩ (Nat.le_of_ble_eq_true rfl) ?_
    refine am_ite h (fun hc h => ?_) (fun hc h => ?_)
    · refine am_if_ne_f (t := 23) d_X12_rule_18 (by decide) hc hF ?_
      refine am_seg s_M_rule_6 (y := (22, [(0, .ref 140), (1, .int a1), (2, .int a2)], [.int (-1 : Int32)], am_D x3.2)) hF t_s_M_rule_6 rfl rfl ?_
      obtain ⟨rfl, rfl⟩ := am_pair h
      exact am_iret d_X12_rule_22 hF hB
    · refine am_if_ne_t (t := 23) d_X12_rule_18 (by decide) hc hF ?_
      refine am_seg s_M_rule_3 (y := (31, [(0, .ref 140), (1, .int a1), (2, .int a2)], [.int ((nI 10) + a1), .ref 141], am_D x3.2)) hF t_s_M_rule_3 rfl rfl ?_
      refine am_gd h (fun hi h => ?_)
      refine am_iald (n := 1060) (j := (((nI 10) + a1).toNatClampNeg)) d_X12_rule_31 (Nat.le_of_ble_eq_true rfl) (Nat.le_of_ble_eq_true rfl) rfl hi rfl hF ?_
      refine am_seg s_M_rule_4 (y := (42, [(3, .int (x3.2.1 141 (((nI 10) + a1).toNatClampNeg))), (0, .ref 140), (1, .int a1), (2, .int a2)], [.int a2, .int ((nI 10) + a1), .ref 141], am_D x3.2)) hF t_s_M_rule_4 rfl rfl ?_
      refine am_gd h (fun hi h => ?_)
      refine am_iast (n := 1060) (j := (((nI 10) + a1).toNatClampNeg)) d_X12_rule_42 (Nat.le_of_ble_eq_true rfl) (Nat.le_of_ble_eq_true rfl) rfl hi rfl hF ?_
      refine am_seg s_M_rule_5 (y := (44, [(3, .int (x3.2.1 141 (((nI 10) + a1).toNatClampNeg))), (0, .ref 140), (1, .int a1), (2, .int a2)], [.int (x3.2.1 141 (((nI 10) + a1).toNatClampNeg))], am_D (am_si x3.2 141 (((nI 10) + a1).toNatClampNeg) a2))) hF t_s_M_rule_5 rfl rfl ?_
      obtain ⟨rfl, rfl⟩ := am_pair h
      exact am_iret d_X12_rule_44 hF hB
theorem c_M_rule {a1 : Int32} {a2 : Int32} {v : Int32} {τ τ' : am_T} (h : M_rule τ a1 a2 = some (v, τ')) : am_C yX12_rule cX12_rule 4 (some .int) 1 22 [.ref 140, .int a1, .int a2] (am_D τ) (some (.int v)) (am_D τ') :=
  am_enter (by decide +kernel) (Nat.le_of_ble_eq_true rfl) ⟨Nat.le_refl _, Nat.le_refl _⟩ (fun X hF hR hB => ok_M_rule hF hR hB h)
def s_M_isKnownDay_0 : List am_Q := [(0, .iload_n 1, 0, 0, 0, .null), (1, .iconst 0, 0, 0, 0, .int (nI 0)), (2, .aload_n 0, 0, 0, 0, .null), (3, .getfield 7, 12, 0, 152, .null), (6, .iconst 0, 0, 0, 0, .int (nI 0))]
theorem t_s_M_isKnownDay_0 : s_M_isKnownDay_0.all (am_ok 12 cX12_isKnownDay) = true := by decide +kernel
theorem d_X12_isKnownDay_7 : decode cX12_isKnownDay 7 = .ok (.iaload, 1) := by decide +kernel
theorem d_X12_isKnownDay_8 : decode cX12_isKnownDay 8 = .ok (.invokestatic 51, 3) := by decide +kernel
theorem d_X12_isKnownDay_11 : decode cX12_isKnownDay 11 = .ok (.ireturn, 1) := by decide +kernel
def M_isKnownDay (τ : am_T) (a1 : Int32) : Option (Int32 × am_T) :=
  (M_in τ a1 (nI 0) (τ.1 141 0)).bind (fun x1 =>
  am_g (am_z01 x1.1) (some (x1.1, x1.2)))
set_option maxRecDepth 20000 in
theorem ok_M_isKnownDay {X : am_X} {a1 : Int32} {v : Int32} {τ τ' : am_T} (hF : am_F X "ShareHouseModel" cX12_isKnownDay 2) (hR : am_R X 1 22) (hB : am_B X (some .boolean) (some (.int v)) (am_D τ')) (h : M_isKnownDay τ a1 = some (v, τ')) : am_W X 2 (0, [(0, .ref 140), (1, .int a1)], [], am_D τ) := by
  unfold M_isKnownDay at h
  refine am_seg s_M_isKnownDay_0 (y := (7, [(0, .ref 140), (1, .int a1)], [.int (nI 0), .ref 141, .int (nI 0), .int a1], am_D τ)) hF t_s_M_isKnownDay_0 rfl rfl ?_
  refine am_iald (n := 1060) (j := 0) d_X12_isKnownDay_7 (Nat.le_of_ble_eq_true rfl) (Nat.le_of_ble_eq_true rfl) rfl (by decide) rfl hF ?_
  refine am_bd h (fun x1 hx h => ?_)
  refine am_callS (As := [.int a1, .int (nI 0), .int (τ.1 141 0)]) (r := (some (.int x1.1))) (st := []) (σ' := am_D x1.2) hF hR d_X12_isKnownDay_8 (c_M_in (τ' := x1.2) hx) (Nat.le_refl _) (Nat.le_refl _) wl_M_51 ws_yX12_in wn_ShareHouseModel wc_yX12_in wy_yX12_in rfl ⟨by decide, by decide⟩ (Nat.le_of_ble_eq_true rfl) ?_
  refine am_gd h (fun hz h => ?_)
  obtain ⟨rfl, rfl⟩ := am_pair h
  exact am_zret d_X12_isKnownDay_11 (am_z01_n hz) hF hB
theorem c_M_isKnownDay {a1 : Int32} {v : Int32} {τ τ' : am_T} (h : M_isKnownDay τ a1 = some (v, τ')) : am_C yX12_isKnownDay cX12_isKnownDay 2 (some .boolean) 1 22 [.ref 140, .int a1] (am_D τ) (some (.int v)) (am_D τ') :=
  am_enter (by decide +kernel) (Nat.le_of_ble_eq_true rfl) ⟨Nat.le_refl _, Nat.le_refl _⟩ (fun X hF hR hB => ok_M_isKnownDay hF hR hB h)
def s_M_addCost_0 : List am_Q := [(0, .sipush 630, 0, 0, 0, .int (nI 630)), (3, .iconst 5, 0, 0, 0, .int (nI 5)), (4, .aload_n 0, 0, 0, 0, .null), (5, .getfield 7, 12, 0, 152, .null), (8, .iconst 2, 0, 0, 0, .int (nI 2))]
theorem t_s_M_addCost_0 : s_M_addCost_0.all (am_ok 12 cX12_addCost) = true := by decide +kernel
theorem d_X12_addCost_9 : decode cX12_addCost 9 = .ok (.iaload, 1) := by decide +kernel
def s_M_addCost_1 : List am_Q := [(10, .imul, 0, 0, 0, .null), (11, .iadd, 0, 0, 0, .null), (12, .istore 5, 0, 0, 0, .null), (14, .aload_n 0, 0, 0, 0, .null), (15, .getfield 7, 12, 0, 152, .null), (18, .iload 5, 0, 0, 0, .null), (20, .iload_n 1, 0, 0, 0, .null)]
theorem t_s_M_addCost_1 : s_M_addCost_1.all (am_ok 12 cX12_addCost) = true := by decide +kernel
theorem d_X12_addCost_21 : decode cX12_addCost 21 = .ok (.iastore, 1) := by decide +kernel
def s_M_addCost_2 : List am_Q := [(22, .aload_n 0, 0, 0, 0, .null), (23, .getfield 7, 12, 0, 152, .null), (26, .iload 5, 0, 0, 0, .null), (28, .iconst 1, 0, 0, 0, .int (nI 1)), (29, .iadd, 0, 0, 0, .null), (30, .iload_n 2, 0, 0, 0, .null)]
theorem t_s_M_addCost_2 : s_M_addCost_2.all (am_ok 12 cX12_addCost) = true := by decide +kernel
theorem d_X12_addCost_31 : decode cX12_addCost 31 = .ok (.iastore, 1) := by decide +kernel
def s_M_addCost_3 : List am_Q := [(32, .aload_n 0, 0, 0, 0, .null), (33, .getfield 7, 12, 0, 152, .null), (36, .iload 5, 0, 0, 0, .null), (38, .iconst 2, 0, 0, 0, .int (nI 2)), (39, .iadd, 0, 0, 0, .null), (40, .iload_n 3, 0, 0, 0, .null)]
theorem t_s_M_addCost_3 : s_M_addCost_3.all (am_ok 12 cX12_addCost) = true := by decide +kernel
theorem d_X12_addCost_41 : decode cX12_addCost 41 = .ok (.iastore, 1) := by decide +kernel
def s_M_addCost_4 : List am_Q := [(42, .aload_n 0, 0, 0, 0, .null), (43, .getfield 7, 12, 0, 152, .null), (46, .iload 5, 0, 0, 0, .null), (48, .iconst 3, 0, 0, 0, .int (nI 3)), (49, .iadd, 0, 0, 0, .null), (50, .aload_n 0, 0, 0, 0, .null), (51, .getfield 7, 12, 0, 152, .null), (54, .iconst 0, 0, 0, 0, .int (nI 0))]
theorem t_s_M_addCost_4 : s_M_addCost_4.all (am_ok 12 cX12_addCost) = true := by decide +kernel
theorem d_X12_addCost_55 : decode cX12_addCost 55 = .ok (.iaload, 1) := by decide +kernel
theorem d_X12_addCost_56 : decode cX12_addCost 56 = .ok (.iastore, 1) := by decide +kernel
def s_M_addCost_5 : List am_Q := [(57, .aload_n 0, 0, 0, 0, .null), (58, .getfield 7, 12, 0, 152, .null), (61, .iload 5, 0, 0, 0, .null), (63, .iconst 4, 0, 0, 0, .int (nI 4)), (64, .iadd, 0, 0, 0, .null), (65, .iload 4, 0, 0, 0, .null)]
theorem t_s_M_addCost_5 : s_M_addCost_5.all (am_ok 12 cX12_addCost) = true := by decide +kernel
theorem d_X12_addCost_67 : decode cX12_addCost 67 = .ok (.iastore, 1) := by decide +kernel
def s_M_addCost_6 : List am_Q := [(68, .aload_n 0, 0, 0, 0, .null), (69, .getfield 7, 12, 0, 152, .null), (72, .iconst 2, 0, 0, 0, .int (nI 2)), (73, .dup2, 0, 0, 0, .null)]
theorem t_s_M_addCost_6 : s_M_addCost_6.all (am_ok 12 cX12_addCost) = true := by decide +kernel
theorem d_X12_addCost_74 : decode cX12_addCost 74 = .ok (.iaload, 1) := by decide +kernel
def s_M_addCost_7 : List am_Q := [(75, .iconst 1, 0, 0, 0, .int (nI 1)), (76, .iadd, 0, 0, 0, .null)]
theorem t_s_M_addCost_7 : s_M_addCost_7.all (am_ok 12 cX12_addCost) = true := by decide +kernel
theorem d_X12_addCost_77 : decode cX12_addCost 77 = .ok (.iastore, 1) := by decide +kernel
def s_M_addCost_8 : List am_Q := [(78, .aload_n 0, 0, 0, 0, .null), (79, .getfield 7, 12, 0, 152, .null), (82, .iconst 2, 0, 0, 0, .int (nI 2))]
theorem t_s_M_addCost_8 : s_M_addCost_8.all (am_ok 12 cX12_addCost) = true := by decide +kernel
theorem d_X12_addCost_83 : decode cX12_addCost 83 = .ok (.iaload, 1) := by decide +kernel
def s_M_addCost_9 : List am_Q := [(84, .iconst 1, 0, 0, 0, .int (nI 1)), (85, .isub, 0, 0, 0, .null)]
theorem t_s_M_addCost_9 : s_M_addCost_9.all (am_ok 12 cX12_addCost) = true := by decide +kernel
theorem d_X12_addCost_86 : decode cX12_addCost 86 = .ok (.ireturn, 1) := by decide +kernel
def M_addCost (τ : am_T) (a1 : Int32) (a2 : Int32) (a3 : Int32) (a4 : Int32) : Option (Int32 × am_T) :=
  am_g (am_in ((nI 630) + ((nI 5) * (τ.1 141 2))) 1060) (am_g (am_in (((nI 630) + ((nI 5) * (τ.1 141 2))) + (nI 1)) 1060) (am_g (am_in (((nI 630) + ((nI 5) * (τ.1 141 2))) + (nI 2)) 1060) (am_g (am_in (((nI 630) + ((nI 5) * (τ.1 141 2))) + (nI 3)) 1060) (am_g (am_in (((nI 630) + ((nI 5) * (τ.1 141 2))) + (nI 4)) 1060) (some ((((am_si (am_si (am_si (am_si (am_si (am_si τ 141 (((nI 630) + ((nI 5) * (τ.1 141 2))).toNatClampNeg) a1) 141 ((((nI 630) + ((nI 5) * (τ.1 141 2))) + (nI 1)).toNatClampNeg) a2) 141 ((((nI 630) + ((nI 5) * (τ.1 141 2))) + (nI 2)).toNatClampNeg) a3) 141 ((((nI 630) + ((nI 5) * (τ.1 141 2))) + (nI 3)).toNatClampNeg) ((am_si (am_si (am_si τ 141 (((nI 630) + ((nI 5) * (τ.1 141 2))).toNatClampNeg) a1) 141 ((((nI 630) + ((nI 5) * (τ.1 141 2))) + (nI 1)).toNatClampNeg) a2) 141 ((((nI 630) + ((nI 5) * (τ.1 141 2))) + (nI 2)).toNatClampNeg) a3).1 141 0)) 141 ((((nI 630) + ((nI 5) * (τ.1 141 2))) + (nI 4)).toNatClampNeg) a4) 141 2 (((am_si (am_si (am_si (am_si (am_si τ 141 (((nI 630) + ((nI 5) * (τ.1 141 2))).toNatClampNeg) a1) 141 ((((nI 630) + ((nI 5) * (τ.1 141 2))) + (nI 1)).toNatClampNeg) a2) 141 ((((nI 630) + ((nI 5) * (τ.1 141 2))) + (nI 2)).toNatClampNeg) a3) 141 ((((nI 630) + ((nI 5) * (τ.1 141 2))) + (nI 3)).toNatClampNeg) ((am_si (am_si (am_si τ 141 (((nI 630) + ((nI 5) * (τ.1 141 2))).toNatClampNeg) a1) 141 ((((nI 630) + ((nI 5) * (τ.1 141 2))) + (nI 1)).toNatClampNeg) a2) 141 ((((nI 630) + ((nI 5) * (τ.1 141 2))) + (nI 2)).toNatClampNeg) a3).1 141 0)) 141 ((((nI 630) + ((nI 5) * (τ.1 141 2))) + (nI 4)).toNatClampNeg) a4).1 141 2) + (nI 1))).1 141 2) - (nI 1)), (am_si (am_si (am_si (am_si (am_si (am_si τ 141 (((nI 630) + ((nI 5) * (τ.1 141 2))).toNatClampNeg) a1) 141 ((((nI 630) + ((nI 5) * (τ.1 141 2))) + (nI 1)).toNatClampNeg) a2) 141 ((((nI 630) + ((nI 5) * (τ.1 141 2))) + (nI 2)).toNatClampNeg) a3) 141 ((((nI 630) + ((nI 5) * (τ.1 141 2))) + (nI 3)).toNatClampNeg) ((am_si (am_si (am_si τ 141 (((nI 630) + ((nI 5) * (τ.1 141 2))).toNatClampNeg) a1) 141 ((((nI 630) + ((nI 5) * (τ.1 141 2))) + (nI 1)).toNatClampNeg) a2) 141 ((((nI 630) + ((nI 5) * (τ.1 141 2))) + (nI 2)).toNatClampNeg) a3).1 141 0)) 141 ((((nI 630) + ((nI 5) * (τ.1 141 2))) + (nI 4)).toNatClampNeg) a4) 141 2 (((am_si (am_si (am_si (am_si (am_si τ 141 (((nI 630) + ((nI 5) * (τ.1 141 2))).toNatClampNeg) a1) 141 ((((nI 630) + ((nI 5) * (τ.1 141 2))) + (nI 1)).toNatClampNeg) a2) 141 ((((nI 630) + ((nI 5) * (τ.1 141 2))) + (nI 2)).toNatClampNeg) a3) 141 ((((nI 630) + ((nI 5) * (τ.1 141 2))) + (nI 3)).toNatClampNeg) ((am_si (am_si (am_si τ 141 (((nI 630) + ((nI 5) * (τ.1 141 2))).toNatClampNeg) a1) 141 ((((nI 630) + ((nI 5) * (τ.1 141 2))) + (nI 1)).toNatClampNeg) a2) 141 ((((nI 630) + ((nI 5) * (τ.1 141 2))) + (nI 2)).toNatClampNeg) a3).1 141 0)) 141 ((((nI 630) + ((nI 5) * (τ.1 141 2))) + (nI 4)).toNatClampNeg) a4).1 141 2) + (nI 1)))))))))
set_option maxRecDepth 20000 in
theorem ok_M_addCost {X : am_X} {a1 : Int32} {a2 : Int32} {a3 : Int32} {a4 : Int32} {v : Int32} {τ τ' : am_T} (hF : am_F X "ShareHouseModel" cX12_addCost 6) (hR : am_R X 0 0) (hB : am_B X (some .int) (some (.int v)) (am_D τ')) (h : M_addCost τ a1 a2 a3 a4 = some (v, τ')) : am_W X 6 (0, [(0, .ref 140), (1, .int a1), (2, .int a2), (3, .int a3), (4, .int a4)], [], am_D τ) := by
  unfold M_addCost at h
  refine am_seg s_M_addCost_0 (y := (9, [(0, .ref 140), (1, .int a1), (2, .int a2), (3, .int a3), (4, .int a4)], [.int (nI 2), .ref 141, .int (nI 5), .int (nI 630)], am_D τ)) hF t_s_M_addCost_0 rfl rfl ?_
  refine am_iald (n := 1060) (j := 2) d_X12_addCost_9 (Nat.le_of_ble_eq_true rfl) (Nat.le_of_ble_eq_true rfl) rfl (by decide) rfl hF ?_
  refine am_seg s_M_addCost_1 (y := (21, [(5, .int ((nI 630) + ((nI 5) * (τ.1 141 2)))), (0, .ref 140), (1, .int a1), (2, .int a2), (3, .int a3), (4, .int a4)], [.int a1, .int ((nI 630) + ((nI 5) * (τ.1 141 2))), .ref 141], am_D τ)) hF t_s_M_addCost_1 rfl rfl ?_
  refine am_gd h (fun hi h => ?_)
  refine am_iast (n := 1060) (j := (((nI 630) + ((nI 5) * (τ.1 141 2))).toNatClampNeg)) d_X12_addCost_21 (Nat.le_of_ble_eq_true rfl) (Nat.le_of_ble_eq_true rfl) rfl hi rfl hF ?_
  refine am_seg s_M_addCost_2 (y := (31, [(5, .int ((nI 630) + ((nI 5) * (τ.1 141 2)))), (0, .ref 140), (1, .int a1), (2, .int a2), (3, .int a3), (4, .int a4)], [.int a2, .int (((nI 630) + ((nI 5) * (τ.1 141 2))) + (nI 1)), .ref 141], am_D (am_si τ 141 (((nI 630) + ((nI 5) * (τ.1 141 2))).toNatClampNeg) a1))) hF t_s_M_addCost_2 rfl rfl ?_
  refine am_gd h (fun hi h => ?_)
  refine am_iast (n := 1060) (j := ((((nI 630) + ((nI 5) * (τ.1 141 2))) + (nI 1)).toNatClampNeg)) d_X12_addCost_31 (Nat.le_of_ble_eq_true rfl) (Nat.le_of_ble_eq_true rfl) rfl hi rfl hF ?_
  refine am_seg s_M_addCost_3 (y := (41, [(5, .int ((nI 630) + ((nI 5) * (τ.1 141 2)))), (0, .ref 140), (1, .int a1), (2, .int a2), (3, .int a3), (4, .int a4)], [.int a3, .int (((nI 630) + ((nI 5) * (τ.1 141 2))) + (nI 2)), .ref 141], am_D (am_si (am_si τ 141 (((nI 630) + ((nI 5) * (τ.1 141 2))).toNatClampNeg) a1) 141 ((((nI 630) + ((nI 5) * (τ.1 141 2))) + (nI 1)).toNatClampNeg) a2))) hF t_s_M_addCost_3 rfl rfl ?_
  refine am_gd h (fun hi h => ?_)
  refine am_iast (n := 1060) (j := ((((nI 630) + ((nI 5) * (τ.1 141 2))) + (nI 2)).toNatClampNeg)) d_X12_addCost_41 (Nat.le_of_ble_eq_true rfl) (Nat.le_of_ble_eq_true rfl) rfl hi rfl hF ?_
  refine am_seg s_M_addCost_4 (y := (55, [(5, .int ((nI 630) + ((nI 5) * (τ.1 141 2)))), (0, .ref 140), (1, .int a1), (2, .int a2), (3, .int a3), (4, .int a4)], [.int (nI 0), .ref 141, .int (((nI 630) + ((nI 5) * (τ.1 141 2))) + (nI 3)), .ref 141], am_D (am_si (am_si (am_si τ 141 (((nI 630) + ((nI 5) * (τ.1 141 2))).toNatClampNeg) a1) 141 ((((nI 630) + ((nI 5) * (τ.1 141 2))) + (nI 1)).toNatClampNeg) a2) 141 ((((nI 630) + ((nI 5) * (τ.1 141 2))) + (nI 2)).toNatClampNeg) a3))) hF t_s_M_addCost_4 rfl rfl ?_
  refine am_iald (n := 1060) (j := 0) d_X12_addCost_55 (Nat.le_of_ble_eq_true rfl) (Nat.le_of_ble_eq_true rfl) rfl (by decide) rfl hF ?_
  refine am_gd h (fun hi h => ?_)
  refine am_iast (n := 1060) (j := ((((nI 630) + ((nI 5) * (τ.1 141 2))) + (nI 3)).toNatClampNeg)) d_X12_addCost_56 (Nat.le_of_ble_eq_true rfl) (Nat.le_of_ble_eq_true rfl) rfl hi rfl hF ?_
  refine am_seg s_M_addCost_5 (y := (67, [(5, .int ((nI 630) + ((nI 5) * (τ.1 141 2)))), (0, .ref 140), (1, .int a1), (2, .int a2), (3, .int a3), (4, .int a4)], [.int a4, .int (((nI 630) + ((nI 5) * (τ.1 141 2))) + (nI 4)), .ref 141], am_D (am_si (am_si (am_si (am_si τ 141 (((nI 630) + ((nI 5) * (τ.1 141 2))).toNatClampNeg) a1) 141 ((((nI 630) + ((nI 5) * (τ.1 141 2))) + (nI 1)).toNatClampNeg) a2) 141 ((((nI 630) + ((nI 5) * (τ.1 141 2))) + (nI 2)).toNatClampNeg) a3) 141 ((((nI 630) + ((nI 5) * (τ.1 141 2))) + (nI 3)).toNatClampNeg) ((am_si (am_si (am_si τ 141 (((nI 630) + ((nI 5) * (τ.1 141 2))).toNatClampNeg) a1) 141 ((((nI 630) + ((nI 5) * (τ.1 141 2))) + (nI 1)).toNatClampNeg) a2) 141 ((((nI 630) + ((nI 5) * (τ.1 141 2))) + (nI 2)).toNatClampNeg) a3).1 141 0)))) hF t_s_M_addCost_5 rfl rfl ?_
  refine am_gd h (fun hi h => ?_)
  refine am_iast (n := 1060) (j := ((((nI 630) + ((nI 5) * (τ.1 141 2))) + (nI 4)).toNatClampNeg)) d_X12_addCost_67 (Nat.le_of_ble_eq_true rfl) (Nat.le_of_ble_eq_true rfl) rfl hi rfl hF ?_
  refine am_seg s_M_addCost_6 (y := (74, [(5, .int ((nI 630) + ((nI 5) * (τ.1 141 2)))), (0, .ref 140), (1, .int a1), (2, .int a2), (3, .int a3), (4, .int a4)], [.int (nI 2), .ref 141, .int (nI 2), .ref 141], am_D (am_si (am_si (am_si (am_si (am_si τ 141 (((nI 630) + ((nI 5) * (τ.1 141 2))).toNatClampNeg) a1) 141 ((((nI 630) + ((nI 5) * (τ.1 141 2))) + (nI 1)).toNatClampNeg) a2) 141 ((((nI 630) + ((nI 5) * (τ.1 141 2))) + (nI 2)).toNatClampNeg) a3) 141 ((((nI 630) + ((nI 5) * (τ.1 141 2))) + (nI 3)).toNatClampNeg) ((am_si (am_si (am_si τ 141 (((nI 630) + ((nI 5) * (τ.1 141 2))).toNatClampNeg) a1) 141 ((((nI 630) + ((nI 5) * (τ.1 141 2))) + (nI 1)).toNatClampNeg) a2) 141 ((((nI 630) + ((nI 5) * (τ.1 141 2))) + (nI 2)).toNatClampNeg) a3).1 141 0)) 141 ((((nI 630) + ((nI 5) * (τ.1 141 2))) + (nI 4)).toNatClampNeg) a4))) hF t_s_M_addCost_6 rfl rfl ?_
  refine am_iald (n := 1060) (j := 2) d_X12_addCost_74 (Nat.le_of_ble_eq_true rfl) (Nat.le_of_ble_eq_true rfl) rfl (by decide) rfl hF ?_
  refine am_seg s_M_addCost_7 (y := (77, [(5, .int ((nI 630) + ((nI 5) * (τ.1 141 2)))), (0, .ref 140), (1, .int a1), (2, .int a2), (3, .int a3), (4, .int a4)], [.int (((am_si (am_si (am_si (am_si (am_si τ 141 (((nI 630) + ((nI 5) * (τ.1 141 2))).toNatClampNeg) a1) 141 ((((nI 630) + ((nI 5) * (τ.1 141 2))) + (nI 1)).toNatClampNeg) a2) 141 ((((nI 630) + ((nI 5) * (τ.1 141 2))) + (nI 2)).toNatClampNeg) a3) 141 ((((nI 630) + ((nI 5) * (τ.1 141 2))) + (nI 3)).toNatClampNeg) ((am_si (am_si (am_si τ 141 (((nI 630) + ((nI 5) * (τ.1 141 2))).toNatClampNeg) a1) 141 ((((nI 630) + ((nI 5) * (τ.1 141 2))) + (nI 1)).toNatClampNeg) a2) 141 ((((nI 630) + ((nI 5) * (τ.1 141 2))) + (nI 2)).toNatClampNeg) a3).1 141 0)) 141 ((((nI 630) + ((nI 5) * (τ.1 141 2))) + (nI 4)).toNatClampNeg) a4).1 141 2) + (nI 1)), .int (nI 2), .ref 141], am_D (am_si (am_si (am_si (am_si (am_si τ 141 (((nI 630) + ((nI 5) * (τ.1 141 2))).toNatClampNeg) a1) 141 ((((nI 630) + ((nI 5) * (τ.1 141 2))) + (nI 1)).toNatClampNeg) a2) 141 ((((nI 630) + ((nI 5) * (τ.1 141 2))) + (nI 2)).toNatClampNeg) a3) 141 ((((nI 630) + ((nI 5) * (τ.1 141 2))) + (nI 3)).toNatClampNeg) ((am_si (am_si (am_si τ 141 (((nI 630) + ((nI 5) * (τ.1 141 2))).toNatClampNeg) a1) 141 ((((nI 630) + ((nI 5) * (τ.1 141 2))) + (nI 1)).toNatClampNeg) a2) 141 ((((nI 630) + ((nI 5) * (τ.1 141 2))) + (nI 2)).toNatClampNeg) a3).1 141 0)) 141 ((((nI 630) + ((nI 5) * (τ.1 141 2))) + (nI 4)).toNatClampNeg) a4))) hF t_s_M_addCost_7 rfl rfl ?_
  refine am_iast (n := 1060) (j := 2) d_X12_addCost_77 (Nat.le_of_ble_eq_true rfl) (Nat.le_of_ble_eq_true rfl) rfl (by decide) rfl hF ?_
  refine am_seg s_M_addCost_8 (y := (83, [(5, .int ((nI 630) + ((nI 5) * (τ.1 141 2)))), (0, .ref 140), (1, .int a1), (2, .int a2), (3, .int a3), (4, .int a4)], [.int (nI 2), .ref 141], am_D (am_si (am_si (am_si (am_si (am_si (am_si τ 141 (((nI 630) + ((nI 5) * (τ.1 141 2))).toNatClampNeg) a1) 141 ((((nI 630) + ((nI 5) * (τ.1 141 2))) + (nI 1)).toNatClampNeg) a2) 141 ((((nI 630) + ((nI 5) * (τ.1 141 2))) + (nI 2)).toNatClampNeg) a3) 141 ((((nI 630) + ((nI 5) * (τ.1 141 2))) + (nI 3)).toNatClampNeg) ((am_si (am_si (am_si τ 141 (((nI 630) + ((nI 5) * (τ.1 141 2))).toNatClampNeg) a1) 141 ((((nI 630) + ((nI 5) * (τ.1 141 2))) + (nI 1)).toNatClampNeg) a2) 141 ((((nI 630) + ((nI 5) * (τ.1 141 2))) + (nI 2)).toNatClampNeg) a3).1 141 0)) 141 ((((nI 630) + ((nI 5) * (τ.1 141 2))) + (nI 4)).toNatClampNeg) a4) 141 2 (((am_si (am_si (am_si (am_si (am_si τ 141 (((nI 630) + ((nI 5) * (τ.1 141 2))).toNatClampNeg) a1) 141 ((((nI 630) + ((nI 5) * (τ.1 141 2))) + (nI 1)).toNatClampNeg) a2) 141 ((((nI 630) + ((nI 5) * (τ.1 141 2))) + (nI 2)).toNatClampNeg) a3) 141 ((((nI 630) + ((nI 5) * (τ.1 141 2))) + (nI 3)).toNatClampNeg) ((am_si (am_si (am_si τ 141 (((nI 630) + ((nI 5) * (τ.1 141 2))).toNatClampNeg) a1) 141 ((((nI 630) + ((nI 5) * (τ.1 141 2))) + (nI 1)).toNatClampNeg) a2) 141 ((((nI 630) + ((nI 5) * (τ.1 141 2))) + (nI 2)).toNatClampNeg) a3).1 141 0)) 141 ((((nI 630) + ((nI 5) * (τ.1 141 2))) + (nI 4)).toNatClampNeg) a4).1 141 2) + (nI 1))))) hF t_s_M_addCost_8 rfl rfl ?_
  refine am_iald (n := 1060) (j := 2) d_X12_addCost_83 (Nat.le_of_ble_eq_true rfl) (Nat.le_of_ble_eq_true rfl) rfl (by decide) rfl hF ?_
  refine am_seg s_M_addCost_9 (y := (86, [(5, .int ((nI 630) + ((nI 5) * (τ.1 141 2)))), (0, .ref 140), (1, .int a1), (2, .int a2), (3, .int a3), (4, .int a4)], [.int (((am_si (am_si (am_si (am_si (am_si (am_si τ 141 (((nI 630) + ((nI 5) * (τ.1 141 2))).toNatClampNeg) a1) 141 ((((nI 630) + ((nI 5) * (τ.1 141 2))) + (nI 1)).toNatClampNeg) a2) 141 ((((nI 630) + ((nI 5) * (τ.1 141 2))) + (nI 2)).toNatClampNeg) a3) 141 ((((nI 630) + ((nI 5) * (τ.1 141 2))) + (nI 3)).toNatClampNeg) ((am_si (am_si (am_si τ 141 (((nI 630) + ((nI 5) * (τ.1 141 2))).toNatClampNeg) a1) 141 ((((nI 630) + ((nI 5) * (τ.1 141 2))) + (nI 1)).toNatClampNeg) a2) 141 ((((nI 630) + ((nI 5) * (τ.1 141 2))) + (nI 2)).toNatClampNeg) a3).1 141 0)) 141 ((((nI 630) + ((nI 5) * (τ.1 141 2))) + (nI 4)).toNatClampNeg) a4) 141 2 (((am_si (am_si (am_si (am_si (am_si τ 141 (((nI 630) + ((nI 5) * (τ.1 141 2))).toNatClampNeg) a1) 141 ((((nI 630) + ((nI 5) * (τ.1 141 2))) + (nI 1)).toNatClampNeg) a2) 141 ((((nI 630) + ((nI 5) * (τ.1 141 2))) + (nI 2)).toNatClampNeg) a3) 141 ((((nI 630) + ((nI 5) * (τ.1 141 2))) + (nI 3)).toNatClampNeg) ((am_si (am_si (am_si τ 141 (((nI 630) + ((nI 5) * (τ.1 141 2))).toNatClampNeg) a1) 141 ((((nI 630) + ((nI 5) * (τ.1 141 2))) + (nI 1)).toNatClampNeg) a2) 141 ((((nI 630) + ((nI 5) * (τ.1 141 2))) + (nI 2)).toNatClampNeg) a3).1 141 0)) 141 ((((nI 630) + ((nI 5) * (τ.1 141 2))) + (nI 4)).toNatClampNeg) a4).1 141 2) + (nI 1))).1 141 2) - (nI 1))], am_D (am_si (am_si (am_si (am_si (am_si (am_si τ 141 (((nI 630) + ((nI 5) * (τ.1 141 2))).toNatClampNeg) a1) 141 ((((nI 630) + ((nI 5) * (τ.1 141 2))) + (nI 1)).toNatClampNeg) a2) 141 ((((nI 630) + ((nI 5) * (τ.1 141 2))) + (nI 2)).toNatClampNeg) a3) 141 ((((nI 630) + ((nI 5) * (τ.1 141 2))) + (nI 3)).toNatClampNeg) ((am_si (am_si (am_si τ 141 (((nI 630) + ((nI 5) * (τ.1 141 2))).toNatClampNeg) a1) 141 ((((nI 630) + ((nI 5) * (τ.1 141 2))) + (nI 1)).toNatClampNeg) a2) 141 ((((nI 630) + ((nI 5) * (τ.1 141 2))) + (nI 2)).toNatClampNeg) a3).1 141 0)) 141 ((((nI 630) + ((nI 5) * (τ.1 141 2))) + (nI 4)).toNatClampNeg) a4) 141 2 (((am_si (am_si (am_si (am_si (am_si τ 141 (((nI 630) + ((nI 5) * (τ.1 141 2))).toNatClampNeg) a1) 141 ((((nI 630) + ((nI 5) * (τ.1 141 2))) + (nI 1)).toNatClampNeg) a2) 141 ((((nI 630) + ((nI 5) * (τ.1 141 2))) + (nI 2)).toNatClampNeg) a3) 141 ((((nI 630) + ((nI 5) * (τ.1 141 2))) + (nI 3)).toNatClampNeg) ((am_si (am_si (am_si τ 141 (((nI 630) + ((nI 5) * (τ.1 141 2))).toNatClampNeg) a1) 141 ((((nI 630) + ((nI 5) * (τ.1 141 2))) + (nI 1)).toNatClampNeg) a2) 141 ((((nI 630) + ((nI 5) * (τ.1 141 2))) + (nI 2)).toNatClampNeg) a3).1 141 0)) 141 ((((nI 630) + ((nI 5) * (τ.1 141 2))) + (nI 4)).toNatClampNeg) a4).1 141 2) + (nI 1))))) hF t_s_M_addCost_9 rfl rfl ?_
  obtain ⟨rfl, rfl⟩ := am_pair h
  exact am_iret d_X12_addCost_86 hF hB
theorem c_M_addCost {a1 : Int32} {a2 : Int32} {a3 : Int32} {a4 : Int32} {v : Int32} {τ τ' : am_T} (h : M_addCost τ a1 a2 a3 a4 = some (v, τ')) : am_C yX12_addCost cX12_addCost 6 (some .int) 0 0 [.ref 140, .int a1, .int a2, .int a3, .int a4] (am_D τ) (some (.int v)) (am_D τ') :=
  am_enter (by decide +kernel) (Nat.le_of_ble_eq_true rfl) ⟨Nat.le_refl _, Nat.le_refl _⟩ (fun X hF hR hB => ok_M_addCost hF hR hB h)
def s_M_cost_0 : List am_Q := [(0, .iload_n 1, 0, 0, 0, .null)]
theorem t_s_M_cost_0 : s_M_cost_0.all (am_ok 12 cX12_cost) = true := by decide +kernel
theorem d_X12_cost_1 : decode cX12_cost 1 = .ok (.invokestatic 203, 3) := by decide +kernel
theorem d_X12_cost_4 : decode cX12_cost 4 = .ok (.ifCond .eq 21, 3) := by decide +kernel
def s_M_cost_1 : List am_Q := [(25, .iconst (-1), 0, 0, 0, .int (-1 : Int32))]
theorem t_s_M_cost_1 : s_M_cost_1.all (am_ok 12 cX12_cost) = true := by decide +kernel
theorem d_X12_cost_26 : decode cX12_cost 26 = .ok (.ireturn, 1) := by decide +kernel
def s_M_cost_2 : List am_Q := [(7, .aload_n 0, 0, 0, 0, .null), (8, .iload_n 2, 0, 0, 0, .null)]
theorem t_s_M_cost_2 : s_M_cost_2.all (am_ok 12 cX12_cost) = true := by decide +kernel
theorem d_X12_cost_9 : decode cX12_cost 9 = .ok (.invokevirtual 226, 3) := by decide +kernel
theorem d_X12_cost_12 : decode cX12_cost 12 = .ok (.ifCond .eq 13, 3) := by decide +kernel
def s_M_cost_3 : List am_Q := [(25, .iconst (-1), 0, 0, 0, .int (-1 : Int32))]
theorem t_s_M_cost_3 : s_M_cost_3.all (am_ok 12 cX12_cost) = true := by decide +kernel
def s_M_cost_4 : List am_Q := [(15, .iload_n 3, 0, 0, 0, .null), (16, .iconst 0, 0, 0, 0, .int (nI 0)), (17, .ldc 222, 0, 0, 30, .int (nI 99999))]
theorem t_s_M_cost_4 : s_M_cost_4.all (am_ok 12 cX12_cost) = true := by decide +kernel
theorem d_X12_cost_19 : decode cX12_cost 19 = .ok (.invokestatic 51, 3) := by decide +kernel
theorem d_X12_cost_22 : decode cX12_cost 22 = .ok (.ifCond .ne 5, 3) := by decide +kernel
def s_M_cost_5 : List am_Q := [(27, .aload_n 0, 0, 0, 0, .null), (28, .getfield 7, 12, 0, 152, .null), (31, .iconst 2, 0, 0, 0, .int (nI 2))]
theorem t_s_M_cost_5 : s_M_cost_5.all (am_ok 12 cX12_cost) = true := by decide +kernel
theorem d_X12_cost_32 : decode cX12_cost 32 = .ok (.iaload, 1) := by decide +kernel
def s_M_cost_6 : List am_Q := [(33, .bipush 20, 0, 0, 0, .int (nI 20))]
theorem t_s_M_cost_6 : s_M_cost_6.all (am_ok 12 cX12_cost) = true := by decide +kernel
theorem d_X12_cost_35 : decode cX12_cost 35 = .ok (.if_icmp .ne 8, 3) := by decide +kernel
def s_M_cost_7 : List am_Q := [(43, .aload_n 0, 0, 0, 0, .null), (44, .iload_n 1, 0, 0, 0, .null), (45, .iload_n 2, 0, 0, 0, .null), (46, .iload_n 3, 0, 0, 0, .null), (47, .iconst 0, 0, 0, 0, .int (nI 0))]
theorem t_s_M_cost_7 : s_M_cost_7.all (am_ok 12 cX12_cost) = true := by decide +kernel
theorem d_X12_cost_48 : decode cX12_cost 48 = .ok (.invokevirtual 229, 3) := by decide +kernel
theorem d_X12_cost_51 : decode cX12_cost 51 = .ok (.ireturn, 1) := by decide +kernel
def s_M_cost_8 : List am_Q := [(38, .bipush (-2), 0, 0, 0, .int (-2 : Int32)), (40, .goto 11, 51, 0, 0, .null)]
theorem t_s_M_cost_8 : s_M_cost_8.all (am_ok 12 cX12_cost) = true := by decide +kernel
def s_M_cost_9 : List am_Q := [(25, .iconst (-1), 0, 0, 0, .int (-1 : Int32))]
theorem t_s_M_cost_9 : s_M_cost_9.all (am_ok 12 cX12_cost) = true := by decide +kernel
def M_cost (τ : am_T) (a1 : Int32) (a2 : Int32) (a3 : Int32) : Option (Int32 × am_T) :=
  (M_isHead τ a1).bind (fun x1 =>
  if x1.1 = 0 then
  (some ((-1 : Int32), x1.2))
else
  ((M_isKnownDay x1.2 a2).bind (fun x2 =>
  if x2.1 = 0 then
  (some ((-1 : Int32), x2.2))
else
  ((M_in x2.2 a3 (nI 0) (nI 99999)).bind (fun x3 =>
  if x3.1 = 0 then
  (some ((-1 : Int32), x3.2))
else
  (if (x3.2.1 141 2) = (nI 20) then
  (some ((-2 : Int32), x3.2))
else
  ((M_addCost x3.2 a1 a2 a3 (nI 0)).bind (fun x4 =>
  some (x4.1, x4.2)))))))))
set_option maxRecDepth 20000 in
theorem ok_M_cost {X : am_X} {a1 : Int32} {a2 : Int32} {a3 : Int32} {v : Int32} {τ τ' : am_T} (hF : am_F X "ShareHouseModel" cX12_cost 4) (hR : am_R X 2 43) (hB : am_B X (some .int) (some (.int v)) (am_D τ')) (h : M_cost τ a1 a2 a3 = some (v, τ')) : am_W X 4 (0, [(0, .ref 140), (1, .int a1), (2, .int a2), (3, .int a3)], [], am_D τ) := by
  unfold M_cost at h
  refine am_seg s_M_cost_0 (y := (1, [(0, .ref 140), (1, .int a1), (2, .int a2), (3, .int a3)], [.int a1], am_D τ)) hF t_s_M_cost_0 rfl rfl ?_
  refine am_bd h (fun x1 hx h => ?_)
  refine am_callS (As := [.int a1]) (r := (some (.int x1.1))) (st := []) (σ' := am_D x1.2) hF hR d_X12_cost_1 (c_M_isHead (τ' := x1.2) hx) (Nat.le_refl _) (Nat.le_refl _) wl_M_203 ws_yX12_isHead wn_ShareHouseModel wc_yX12_isHead wy_yX12_isHead rfl ⟨by decide, by decide⟩ (Nat.le_of_ble_eq_true rfl) ?_
  refine am_ite h (fun hc h => ?_) (fun hc h => ?_)
  · refine am_if_eq_t (t := 25) d_X12_cost_4 (by decide) hc hF ?_
    refine am_seg s_M_cost_1 (y := (26, [(0, .ref 140), (1, .int a1), (2, .int a2), (3, .int a3)], [.int (-1 : Int32)], am_D x1.2)) hF t_s_M_cost_1 rfl rfl ?_
    obtain ⟨rfl, rfl⟩ := am_pair h
    exact am_iret d_X12_cost_26 hF hB
  · refine am_if_eq_f (t := 25) d_X12_cost_4 (by decide) hc hF ?_
    refine am_seg s_M_cost_2 (y := (9, [(0, .ref 140), (1, .int a1), (2, .int a2), (3, .int a3)], [.int a2, .ref 140], am_D x1.2)) hF t_s_M_cost_2 rfl rfl ?_
    refine am_bd h (fun x2 hx h => ?_)
    refine am_callV (As := [.int a2]) (r := (some (.int x2.1))) (st := []) (σ' := am_D x2.2) (ci := 12) hF hR d_X12_cost_9 (c_M_isKnownDay (τ' := x2.2) hx) (Nat.le_refl _) (Nat.le_refl _) wl_M_226 wi_yX12_isKnownDay we_yX12_isKnownDay wn_ShareHouseModel wc_yX12_isKnownDay (Nat.le_of_ble_eq_true rfl) (Nat.le_of_ble_eq_true rfl) rfl rfl wy_yX12_isKnownDay rfl ⟨by decide, by decide⟩ (Nat.le_of_ble_eq_true rfl) ?_
    refine am_ite h (fun hc h => ?_) (fun hc h => ?_)
    · refine am_if_eq_t (t := 25) d_X12_cost_12 (by decide) hc hF ?_
      refine am_seg s_M_cost_3 (y := (26, [(0, .ref 140), (1, .int a1), (2, .int a2), (3, .int a3)], [.int (-1 : Int32)], am_D x2.2)) hF t_s_M_cost_3 rfl rfl ?_
      obtain ⟨rfl, rfl⟩ := am_pair h
      exact am_iret d_X12_cost_26 hF hB
    · refine am_if_eq_f (t := 25) d_X12_cost_12 (by decide) hc hF ?_
      refine am_seg s_M_cost_4 (y := (19, [(0, .ref 140), (1, .int a1), (2, .int a2), (3, .int a3)], [.int (nI 99999), .int (nI 0), .int a3], am_D x2.2)) hF t_s_M_cost_4 rfl rfl ?_
      refine am_bd h (fun x3 hx h => ?_)
      refine am_callS (As := [.int a3, .int (nI 0), .int (nI 99999)]) (r := (some (.int x3.1))) (st := []) (σ' := am_D x3.2) hF hR d_X12_cost_19 (c_M_in (τ' := x3.2) hx) (Nat.le_refl _) (Nat.le_refl _) wl_M_51 ws_yX12_in wn_ShareHouseModel wc_yX12_in wy_yX12_in rfl ⟨by decide, by decide⟩ (Nat.le_of_ble_eq_true rfl) ?_
      refine am_ite h (fun hc h => ?_) (fun hc h => ?_)
      · refine am_if_ne_f (t := 27) d_X12_cost_22 (by decide) hc hF ?_
        refine am_seg s_M_cost_9 (y := (26, [(0, .ref 140), (1, .int a1), (2, .int a2), (3, .int a3)], [.int (-1 : Int32)], am_D x3.2)) hF t_s_M_cost_9 rfl rfl ?_
        obtain ⟨rfl, rfl⟩ := am_pair h
        exact am_iret d_X12_cost_26 hF hB
      · refine am_if_ne_t (t := 27) d_X12_cost_22 (by decide) hc hF ?_
        refine am_seg s_M_cost_5 (y := (32, [(0, .ref 140), (1, .int a1), (2, .int a2), (3, .int a3)], [.int (nI 2), .ref 141], am_D x3.2)) hF t_s_M_cost_5 rfl rfl ?_
        refine am_iald (n := 1060) (j := 2) d_X12_cost_32 (Nat.le_of_ble_eq_true rfl) (Nat.le_of_ble_eq_true rfl) rfl (by decide) rfl hF ?_
        refine am_seg s_M_cost_6 (y := (35, [(0, .ref 140), (1, .int a1), (2, .int a2), (3, .int a3)], [.int (nI 20), .int (x3.2.1 141 2)], am_D x3.2)) hF t_s_M_cost_6 rfl rfl ?_
        refine am_ite h (fun hc h => ?_) (fun hc h => ?_)
        · refine am_icmp_ne_f (t := 43) d_X12_cost_35 (by decide) hc hF ?_
          refine am_seg s_M_cost_8 (y := (51, [(0, .ref 140), (1, .int a1), (2, .int a2), (3, .int a3)], [.int (-2 : Int32)], am_D x3.2)) hF t_s_M_cost_8 rfl rfl ?_
          obtain ⟨rfl, rfl⟩ := am_pair h
          exact am_iret d_X12_cost_51 hF hB
        · refine am_icmp_ne_t (t := 43) d_X12_cost_35 (by decide) hc hF ?_
          refine am_seg s_M_cost_7 (y := (48, [(0, .ref 140), (1, .int a1), (2, .int a2), (3, .int a3)], [.int (nI 0), .int a3, .int a2, .int a1, .ref 140], am_D x3.2)) hF t_s_M_cost_7 rfl rfl ?_
          refine am_bd h (fun x4 hx h => ?_)
          refine am_callV (As := [.int a1, .int a2, .int a3, .int (nI 0)]) (r := (some (.int x4.1))) (st := []) (σ' := am_D x4.2) (ci := 12) hF hR d_X12_cost_48 (c_M_addCost (τ' := x4.2) hx) (Nat.le_refl _) (Nat.le_refl _) wl_M_229 wi_yX12_addCost we_yX12_addCost wn_ShareHouseModel wc_yX12_addCost (Nat.le_of_ble_eq_true rfl) (Nat.le_of_ble_eq_true rfl) rfl rfl wy_yX12_addCost rfl ⟨by decide, by decide⟩ (Nat.le_of_ble_eq_true rfl) ?_
          obtain ⟨rfl, rfl⟩ := am_pair h
          exact am_iret d_X12_cost_51 hF hB
theorem c_M_cost {a1 : Int32} {a2 : Int32} {a3 : Int32} {v : Int32} {τ τ' : am_T} (h : M_cost τ a1 a2 a3 = some (v, τ')) : am_C yX12_cost cX12_cost 4 (some .int) 2 43 [.ref 140, .int a1, .int a2, .int a3] (am_D τ) (some (.int v)) (am_D τ') :=
  am_enter (by decide +kernel) (Nat.le_of_ble_eq_true rfl) ⟨Nat.le_refl _, Nat.le_refl _⟩ (fun X hF hR hB => ok_M_cost hF hR hB h)
def s_M_isCost_0 : List am_Q := [(0, .iload_n 1, 0, 0, 0, .null), (1, .iconst 0, 0, 0, 0, .int (nI 0)), (2, .aload_n 0, 0, 0, 0, .null), (3, .getfield 7, 12, 0, 152, .null), (6, .iconst 2, 0, 0, 0, .int (nI 2))]
theorem t_s_M_isCost_0 : s_M_isCost_0.all (am_ok 12 cX12_isCost) = true := by decide +kernel
theorem d_X12_isCost_7 : decode cX12_isCost 7 = .ok (.iaload, 1) := by decide +kernel
def s_M_isCost_1 : List am_Q := [(8, .iconst 1, 0, 0, 0, .int (nI 1)), (9, .isub, 0, 0, 0, .null)]
theorem t_s_M_isCost_1 : s_M_isCost_1.all (am_ok 12 cX12_isCost) = true := by decide +kernel
theorem d_X12_isCost_10 : decode cX12_isCost 10 = .ok (.invokestatic 51, 3) := by decide +kernel
theorem d_X12_isCost_13 : decode cX12_isCost 13 = .ok (.ireturn, 1) := by decide +kernel
def M_isCost (τ : am_T) (a1 : Int32) : Option (Int32 × am_T) :=
  (M_in τ a1 (nI 0) ((τ.1 141 2) - (nI 1))).bind (fun x1 =>
  am_g (am_z01 x1.1) (some (x1.1, x1.2)))
set_option maxRecDepth 20000 in
theorem ok_M_isCost {X : am_X} {a1 : Int32} {v : Int32} {τ τ' : am_T} (hF : am_F X "ShareHouseModel" cX12_isCost 2) (hR : am_R X 1 22) (hB : am_B X (some .boolean) (some (.int v)) (am_D τ')) (h : M_isCost τ a1 = some (v, τ')) : am_W X 2 (0, [(0, .ref 140), (1, .int a1)], [], am_D τ) := by
  unfold M_isCost at h
  refine am_seg s_M_isCost_0 (y := (7, [(0, .ref 140), (1, .int a1)], [.int (nI 2), .ref 141, .int (nI 0), .int a1], am_D τ)) hF t_s_M_isCost_0 rfl rfl ?_
  refine am_iald (n := 1060) (j := 2) d_X12_isCost_7 (Nat.le_of_ble_eq_true rfl) (Nat.le_of_ble_eq_true rfl) rfl (by decide) rfl hF ?_
  refine am_seg s_M_isCost_1 (y := (10, [(0, .ref 140), (1, .int a1)], [.int ((τ.1 141 2) - (nI 1)), .int (nI 0), .int a1], am_D τ)) hF t_s_M_isCost_1 rfl rfl ?_
  refine am_bd h (fun x1 hx h => ?_)
  refine am_callS (As := [.int a1, .int (nI 0), .int ((τ.1 141 2) - (nI 1))]) (r := (some (.int x1.1))) (st := []) (σ' := am_D x1.2) hF hR d_X12_isCost_10 (c_M_in (τ' := x1.2) hx) (Nat.le_refl _) (Nat.le_refl _) wl_M_51 ws_yX12_in wn_ShareHouseModel wc_yX12_in wy_yX12_in rfl ⟨by decide, by decide⟩ (Nat.le_of_ble_eq_true rfl) ?_
  refine am_gd h (fun hz h => ?_)
  obtain ⟨rfl, rfl⟩ := am_pair h
  exact am_zret d_X12_isCost_13 (am_z01_n hz) hF hB
theorem c_M_isCost {a1 : Int32} {v : Int32} {τ τ' : am_T} (h : M_isCost τ a1 = some (v, τ')) : am_C yX12_isCost cX12_isCost 2 (some .boolean) 1 22 [.ref 140, .int a1] (am_D τ) (some (.int v)) (am_D τ') :=
  am_enter (by decide +kernel) (Nat.le_of_ble_eq_true rfl) ⟨Nat.le_refl _, Nat.le_refl _⟩ (fun X hF hR hB => ok_M_isCost hF hR hB h)
def s_M_costAt_0 : List am_Q := [(0, .aload_n 0, 0, 0, 0, .null), (1, .getfield 7, 12, 0, 152, .null), (4, .sipush 630, 0, 0, 0, .int (nI 630)), (7, .iconst 5, 0, 0, 0, .int (nI 5)), (8, .iload_n 1, 0, 0, 0, .null), (9, .imul, 0, 0, 0, .null), (10, .iadd, 0, 0, 0, .null), (11, .iload_n 2, 0, 0, 0, .null), (12, .iadd, 0, 0, 0, .null)]
theorem t_s_M_costAt_0 : s_M_costAt_0.all (am_ok 12 cX12_costAt) = true := by decide +kernel
theorem d_X12_costAt_13 : decode cX12_costAt 13 = .ok (.iaload, 1) := by decide +kernel
theorem d_X12_costAt_14 : decode cX12_costAt 14 = .ok (.ireturn, 1) := by decide +kernel
def M_costAt (τ : am_T) (a1 : Int32) (a2 : Int32) : Option (Int32 × am_T) :=
  am_g (am_in (((nI 630) + ((nI 5) * a1)) + a2) 1060) (some ((τ.1 141 ((((nI 630) + ((nI 5) * a1)) + a2).toNatClampNeg)), τ))
set_option maxRecDepth 20000 in
theorem ok_M_costAt {X : am_X} {a1 : Int32} {a2 : Int32} {v : Int32} {τ τ' : am_T} (hF : am_F X "ShareHouseModel" cX12_costAt 3) (hR : am_R X 0 0) (hB : am_B X (some .int) (some (.int v)) (am_D τ')) (h : M_costAt τ a1 a2 = some (v, τ')) : am_W X 3 (0, [(0, .ref 140), (1, .int a1), (2, .int a2)], [], am_D τ) := by
  unfold M_costAt at h
  refine am_seg s_M_costAt_0 (y := (13, [(0, .ref 140), (1, .int a1), (2, .int a2)], [.int (((nI 630) + ((nI 5) * a1)) + a2), .ref 141], am_D τ)) hF t_s_M_costAt_0 rfl rfl ?_
  refine am_gd h (fun hi h => ?_)
  refine am_iald (n := 1060) (j := ((((nI 630) + ((nI 5) * a1)) + a2).toNatClampNeg)) d_X12_costAt_13 (Nat.le_of_ble_eq_true rfl) (Nat.le_of_ble_eq_true rfl) rfl hi rfl hF ?_
  obtain ⟨rfl, rfl⟩ := am_pair h
  exact am_iret d_X12_costAt_14 hF hB
theorem c_M_costAt {a1 : Int32} {a2 : Int32} {v : Int32} {τ τ' : am_T} (h : M_costAt τ a1 a2 = some (v, τ')) : am_C yX12_costAt cX12_costAt 3 (some .int) 0 0 [.ref 140, .int a1, .int a2] (am_D τ) (some (.int v)) (am_D τ') :=
  am_enter (by decide +kernel) (Nat.le_of_ble_eq_true rfl) ⟨Nat.le_refl _, Nat.le_refl _⟩ (fun X hF hR hB => ok_M_costAt hF hR hB h)
def s_M_mayRight_0 : List am_Q := [(0, .aload_n 0, 0, 0, 0, .null), (1, .getfield 7, 12, 0, 152, .null), (4, .iconst 0, 0, 0, 0, .int (nI 0))]
theorem t_s_M_mayRight_0 : s_M_mayRight_0.all (am_ok 12 cX12_mayRight) = true := by decide +kernel
theorem d_X12_mayRight_5 : decode cX12_mayRight 5 = .ok (.iaload, 1) := by decide +kernel
def s_M_mayRight_1 : List am_Q := [(6, .aload_n 0, 0, 0, 0, .null), (7, .iload_n 1, 0, 0, 0, .null), (8, .iconst 1, 0, 0, 0, .int (nI 1))]
theorem t_s_M_mayRight_1 : s_M_mayRight_1.all (am_ok 12 cX12_mayRight) = true := by decide +kernel
theorem d_X12_mayRight_9 : decode cX12_mayRight 9 = .ok (.invokevirtual 233, 3) := by decide +kernel
def s_M_mayRight_2 : List am_Q := [(12, .isub, 0, 0, 0, .null), (13, .aload_n 0, 0, 0, 0, .null), (14, .getfield 7, 12, 0, 152, .null), (17, .bipush 10, 0, 0, 0, .int (nI 10))]
theorem t_s_M_mayRight_2 : s_M_mayRight_2.all (am_ok 12 cX12_mayRight) = true := by decide +kernel
theorem d_X12_mayRight_19 : decode cX12_mayRight 19 = .ok (.iaload, 1) := by decide +kernel
theorem d_X12_mayRight_20 : decode cX12_mayRight 20 = .ok (.if_icmp .le 8, 3) := by decide +kernel
def s_M_mayRight_3 : List am_Q := [(28, .aload_n 0, 0, 0, 0, .null), (29, .getfield 7, 12, 0, 152, .null), (32, .iconst 3, 0, 0, 0, .int (nI 3))]
theorem t_s_M_mayRight_3 : s_M_mayRight_3.all (am_ok 12 cX12_mayRight) = true := by decide +kernel
theorem d_X12_mayRight_33 : decode cX12_mayRight 33 = .ok (.iaload, 1) := by decide +kernel
def s_M_mayRight_4 : List am_Q := [(34, .bipush 30, 0, 0, 0, .int (nI 30))]
theorem t_s_M_mayRight_4 : s_M_mayRight_4.all (am_ok 12 cX12_mayRight) = true := by decide +kernel
theorem d_X12_mayRight_36 : decode cX12_mayRight 36 = .ok (.if_icmp .ne 8, 3) := by decide +kernel
def s_M_mayRight_5 : List am_Q := [(44, .iconst 0, 0, 0, 0, .int (nI 0))]
theorem t_s_M_mayRight_5 : s_M_mayRight_5.all (am_ok 12 cX12_mayRight) = true := by decide +kernel
theorem d_X12_mayRight_45 : decode cX12_mayRight 45 = .ok (.ireturn, 1) := by decide +kernel
def s_M_mayRight_6 : List am_Q := [(39, .bipush (-2), 0, 0, 0, .int (-2 : Int32)), (41, .goto 4, 45, 0, 0, .null)]
theorem t_s_M_mayRight_6 : s_M_mayRight_6.all (am_ok 12 cX12_mayRight) = true := by decide +kernel
def s_M_mayRight_7 : List am_Q := [(23, .bipush (-5), 0, 0, 0, .int (-5 : Int32)), (25, .goto 20, 45, 0, 0, .null)]
theorem t_s_M_mayRight_7 : s_M_mayRight_7.all (am_ok 12 cX12_mayRight) = true := by decide +kernel
def M_mayRight (τ : am_T) (a1 : Int32) : Option (Int32 × am_T) :=
  (M_costAt τ a1 (nI 1)).bind (fun x1 =>
  if ((τ.1 141 0) - x1.1) ≤ (x1.2.1 141 10) then
  (if (x1.2.1 141 3) = (nI 30) then
  (some ((-2 : Int32), x1.2))
else
  (some ((nI 0), x1.2)))
else
  (some ((-5 : Int32), x1.2)))
set_option maxRecDepth 20000 in
theorem ok_M_mayRight {X : am_X} {a1 : Int32} {v : Int32} {τ τ' : am_T} (hF : am_F X "ShareHouseModel" cX12_mayRight 2) (hR : am_R X 1 22) (hB : am_B X (some .int) (some (.int v)) (am_D τ')) (h : M_mayRight τ a1 = some (v, τ')) : am_W X 2 (0, [(0, .ref 140), (1, .int a1)], [], am_D τ) := by
  unfold M_mayRight at h
  refine am_seg s_M_mayRight_0 (y := (5, [(0, .ref 140), (1, .int a1)], [.int (nI 0), .ref 141], am_D τ)) hF t_s_M_mayRight_0 rfl rfl ?_
  refine am_iald (n := 1060) (j := 0) d_X12_mayRight_5 (Nat.le_of_ble_eq_true rfl) (Nat.le_of_ble_eq_true rfl) rfl (by decide) rfl hF ?_
  refine am_seg s_M_mayRight_1 (y := (9, [(0, .ref 140), (1, .int a1)], [.int (nI 1), .int a1, .ref 140, .int (τ.1 141 0)], am_D τ)) hF t_s_M_mayRight_1 rfl rfl ?_
  refine am_bd h (fun x1 hx h => ?_)
  refine am_callV (As := [.int a1, .int (nI 1)]) (r := (some (.int x1.1))) (st := [.int (τ.1 141 0)]) (σ' := am_D x1.2) (ci := 12) hF hR d_X12_mayRight_9 (c_M_costAt (τ' := x1.2) hx) (Nat.le_refl _) (Nat.le_refl _) wl_M_233 wi_yX12_costAt we_yX12_costAt wn_ShareHouseModel wc_yX12_costAt (Nat.le_of_ble_eq_true rfl) (Nat.le_of_ble_eq_true rfl) rfl rfl wy_yX12_costAt rfl ⟨by decide, by decide⟩ (Nat.le_of_ble_eq_true rfl) ?_
  refine am_seg s_M_mayRight_2 (y := (19, [(0, .ref 140), (1, .int a1)], [.int (nI 10), .ref 141, .int ((τ.1 141 0) - x1.1)], am_D x1.2)) hF t_s_M_mayRight_2 rfl rfl ?_
  refine am_iald (n := 1060) (j := 10) d_X12_mayRight_19 (Nat.le_of_ble_eq_true rfl) (Nat.le_of_ble_eq_true rfl) rfl (by decide) rfl hF ?_
  refine am_ite h (fun hc h => ?_) (fun hc h => ?_)
  · refine am_icmp_le_t (t := 28) d_X12_mayRight_20 (by decide) hc hF ?_
    refine am_seg s_M_mayRight_3 (y := (33, [(0, .ref 140), (1, .int a1)], [.int (nI 3), .ref 141], am_D x1.2)) hF t_s_M_mayRight_3 rfl rfl ?_
    refine am_iald (n := 1060) (j := 3) d_X12_mayRight_33 (Nat.le_of_ble_eq_true rfl) (Nat.le_of_ble_eq_true rfl) rfl (by decide) rfl hF ?_
    refine am_seg s_M_mayRight_4 (y := (36, [(0, .ref 140), (1, .int a1)], [.int (nI 30), .int (x1.2.1 141 3)], am_D x1.2)) hF t_s_M_mayRight_4 rfl rfl ?_
    refine am_ite h (fun hc h => ?_) (fun hc h => ?_)
    · refine am_icmp_ne_f (t := 44) d_X12_mayRight_36 (by decide) hc hF ?_
      refine am_seg s_M_mayRight_6 (y := (45, [(0, .ref 140), (1, .int a1)], [.int (-2 : Int32)], am_D x1.2)) hF t_s_M_mayRight_6 rfl rfl ?_
      obtain ⟨rfl, rfl⟩ := am_pair h
      exact am_iret d_X12_mayRight_45 hF hB
    · refine am_icmp_ne_t (t := 44) d_X12_mayRight_36 (by decide) hc hF ?_
      refine am_seg s_M_mayRight_5 (y := (45, [(0, .ref 140), (1, .int a1)], [.int (nI 0)], am_D x1.2)) hF t_s_M_mayRight_5 rfl rfl ?_
      obtain ⟨rfl, rfl⟩ := am_pair h
      exact am_iret d_X12_mayRight_45 hF hB
  · refine am_icmp_le_f (t := 28) d_X12_mayRight_20 (by decide) hc hF ?_
    refine am_seg s_M_mayRight_7 (y := (45, [(0, .ref 140), (1, .int a1)], [.int (-5 : Int32)], am_D x1.2)) hF t_s_M_mayRight_7 rfl rfl ?_
    obtain ⟨rfl, rfl⟩ := am_pair h
    exact am_iret d_X12_mayRight_45 hF hB
theorem c_M_mayRight {a1 : Int32} {v : Int32} {τ τ' : am_T} (h : M_mayRight τ a1 = some (v, τ')) : am_C yX12_mayRight cX12_mayRight 2 (some .int) 1 22 [.ref 140, .int a1] (am_D τ) (some (.int v)) (am_D τ') :=
  am_enter (by decide +kernel) (Nat.le_of_ble_eq_true rfl) ⟨Nat.le_refl _, Nat.le_refl _⟩ (fun X hF hR hB => ok_M_mayRight hF hR hB h)
def s_M_pence_0 : List am_Q := [(0, .aload_n 0, 0, 0, 0, .null), (1, .iload_n 1, 0, 0, 0, .null), (2, .iconst 2, 0, 0, 0, .int (nI 2))]
theorem t_s_M_pence_0 : s_M_pence_0.all (am_ok 12 cX12_pence) = true := by decide +kernel
theorem d_X12_pence_3 : decode cX12_pence 3 = .ok (.invokevirtual 233, 3) := by decide +kernel
def s_M_pence_1 : List am_Q := [(6, .istore_n 3, 0, 0, 0, .null), (7, .sipush 730, 0, 0, 0, .int (nI 730)), (10, .istore 4, 0, 0, 0, .null)]
theorem t_s_M_pence_1 : s_M_pence_1.all (am_ok 12 cX12_pence) = true := by decide +kernel
def s_M_pence_2 : List am_Q := [(12, .iload 4, 0, 0, 0, .null), (14, .sipush 730, 0, 0, 0, .int (nI 730)), (17, .iconst 3, 0, 0, 0, .int (nI 3)), (18, .aload_n 0, 0, 0, 0, .null), (19, .getfield 7, 12, 0, 152, .null), (22, .iconst 3, 0, 0, 0, .int (nI 3))]
theorem t_s_M_pence_2 : s_M_pence_2.all (am_ok 12 cX12_pence) = true := by decide +kernel
theorem d_X12_pence_23 : decode cX12_pence 23 = .ok (.iaload, 1) := by decide +kernel
def s_M_pence_3 : List am_Q := [(24, .imul, 0, 0, 0, .null), (25, .iadd, 0, 0, 0, .null)]
theorem t_s_M_pence_3 : s_M_pence_3.all (am_ok 12 cX12_pence) = true := by decide +kernel
theorem d_X12_pence_26 : decode cX12_pence 26 = .ok (.if_icmp .ge 47, 3) := by decide +kernel
def s_M_pence_4 : List am_Q := [(73, .iload_n 3, 0, 0, 0, .null)]
theorem t_s_M_pence_4 : s_M_pence_4.all (am_ok 12 cX12_pence) = true := by decide +kernel
theorem d_X12_pence_74 : decode cX12_pence 74 = .ok (.ireturn, 1) := by decide +kernel
def s_M_pence_5 : List am_Q := [(29, .aload_n 0, 0, 0, 0, .null), (30, .getfield 7, 12, 0, 152, .null), (33, .iload 4, 0, 0, 0, .null)]
theorem t_s_M_pence_5 : s_M_pence_5.all (am_ok 12 cX12_pence) = true := by decide +kernel
theorem d_X12_pence_35 : decode cX12_pence 35 = .ok (.iaload, 1) := by decide +kernel
def s_M_pence_6 : List am_Q := [(36, .iload_n 1, 0, 0, 0, .null)]
theorem t_s_M_pence_6 : s_M_pence_6.all (am_ok 12 cX12_pence) = true := by decide +kernel
theorem d_X12_pence_37 : decode cX12_pence 37 = .ok (.if_icmp .ne 28, 3) := by decide +kernel
def s_M_pence_7 : List am_Q := [(65, .iload_n 3, 0, 0, 0, .null), (66, .istore_n 3, 0, 0, 0, .null), (67, .iinc 4 3, 0, 0, 0, .int (nI 3)), (70, .goto (-58), 12, 0, 0, .null)]
theorem t_s_M_pence_7 : s_M_pence_7.all (am_ok 12 cX12_pence) = true := by decide +kernel
def s_M_pence_8 : List am_Q := [(40, .aload_n 0, 0, 0, 0, .null), (41, .getfield 7, 12, 0, 152, .null), (44, .iload 4, 0, 0, 0, .null), (46, .iconst 2, 0, 0, 0, .int (nI 2)), (47, .iadd, 0, 0, 0, .null)]
theorem t_s_M_pence_8 : s_M_pence_8.all (am_ok 12 cX12_pence) = true := by decide +kernel
theorem d_X12_pence_48 : decode cX12_pence 48 = .ok (.iaload, 1) := by decide +kernel
def s_M_pence_9 : List am_Q := [(49, .iload_n 2, 0, 0, 0, .null)]
theorem t_s_M_pence_9 : s_M_pence_9.all (am_ok 12 cX12_pence) = true := by decide +kernel
theorem d_X12_pence_50 : decode cX12_pence 50 = .ok (.if_icmp .gt 15, 3) := by decide +kernel
def s_M_pence_10 : List am_Q := [(65, .iload_n 3, 0, 0, 0, .null), (66, .istore_n 3, 0, 0, 0, .null), (67, .iinc 4 3, 0, 0, 0, .int (nI 3)), (70, .goto (-58), 12, 0, 0, .null)]
theorem t_s_M_pence_10 : s_M_pence_10.all (am_ok 12 cX12_pence) = true := by decide +kernel
def s_M_pence_11 : List am_Q := [(53, .aload_n 0, 0, 0, 0, .null), (54, .getfield 7, 12, 0, 152, .null), (57, .iload 4, 0, 0, 0, .null), (59, .iconst 1, 0, 0, 0, .int (nI 1)), (60, .iadd, 0, 0, 0, .null)]
theorem t_s_M_pence_11 : s_M_pence_11.all (am_ok 12 cX12_pence) = true := by decide +kernel
theorem d_X12_pence_61 : decode cX12_pence 61 = .ok (.iaload, 1) := by decide +kernel
def s_M_pence_12 : List am_Q := [(62, .goto 4, 66, 0, 0, .null), (66, .istore_n 3, 0, 0, 0, .null), (67, .iinc 4 3, 0, 0, 0, .int (nI 3)), (70, .goto (-58), 12, 0, 0, .null)]
theorem t_s_M_pence_12 : s_M_pence_12.all (am_ok 12 cX12_pence) = true := by decide +kernel
def M_pence_12 : Nat → am_T → Int32 → Int32 → Int32 → Int32 → Option (Int32 × am_T)
  | 0, _, _, _, _, _ => none
  | n + 1, τ, a1, a2, a3, a4 =>
    if ((nI 730) + ((nI 3) * (τ.1 141 3))) ≤ a4 then
  (some (a3, τ))
else
  (am_g (am_in a4 1060) (if (τ.1 141 (a4.toNatClampNeg)) = a1 then
  (am_g (am_in (a4 + (nI 2)) 1060) (if a2 < (τ.1 141 ((a4 + (nI 2)).toNatClampNeg)) then
  ((M_pence_12 n) τ a1 a2 a3 (a4 + (nI 3)))
else
  (am_g (am_in (a4 + (nI 1)) 1060) ((M_pence_12 n) τ a1 a2 (τ.1 141 ((a4 + (nI 1)).toNatClampNeg)) (a4 + (nI 3))))))
else
  ((M_pence_12 n) τ a1 a2 a3 (a4 + (nI 3)))))
set_option maxRecDepth 20000 in
theorem ok_M_pence_12 {X : am_X} {v : Int32} {τ' : am_T} (hF : am_F X "ShareHouseModel" cX12_pence 5) (hR : am_R X 1 22) (hB : am_B X (some .int) (some (.int v)) (am_D τ')) : ∀ (n : Nat) (τ : am_T) (a1 : Int32) (a2 : Int32) (a3 : Int32) (a4 : Int32), M_pence_12 n τ a1 a2 a3 a4 = some (v, τ') → am_W X 5 (12, [(0, .ref 140), (1, .int a1), (2, .int a2), (3, .int a3), (4, .int a4)], [], am_D τ) := by
  intro n
  induction n with
  | zero => intro τ a1 a2 a3 a4 h; unfold M_pence_12 at h; cases h
  | succ n ih =>
    intro τ a1 a2 a3 a4 h
    unfold M_pence_12 at h
    refine am_seg s_M_pence_2 (y := (23, [(0, .ref 140), (1, .int a1), (2, .int a2), (3, .int a3), (4, .int a4)], [.int (nI 3), .ref 141, .int (nI 3), .int (nI 730), .int a4], am_D τ)) hF t_s_M_pence_2 rfl rfl ?_
    refine am_iald (n := 1060) (j := 3) d_X12_pence_23 (Nat.le_of_ble_eq_true rfl) (Nat.le_of_ble_eq_true rfl) rfl (by decide) rfl hF ?_
    refine am_seg s_M_pence_3 (y := (26, [(0, .ref 140), (1, .int a1), (2, .int a2), (3, .int a3), (4, .int a4)], [.int ((nI 730) + ((nI 3) * (τ.1 141 3))), .int a4], am_D τ)) hF t_s_M_pence_3 rfl rfl ?_
    refine am_ite h (fun hc h => ?_) (fun hc h => ?_)
    · refine am_icmp_ge_t (t := 73) d_X12_pence_26 (by decide) hc hF ?_
      refine am_seg s_M_pence_4 (y := (74, [(0, .ref 140), (1, .int a1), (2, .int a2), (3, .int a3), (4, .int a4)], [.int a3], am_D τ)) hF t_s_M_pence_4 rfl rfl ?_
      obtain ⟨rfl, rfl⟩ := am_pair h
      exact am_iret d_X12_pence_74 hF hB
    · refine am_icmp_ge_f (t := 73) d_X12_pence_26 (by decide) hc hF ?_
      refine am_seg s_M_pence_5 (y := (35, [(0, .ref 140), (1, .int a1), (2, .int a2), (3, .int a3), (4, .int a4)], [.int a4, .ref 141], am_D τ)) hF t_s_M_pence_5 rfl rfl ?_
      refine am_gd h (fun hi h => ?_)
      refine am_iald (n := 1060) (j := (a4.toNatClampNeg)) d_X12_pence_35 (Nat.le_of_ble_eq_true rfl) (Nat.le_of_ble_eq_true rfl) rfl hi rfl hF ?_
      refine am_seg s_M_pence_6 (y := (37, [(0, .ref 140), (1, .int a1), (2, .int a2), (3, .int a3), (4, .int a4)], [.int a1, .int (τ.1 141 (a4.toNatClampNeg))], am_D τ)) hF t_s_M_pence_6 rfl rfl ?_
      refine am_ite h (fun hc h => ?_) (fun hc h => ?_)
      · refine am_icmp_ne_f (t := 65) d_X12_pence_37 (by decide) hc hF ?_
        refine am_seg s_M_pence_8 (y := (48, [(0, .ref 140), (1, .int a1), (2, .int a2), (3, .int a3), (4, .int a4)], [.int (a4 + (nI 2)), .ref 141], am_D τ)) hF t_s_M_pence_8 rfl rfl ?_
        refine am_gd h (fun hi h => ?_)
        refine am_iald (n := 1060) (j := ((a4 + (nI 2)).toNatClampNeg)) d_X12_pence_48 (Nat.le_of_ble_eq_true rfl) (Nat.le_of_ble_eq_true rfl) rfl hi rfl hF ?_
        refine am_seg s_M_pence_9 (y := (50, [(0, .ref 140), (1, .int a1), (2, .int a2), (3, .int a3), (4, .int a4)], [.int a2, .int (τ.1 141 ((a4 + (nI 2)).toNatClampNeg))], am_D τ)) hF t_s_M_pence_9 rfl rfl ?_
        refine am_ite h (fun hc h => ?_) (fun hc h => ?_)
        · refine am_icmp_gt_t (t := 65) d_X12_pence_50 (by decide) hc hF ?_
          refine am_seg s_M_pence_10 (y := (12, [(4, .int (a4 + (nI 3))), (3, .int a3), (0, .ref 140), (1, .int a1), (2, .int a2)], [], am_D τ)) hF t_s_M_pence_10 rfl rfl ?_
          refine am_pick [2, 3, 4, 1, 0] rfl ?_
          exact ih _ _ _ _ _ h
        · refine am_icmp_gt_f (t := 65) d_X12_pence_50 (by decide) hc hF ?_
          refine am_seg s_M_pence_11 (y := (61, [(0, .ref 140), (1, .int a1), (2, .int a2), (3, .int a3), (4, .int a4)], [.int (a4 + (nI 1)), .ref 141], am_D τ)) hF t_s_M_pence_11 rfl rfl ?_
          refine am_gd h (fun hi h => ?_)
          refine am_iald (n := 1060) (j := ((a4 + (nI 1)).toNatClampNeg)) d_X12_pence_61 (Nat.le_of_ble_eq_true rfl) (Nat.le_of_ble_eq_true rfl) rfl hi rfl hF ?_
          refine am_seg s_M_pence_12 (y := (12, [(4, .int (a4 + (nI 3))), (3, .int (τ.1 141 ((a4 + (nI 1)).toNatClampNeg))), (0, .ref 140), (1, .int a1), (2, .int a2)], [], am_D τ)) hF t_s_M_pence_12 rfl rfl ?_
          refine am_pick [2, 3, 4, 1, 0] rfl ?_
          exact ih _ _ _ _ _ h
      · refine am_icmp_ne_t (t := 65) d_X12_pence_37 (by decide) hc hF ?_
        refine am_seg s_M_pence_7 (y := (12, [(4, .int (a4 + (nI 3))), (3, .int a3), (0, .ref 140), (1, .int a1), (2, .int a2)], [], am_D τ)) hF t_s_M_pence_7 rfl rfl ?_
        refine am_pick [2, 3, 4, 1, 0] rfl ?_
        exact ih _ _ _ _ _ h
def M_pence (τ : am_T) (a1 : Int32) (a2 : Int32) : Option (Int32 × am_T) :=
  (M_costAt τ a1 (nI 2)).bind (fun x1 =>
  M_pence_12 5000 x1.2 a1 a2 x1.1 (nI 730))
set_option maxRecDepth 20000 in
theorem ok_M_pence {X : am_X} {a1 : Int32} {a2 : Int32} {v : Int32} {τ τ' : am_T} (hF : am_F X "ShareHouseModel" cX12_pence 5) (hR : am_R X 1 22) (hB : am_B X (some .int) (some (.int v)) (am_D τ')) (h : M_pence τ a1 a2 = some (v, τ')) : am_W X 5 (0, [(0, .ref 140), (1, .int a1), (2, .int a2)], [], am_D τ) := by
  unfold M_pence at h
  refine am_seg s_M_pence_0 (y := (3, [(0, .ref 140), (1, .int a1), (2, .int a2)], [.int (nI 2), .int a1, .ref 140], am_D τ)) hF t_s_M_pence_0 rfl rfl ?_
  refine am_bd h (fun x1 hx h => ?_)
  refine am_callV (As := [.int a1, .int (nI 2)]) (r := (some (.int x1.1))) (st := []) (σ' := am_D x1.2) (ci := 12) hF hR d_X12_pence_3 (c_M_costAt (τ' := x1.2) hx) (Nat.le_refl _) (Nat.le_refl _) wl_M_233 wi_yX12_costAt we_yX12_costAt wn_ShareHouseModel wc_yX12_costAt (Nat.le_of_ble_eq_true rfl) (Nat.le_of_ble_eq_true rfl) rfl rfl wy_yX12_costAt rfl ⟨by decide, by decide⟩ (Nat.le_of_ble_eq_true rfl) ?_
  refine am_seg s_M_pence_1 (y := (12, [(4, .int (nI 730)), (3, .int x1.1), (0, .ref 140), (1, .int a1), (2, .int a2)], [], am_D x1.2)) hF t_s_M_pence_1 rfl rfl ?_
  refine am_pick [2, 3, 4, 1, 0] rfl ?_
  exact ok_M_pence_12 hF hR hB _ _ _ _ _ _ h
theorem c_M_pence {a1 : Int32} {a2 : Int32} {v : Int32} {τ τ' : am_T} (h : M_pence τ a1 a2 = some (v, τ')) : am_C yX12_pence cX12_pence 5 (some .int) 1 22 [.ref 140, .int a1, .int a2] (am_D τ) (some (.int v)) (am_D τ') :=
  am_enter (by decide +kernel) (Nat.le_of_ble_eq_true rfl) ⟨Nat.le_refl _, Nat.le_refl _⟩ (fun X hF hR hB => ok_M_pence hF hR hB h)
def s_M_putRight_0 : List am_Q := [(0, .sipush 730, 0, 0, 0, .int (nI 730)), (3, .iconst 3, 0, 0, 0, .int (nI 3)), (4, .aload_n 0, 0, 0, 0, .null), (5, .getfield 7, 12, 0, 152, .null), (8, .iconst 3, 0, 0, 0, .int (nI 3))]
theorem t_s_M_putRight_0 : s_M_putRight_0.all (am_ok 12 cX12_putRight) = true := by decide +kernel
theorem d_X12_putRight_9 : decode cX12_putRight 9 = .ok (.iaload, 1) := by decide +kernel
def s_M_putRight_1 : List am_Q := [(10, .imul, 0, 0, 0, .null), (11, .iadd, 0, 0, 0, .null), (12, .istore_n 3, 0, 0, 0, .null), (13, .aload_n 0, 0, 0, 0, .null), (14, .getfield 7, 12, 0, 152, .null), (17, .iload_n 3, 0, 0, 0, .null), (18, .iload_n 1, 0, 0, 0, .null)]
theorem t_s_M_putRight_1 : s_M_putRight_1.all (am_ok 12 cX12_putRight) = true := by decide +kernel
theorem d_X12_putRight_19 : decode cX12_putRight 19 = .ok (.iastore, 1) := by decide +kernel
def s_M_putRight_2 : List am_Q := [(20, .aload_n 0, 0, 0, 0, .null), (21, .getfield 7, 12, 0, 152, .null), (24, .iload_n 3, 0, 0, 0, .null), (25, .iconst 1, 0, 0, 0, .int (nI 1)), (26, .iadd, 0, 0, 0, .null), (27, .iload_n 2, 0, 0, 0, .null)]
theorem t_s_M_putRight_2 : s_M_putRight_2.all (am_ok 12 cX12_putRight) = true := by decide +kernel
theorem d_X12_putRight_28 : decode cX12_putRight 28 = .ok (.iastore, 1) := by decide +kernel
def s_M_putRight_3 : List am_Q := [(29, .aload_n 0, 0, 0, 0, .null), (30, .getfield 7, 12, 0, 152, .null), (33, .iload_n 3, 0, 0, 0, .null), (34, .iconst 2, 0, 0, 0, .int (nI 2)), (35, .iadd, 0, 0, 0, .null), (36, .aload_n 0, 0, 0, 0, .null), (37, .getfield 7, 12, 0, 152, .null), (40, .iconst 0, 0, 0, 0, .int (nI 0))]
theorem t_s_M_putRight_3 : s_M_putRight_3.all (am_ok 12 cX12_putRight) = true := by decide +kernel
theorem d_X12_putRight_41 : decode cX12_putRight 41 = .ok (.iaload, 1) := by decide +kernel
theorem d_X12_putRight_42 : decode cX12_putRight 42 = .ok (.iastore, 1) := by decide +kernel
def s_M_putRight_4 : List am_Q := [(43, .aload_n 0, 0, 0, 0, .null), (44, .getfield 7, 12, 0, 152, .null), (47, .iconst 3, 0, 0, 0, .int (nI 3)), (48, .dup2, 0, 0, 0, .null)]
theorem t_s_M_putRight_4 : s_M_putRight_4.all (am_ok 12 cX12_putRight) = true := by decide +kernel
theorem d_X12_putRight_49 : decode cX12_putRight 49 = .ok (.iaload, 1) := by decide +kernel
def s_M_putRight_5 : List am_Q := [(50, .iconst 1, 0, 0, 0, .int (nI 1)), (51, .iadd, 0, 0, 0, .null)]
theorem t_s_M_putRight_5 : s_M_putRight_5.all (am_ok 12 cX12_putRight) = true := by decide +kernel
theorem d_X12_putRight_52 : decode cX12_putRight 52 = .ok (.iastore, 1) := by decide +kernel
theorem d_X12_putRight_53 : decode cX12_putRight 53 = .ok (.return_, 1) := by decide +kernel
def M_putRight (τ : am_T) (a1 : Int32) (a2 : Int32) : Option (am_T) :=
  am_g (am_in ((nI 730) + ((nI 3) * (τ.1 141 3))) 1060) (am_g (am_in (((nI 730) + ((nI 3) * (τ.1 141 3))) + (nI 1)) 1060) (am_g (am_in (((nI 730) + ((nI 3) * (τ.1 141 3))) + (nI 2)) 1060) (some (am_si (am_si (am_si (am_si τ 141 (((nI 730) + ((nI 3) * (τ.1 141 3))).toNatClampNeg) a1) 141 ((((nI 730) + ((nI 3) * (τ.1 141 3))) + (nI 1)).toNatClampNeg) a2) 141 ((((nI 730) + ((nI 3) * (τ.1 141 3))) + (nI 2)).toNatClampNeg) ((am_si (am_si τ 141 (((nI 730) + ((nI 3) * (τ.1 141 3))).toNatClampNeg) a1) 141 ((((nI 730) + ((nI 3) * (τ.1 141 3))) + (nI 1)).toNatClampNeg) a2).1 141 0)) 141 3 (((am_si (am_si (am_si τ 141 (((nI 730) + ((nI 3) * (τ.1 141 3))).toNatClampNeg) a1) 141 ((((nI 730) + ((nI 3) * (τ.1 141 3))) + (nI 1)).toNatClampNeg) a2) 141 ((((nI 730) + ((nI 3) * (τ.1 141 3))) + (nI 2)).toNatClampNeg) ((am_si (am_si τ 141 (((nI 730) + ((nI 3) * (τ.1 141 3))).toNatClampNeg) a1) 141 ((((nI 730) + ((nI 3) * (τ.1 141 3))) + (nI 1)).toNatClampNeg) a2).1 141 0)).1 141 3) + (nI 1))))))
set_option maxRecDepth 20000 in
theorem ok_M_putRight {X : am_X} {a1 : Int32} {a2 : Int32} {τ τ' : am_T} (hF : am_F X "ShareHouseModel" cX12_putRight 4) (hR : am_R X 0 0) (hB : am_B X none none (am_D τ')) (h : M_putRight τ a1 a2 = some τ') : am_W X 4 (0, [(0, .ref 140), (1, .int a1), (2, .int a2)], [], am_D τ) := by
  unfold M_putRight at h
  refine am_seg s_M_putRight_0 (y := (9, [(0, .ref 140), (1, .int a1), (2, .int a2)], [.int (nI 3), .ref 141, .int (nI 3), .int (nI 730)], am_D τ)) hF t_s_M_putRight_0 rfl rfl ?_
  refine am_iald (n := 1060) (j := 3) d_X12_putRight_9 (Nat.le_of_ble_eq_true rfl) (Nat.le_of_ble_eq_true rfl) rfl (by decide) rfl hF ?_
  refine am_seg s_M_putRight_1 (y := (19, [(3, .int ((nI 730) + ((nI 3) * (τ.1 141 3)))), (0, .ref 140), (1, .int a1), (2, .int a2)], [.int a1, .int ((nI 730) + ((nI 3) * (τ.1 141 3))), .ref 141], am_D τ)) hF t_s_M_putRight_1 rfl rfl ?_
  refine am_gd h (fun hi h => ?_)
  refine am_iast (n := 1060) (j := (((nI 730) + ((nI 3) * (τ.1 141 3))).toNatClampNeg)) d_X12_putRight_19 (Nat.le_of_ble_eq_true rfl) (Nat.le_of_ble_eq_true rfl) rfl hi rfl hF ?_
  refine am_seg s_M_putRight_2 (y := (28, [(3, .int ((nI 730) + ((nI 3) * (τ.1 141 3)))), (0, .ref 140), (1, .int a1), (2, .int a2)], [.int a2, .int (((nI 730) + ((nI 3) * (τ.1 141 3))) + (nI 1)), .ref 141], am_D (am_si τ 141 (((nI 730) + ((nI 3) * (τ.1 141 3))).toNatClampNeg) a1))) hF t_s_M_putRight_2 rfl rfl ?_
  refine am_gd h (fun hi h => ?_)
  refine am_iast (n := 1060) (j := ((((nI 730) + ((nI 3) * (τ.1 141 3))) + (nI 1)).toNatClampNeg)) d_X12_putRight_28 (Nat.le_of_ble_eq_true rfl) (Nat.le_of_ble_eq_true rfl) rfl hi rfl hF ?_
  refine am_seg s_M_putRight_3 (y := (41, [(3, .int ((nI 730) + ((nI 3) * (τ.1 141 3)))), (0, .ref 140), (1, .int a1), (2, .int a2)], [.int (nI 0), .ref 141, .int (((nI 730) + ((nI 3) * (τ.1 141 3))) + (nI 2)), .ref 141], am_D (am_si (am_si τ 141 (((nI 730) + ((nI 3) * (τ.1 141 3))).toNatClampNeg) a1) 141 ((((nI 730) + ((nI 3) * (τ.1 141 3))) + (nI 1)).toNatClampNeg) a2))) hF t_s_M_putRight_3 rfl rfl ?_
  refine am_iald (n := 1060) (j := 0) d_X12_putRight_41 (Nat.le_of_ble_eq_true rfl) (Nat.le_of_ble_eq_true rfl) rfl (by decide) rfl hF ?_
  refine am_gd h (fun hi h => ?_)
  refine am_iast (n := 1060) (j := ((((nI 730) + ((nI 3) * (τ.1 141 3))) + (nI 2)).toNatClampNeg)) d_X12_putRight_42 (Nat.le_of_ble_eq_true rfl) (Nat.le_of_ble_eq_true rfl) rfl hi rfl hF ?_
  refine am_seg s_M_putRight_4 (y := (49, [(3, .int ((nI 730) + ((nI 3) * (τ.1 141 3)))), (0, .ref 140), (1, .int a1), (2, .int a2)], [.int (nI 3), .ref 141, .int (nI 3), .ref 141], am_D (am_si (am_si (am_si τ 141 (((nI 730) + ((nI 3) * (τ.1 141 3))).toNatClampNeg) a1) 141 ((((nI 730) + ((nI 3) * (τ.1 141 3))) + (nI 1)).toNatClampNeg) a2) 141 ((((nI 730) + ((nI 3) * (τ.1 141 3))) + (nI 2)).toNatClampNeg) ((am_si (am_si τ 141 (((nI 730) + ((nI 3) * (τ.1 141 3))).toNatClampNeg) a1) 141 ((((nI 730) + ((nI 3) * (τ.1 141 3))) + (nI 1)).toNatClampNeg) a2).1 141 0)))) hF t_s_M_putRight_4 rfl rfl ?_
  refine am_iald (n := 1060) (j := 3) d_X12_putRight_49 (Nat.le_of_ble_eq_true rfl) (Nat.le_of_ble_eq_true rfl) rfl (by decide) rfl hF ?_
  refine am_seg s_M_putRight_5 (y := (52, [(3, .int ((nI 730) + ((nI 3) * (τ.1 141 3)))), (0, .ref 140), (1, .int a1), (2, .int a2)], [.int (((am_si (am_si (am_si τ 141 (((nI 730) + ((nI 3) * (τ.1 141 3))).toNatClampNeg) a1) 141 ((((nI 730) + ((nI 3) * (τ.1 141 3))) + (nI 1)).toNatClampNeg) a2) 141 ((((nI 730) + ((nI 3) * (τ.1 141 3))) + (nI 2)).toNatClampNeg) ((am_si (am_si τ 141 (((nI 730) + ((nI 3) * (τ.1 141 3))).toNatClampNeg) a1) 141 ((((nI 730) + ((nI 3) * (τ.1 141 3))) + (nI 1)).toNatClampNeg) a2).1 141 0)).1 141 3) + (nI 1)), .int (nI 3), .ref 141], am_D (am_si (am_si (am_si τ 141 (((nI 730) + ((nI 3) * (τ.1 141 3))).toNatClampNeg) a1) 141 ((((nI 730) + ((nI 3) * (τ.1 141 3))) + (nI 1)).toNatClampNeg) a2) 141 ((((nI 730) + ((nI 3) * (τ.1 141 3))) + (nI 2)).toNatClampNeg) ((am_si (am_si τ 141 (((nI 730) + ((nI 3) * (τ.1 141 3))).toNatClampNeg) a1) 141 ((((nI 730) + ((nI 3) * (τ.1 141 3))) + (nI 1)).toNatClampNeg) a2).1 141 0)))) hF t_s_M_putRight_5 rfl rfl ?_
  refine am_iast (n := 1060) (j := 3) d_X12_putRight_52 (Nat.le_of_ble_eq_true rfl) (Nat.le_of_ble_eq_true rfl) rfl (by decide) rfl hF ?_
  obtain rfl := am_one h
  exact am_vret d_X12_putRight_53 hF hB
theorem c_M_putRight {a1 : Int32} {a2 : Int32} {τ τ' : am_T} (h : M_putRight τ a1 a2 = some τ') : am_C yX12_putRight cX12_putRight 4 none 0 0 [.ref 140, .int a1, .int a2] (am_D τ) none (am_D τ') :=
  am_enter (by decide +kernel) (Nat.le_of_ble_eq_true rfl) ⟨Nat.le_refl _, Nat.le_refl _⟩ (fun X hF hR hB => ok_M_putRight hF hR hB h)

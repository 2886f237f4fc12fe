def s_M_levelPay_0 : List am_Q := [(0, .aload_n 0, 0, 0, 0, .null), (1, .iload_n 1, 0, 0, 0, .null)]
theorem t_s_M_levelPay_0 : s_M_levelPay_0.all (am_ok 12 cX12_levelPay) = true := by decide +kernel
theorem d_X12_levelPay_2 : decode cX12_levelPay 2 = .ok (.invokevirtual 293, 3) := by decide +kernel
def s_M_levelPay_1 : List am_Q := [(5, .iconst 0, 0, 0, 0, .int (nI 0)), (6, .istore_n 2, 0, 0, 0, .null), (7, .iconst 0, 0, 0, 0, .int (nI 0)), (8, .istore_n 3, 0, 0, 0, .null)]
theorem t_s_M_levelPay_1 : s_M_levelPay_1.all (am_ok 12 cX12_levelPay) = true := by decide +kernel
def s_M_levelPay_2 : List am_Q := [(9, .iload_n 3, 0, 0, 0, .null), (10, .bipush 30, 0, 0, 0, .int (nI 30))]
theorem t_s_M_levelPay_2 : s_M_levelPay_2.all (am_ok 12 cX12_levelPay) = true := by decide +kernel
theorem d_X12_levelPay_12 : decode cX12_levelPay 12 = .ok (.if_icmp .ge 49, 3) := by decide +kernel
def s_M_levelPay_3 : List am_Q := [(61, .iload_n 2, 0, 0, 0, .null)]
theorem t_s_M_levelPay_3 : s_M_levelPay_3.all (am_ok 12 cX12_levelPay) = true := by decide +kernel
theorem d_X12_levelPay_62 : decode cX12_levelPay 62 = .ok (.ireturn, 1) := by decide +kernel
def s_M_levelPay_4 : List am_Q := [(15, .aload_n 0, 0, 0, 0, .null), (16, .iload_n 3, 0, 0, 0, .null), (17, .iconst 0, 0, 0, 0, .int (nI 0))]
theorem t_s_M_levelPay_4 : s_M_levelPay_4.all (am_ok 12 cX12_levelPay) = true := by decide +kernel
theorem d_X12_levelPay_18 : decode cX12_levelPay 18 = .ok (.invokevirtual 296, 3) := by decide +kernel
def s_M_levelPay_5 : List am_Q := [(21, .istore 4, 0, 0, 0, .null), (23, .iload 4, 0, 0, 0, .null)]
theorem t_s_M_levelPay_5 : s_M_levelPay_5.all (am_ok 12 cX12_levelPay) = true := by decide +kernel
theorem d_X12_levelPay_25 : decode cX12_levelPay 25 = .ok (.ifCond .gt 7, 3) := by decide +kernel
def s_M_levelPay_6 : List am_Q := [(32, .iload 4, 0, 0, 0, .null), (34, .iload_n 3, 0, 0, 0, .null), (35, .iadd, 0, 0, 0, .null), (36, .iload_n 3, 0, 0, 0, .null), (37, .iconst 1, 0, 0, 0, .int (nI 1)), (38, .iadd, 0, 0, 0, .null)]
theorem t_s_M_levelPay_6 : s_M_levelPay_6.all (am_ok 12 cX12_levelPay) = true := by decide +kernel
theorem d_X12_levelPay_39 : decode cX12_levelPay 39 = .ok (.idiv, 1) := by decide +kernel
def s_M_levelPay_7 : List am_Q := [(40, .istore 5, 0, 0, 0, .null), (42, .iload 5, 0, 0, 0, .null), (44, .iload_n 2, 0, 0, 0, .null)]
theorem t_s_M_levelPay_7 : s_M_levelPay_7.all (am_ok 12 cX12_levelPay) = true := by decide +kernel
theorem d_X12_levelPay_45 : decode cX12_levelPay 45 = .ok (.if_icmp .le 8, 3) := by decide +kernel
def s_M_levelPay_8 : List am_Q := [(53, .iload_n 2, 0, 0, 0, .null), (54, .istore_n 2, 0, 0, 0, .null), (55, .iinc 3 1, 0, 0, 0, .int (nI 1)), (58, .goto (-49), 9, 0, 0, .null)]
theorem t_s_M_levelPay_8 : s_M_levelPay_8.all (am_ok 12 cX12_levelPay) = true := by decide +kernel
def s_M_levelPay_9 : List am_Q := [(48, .iload 5, 0, 0, 0, .null), (50, .goto 4, 54, 0, 0, .null), (54, .istore_n 2, 0, 0, 0, .null), (55, .iinc 3 1, 0, 0, 0, .int (nI 1)), (58, .goto (-49), 9, 0, 0, .null)]
theorem t_s_M_levelPay_9 : s_M_levelPay_9.all (am_ok 12 cX12_levelPay) = true := by decide +kernel
def s_M_levelPay_10 : List am_Q := [(28, .iconst 0, 0, 0, 0, .int (nI 0)), (29, .goto 11, 40, 0, 0, .null)]
theorem t_s_M_levelPay_10 : s_M_levelPay_10.all (am_ok 12 cX12_levelPay) = true := by decide +kernel
def M_levelPay_40 (k9 : am_T → Int32 → Int32 → Option (Int32 × am_T)) (τ : am_T) (a2 : Int32) (a3 : Int32) (s0 : Int32) : Option (Int32 × am_T) :=
  if s0 ≤ a2 then
  (k9 τ a2 (a3 + (nI 1)))
else
  (k9 τ s0 (a3 + (nI 1)))
set_option maxRecDepth 20000 in
theorem ok_M_levelPay_40 {X : am_X} {v : Int32} {τ' : am_T} (hF : am_F X "ShareHouseModel" cX12_levelPay 6) (hR : am_R X 1 25) (hB : am_B X (some .int) (some (.int v)) (am_D τ')) {k9 : am_T → Int32 → Int32 → Option (Int32 × am_T)} (hk9 : ∀ (τ : am_T) (a2 : Int32) (a3 : Int32), k9 τ a2 a3 = some (v, τ') → am_W X 6 (9, [(0, .ref 140), (2, .int a2), (3, .int a3)], [], am_D τ)) {τ : am_T} {a2 : Int32} {a3 : Int32} {s0 : Int32} (h : M_levelPay_40 k9 τ a2 a3 s0 = some (v, τ')) : am_W X 6 (40, [(0, .ref 140), (2, .int a2), (3, .int a3)], [.int s0], am_D τ) := by
  unfold M_levelPay_40 at h
  refine am_seg s_M_levelPay_7 (y := (45, [(5, .int s0), (0, .ref 140), (2, .int a2), (3, .int a3)], [.int a2, .int s0], am_D τ)) hF t_s_M_levelPay_7 rfl rfl ?_
  refine am_ite h (fun hc h => ?_) (fun hc h => ?_)
  · refine am_icmp_le_t (t := 53) d_X12_levelPay_45 (by decide) hc hF ?_
    refine am_seg s_M_levelPay_8 (y := (9, [(3, .int (a3 + (nI 1))), (2, .int a2), (5, .int s0), (0, .ref 140)], [], am_D τ)) hF t_s_M_levelPay_8 rfl rfl ?_
    refine am_pick [3, 1, 0] rfl ?_
    exact hk9 _ _ _ h
  · refine am_icmp_le_f (t := 53) d_X12_levelPay_45 (by decide) hc hF ?_
    refine am_seg s_M_levelPay_9 (y := (9, [(3, .int (a3 + (nI 1))), (2, .int s0), (5, .int s0), (0, .ref 140)], [], am_D τ)) hF t_s_M_levelPay_9 rfl rfl ?_
    refine am_pick [3, 1, 0] rfl ?_
    exact hk9 _ _ _ h
def M_levelPay_9 : Nat → am_T → Int32 → Int32 → Option (Int32 × am_T)
  | 0, _, _, _ => none
  | n + 1, τ, a2, a3 =>
    if (nI 30) ≤ a3 then
  (some (a2, τ))
else
  ((M_lacks τ a3 (nI 0)).bind (fun x2 =>
  if 0 < x2.1 then
  (if (a3 + (nI 1)) = 0 then none else
  M_levelPay_40 (M_levelPay_9 n) x2.2 a2 a3 ((x2.1 + a3) / (a3 + (nI 1))))
else
  (M_levelPay_40 (M_levelPay_9 n) x2.2 a2 a3 (nI 0))))
set_option maxRecDepth 20000 in
theorem ok_M_levelPay_9 {X : am_X} {v : Int32} {τ' : am_T} (hF : am_F X "ShareHouseModel" cX12_levelPay 6) (hR : am_R X 1 25) (hB : am_B X (some .int) (some (.int v)) (am_D τ')) : ∀ (n : Nat) (τ : am_T) (a2 : Int32) (a3 : Int32), M_levelPay_9 n τ a2 a3 = some (v, τ') → am_W X 6 (9, [(0, .ref 140), (2, .int a2), (3, .int a3)], [], am_D τ) := by
  intro n
  induction n with
  | zero => intro τ a2 a3 h; unfold M_levelPay_9 at h; cases h
  | succ n ih =>
    intro τ a2 a3 h
    unfold M_levelPay_9 at h
    refine am_seg s_M_levelPay_2 (y := (12, [(0, .ref 140), (2, .int a2), (3, .int a3)], [.int (nI 30), .int a3], am_D τ)) hF t_s_M_levelPay_2 rfl rfl ?_
    refine am_ite h (fun hc h => ?_) (fun hc h => ?_)
    · refine am_icmp_ge_t (t := 61) d_X12_levelPay_12 (by decide) hc hF ?_
      refine am_seg s_M_levelPay_3 (y := (62, [(0, .ref 140), (2, .int a2), (3, .int a3)], [.int a2], am_D τ)) hF t_s_M_levelPay_3 rfl rfl ?_
      obtain ⟨rfl, rfl⟩ := am_pair h
      exact am_iret d_X12_levelPay_62 hF hB
    · refine am_icmp_ge_f (t := 61) d_X12_levelPay_12 (by decide) hc hF ?_
      refine am_seg s_M_levelPay_4 (y := (18, [(0, .ref 140), (2, .int a2), (3, .int a3)], [.int (nI 0), .int a3, .ref 140], am_D τ)) hF t_s_M_levelPay_4 rfl rfl ?_
      refine am_bd h (fun x2 hx h => ?_)
      refine am_callV (As := [.int a3, .int (nI 0)]) (r := (some (.int x2.1))) (st := []) (σ' := am_D x2.2) (ci := 12) hF hR d_X12_levelPay_18 (c_M_lacks (τ' := x2.2) hx) (Nat.le_refl _) (Nat.le_refl _) wl_M_296 wi_yX12_lacks we_yX12_lacks wn_ShareHouseModel wc_yX12_lacks (Nat.le_of_ble_eq_true rfl) (Nat.le_of_ble_eq_true rfl) rfl rfl wy_yX12_lacks rfl ⟨by decide, by decide⟩ (Nat.le_of_ble_eq_true rfl) ?_
      refine am_seg s_M_levelPay_5 (y := (25, [(4, .int x2.1), (0, .ref 140), (2, .int a2), (3, .int a3)], [.int x2.1], am_D x2.2)) hF t_s_M_levelPay_5 rfl rfl ?_
      refine am_ite h (fun hc h => ?_) (fun hc h => ?_)
      · refine am_if_gt_t (t := 32) d_X12_levelPay_25 (by decide) hc hF ?_
        refine am_seg s_M_levelPay_6 (y := (39, [(4, .int x2.1), (0, .ref 140), (2, .int a2), (3, .int a3)], [.int (a3 + (nI 1)), .int (x2.1 + a3)], am_D x2.2)) hF t_s_M_levelPay_6 rfl rfl ?_
        refine am_ite h (fun _ h => by cases h) (fun hc h => ?_)
        refine am_idiv d_X12_levelPay_39 hc hF ?_
        refine am_pick [1, 2, 3] rfl ?_
        exact ok_M_levelPay_40 hF hR hB ih h
      · refine am_if_gt_f (t := 32) d_X12_levelPay_25 (by decide) hc hF ?_
        refine am_seg s_M_levelPay_10 (y := (40, [(4, .int x2.1), (0, .ref 140), (2, .int a2), (3, .int a3)], [.int (nI 0)], am_D x2.2)) hF t_s_M_levelPay_10 rfl rfl ?_
        refine am_pick [1, 2, 3] rfl ?_
        exact ok_M_levelPay_40 hF hR hB ih h
def M_levelPay (τ : am_T) (a1 : Int32) : Option (Int32 × am_T) :=
  (M_findSpent τ a1).bind (fun x1 =>
  M_levelPay_9 5000 x1 (nI 0) (nI 0))
set_option maxRecDepth 20000 in
theorem ok_M_levelPay {X : am_X} {a1 : Int32} {v : Int32} {τ τ' : am_T} (hF : am_F X "ShareHouseModel" cX12_levelPay 6) (hR : am_R X 1 25) (hB : am_B X (some .int) (some (.int v)) (am_D τ')) (h : M_levelPay τ a1 = some (v, τ')) : am_W X 6 (0, [(0, .ref 140), (1, .int a1)], [], am_D τ) := by
  unfold M_levelPay at h
  refine am_seg s_M_levelPay_0 (y := (2, [(0, .ref 140), (1, .int a1)], [.int a1, .ref 140], am_D τ)) hF t_s_M_levelPay_0 rfl rfl ?_
  refine am_bd h (fun x1 hx h => ?_)
  refine am_callV (As := [.int a1]) (r := none) (st := []) (σ' := am_D x1) (ci := 12) hF hR d_X12_levelPay_2 (c_M_findSpent (τ' := x1) hx) (Nat.le_refl _) (Nat.le_refl _) wl_M_293 wi_yX12_findSpent we_yX12_findSpent wn_ShareHouseModel wc_yX12_findSpent (Nat.le_of_ble_eq_true rfl) (Nat.le_of_ble_eq_true rfl) rfl rfl wy_yX12_findSpent rfl ⟨by decide, by decide⟩ (Nat.le_of_ble_eq_true rfl) ?_
  refine am_seg s_M_levelPay_1 (y := (9, [(3, .int (nI 0)), (2, .int (nI 0)), (0, .ref 140), (1, .int a1)], [], am_D x1)) hF t_s_M_levelPay_1 rfl rfl ?_
  refine am_pick [2, 1, 0] rfl ?_
  exact ok_M_levelPay_9 hF hR hB _ _ _ _ h
theorem c_M_levelPay {a1 : Int32} {v : Int32} {τ τ' : am_T} (h : M_levelPay τ a1 = some (v, τ')) : am_C yX12_levelPay cX12_levelPay 6 (some .int) 1 25 [.ref 140, .int a1] (am_D τ) (some (.int v)) (am_D τ') :=
  am_enter (by decide +kernel) (Nat.le_of_ble_eq_true rfl) ⟨Nat.le_refl _, Nat.le_refl _⟩ (fun X hF hR hB => ok_M_levelPay hF hR hB h)
def s_M_binds_0 : List am_Q := [(0, .iconst 0, 0, 0, 0, .int (nI 0)), (1, .istore_n 2, 0, 0, 0, .null)]
theorem t_s_M_binds_0 : s_M_binds_0.all (am_ok 12 cX12_binds) = true := by decide +kernel
def s_M_binds_1 : List am_Q := [(2, .iload_n 2, 0, 0, 0, .null), (3, .bipush 30, 0, 0, 0, .int (nI 30))]
theorem t_s_M_binds_1 : s_M_binds_1.all (am_ok 12 cX12_binds) = true := by decide +kernel
theorem d_X12_binds_5 : decode cX12_binds 5 = .ok (.if_icmp .ge 26, 3) := by decide +kernel
def s_M_binds_2 : List am_Q := [(31, .iconst (-1), 0, 0, 0, .int (-1 : Int32))]
theorem t_s_M_binds_2 : s_M_binds_2.all (am_ok 12 cX12_binds) = true := by decide +kernel
theorem d_X12_binds_32 : decode cX12_binds 32 = .ok (.ireturn, 1) := by decide +kernel
def s_M_binds_3 : List am_Q := [(8, .iload_n 1, 0, 0, 0, .null)]
theorem t_s_M_binds_3 : s_M_binds_3.all (am_ok 12 cX12_binds) = true := by decide +kernel
theorem d_X12_binds_9 : decode cX12_binds 9 = .ok (.ifCond .le 22, 3) := by decide +kernel
def s_M_binds_4 : List am_Q := [(31, .iconst (-1), 0, 0, 0, .int (-1 : Int32))]
theorem t_s_M_binds_4 : s_M_binds_4.all (am_ok 12 cX12_binds) = true := by decide +kernel
def s_M_binds_5 : List am_Q := [(12, .aload_n 0, 0, 0, 0, .null), (13, .iload_n 2, 0, 0, 0, .null), (14, .iload_n 1, 0, 0, 0, .null), (15, .iconst 1, 0, 0, 0, .int (nI 1)), (16, .isub, 0, 0, 0, .null)]
theorem t_s_M_binds_5 : s_M_binds_5.all (am_ok 12 cX12_binds) = true := by decide +kernel
theorem d_X12_binds_17 : decode cX12_binds 17 = .ok (.invokevirtual 296, 3) := by decide +kernel
theorem d_X12_binds_20 : decode cX12_binds 20 = .ok (.ifCond .le 5, 3) := by decide +kernel
def s_M_binds_6 : List am_Q := [(25, .iinc 2 1, 0, 0, 0, .int (nI 1)), (28, .goto (-26), 2, 0, 0, .null)]
theorem t_s_M_binds_6 : s_M_binds_6.all (am_ok 12 cX12_binds) = true := by decide +kernel
def s_M_binds_7 : List am_Q := [(23, .iload_n 2, 0, 0, 0, .null)]
theorem t_s_M_binds_7 : s_M_binds_7.all (am_ok 12 cX12_binds) = true := by decide +kernel
theorem d_X12_binds_24 : decode cX12_binds 24 = .ok (.ireturn, 1) := by decide +kernel
def M_binds_2 : Nat → am_T → Int32 → Int32 → Option (Int32 × am_T)
  | 0, _, _, _ => none
  | n + 1, τ, a1, a2 =>
    if (nI 30) ≤ a2 then
  (some ((-1 : Int32), τ))
else
  (if a1 ≤ 0 then
  (some ((-1 : Int32), τ))
else
  ((M_lacks τ a2 (a1 - (nI 1))).bind (fun x1 =>
  if x1.1 ≤ 0 then
  ((M_binds_2 n) x1.2 a1 (a2 + (nI 1)))
else
  (some (a2, x1.2)))))
set_option maxRecDepth 20000 in
theorem ok_M_binds_2 {X : am_X} {v : Int32} {τ' : am_T} (hF : am_F X "ShareHouseModel" cX12_binds 3) (hR : am_R X 1 22) (hB : am_B X (some .int) (some (.int v)) (am_D τ')) : ∀ (n : Nat) (τ : am_T) (a1 : Int32) (a2 : Int32), M_binds_2 n τ a1 a2 = some (v, τ') → am_W X 3 (2, [(0, .ref 140), (1, .int a1), (2, .int a2)], [], am_D τ) := by
  intro n
  induction n with
  | zero => intro τ a1 a2 h; unfold M_binds_2 at h; cases h
  | succ n ih =>
    intro τ a1 a2 h
    unfold M_binds_2 at h
    refine am_seg s_M_binds_1 (y := (5, [(0, .ref 140), (1, .int a1), (2, .int a2)], [.int (nI 30), .int a2], am_D τ)) hF t_s_M_binds_1 rfl rfl ?_
    refine am_ite h (fun hc h => ?_) (fun hc h => ?_)
    · refine am_icmp_ge_t (t := 31) d_X12_binds_5 (by decide) hc hF ?_
      refine am_seg s_M_binds_2 (y := (32, [(0, .ref 140), (1, .int a1), (2, .int a2)], [.int (-1 : Int32)], am_D τ)) hF t_s_M_binds_2 rfl rfl ?_
      obtain ⟨rfl, rfl⟩ := am_pair h
      exact am_iret d_X12_binds_32 hF hB
    · refine am_icmp_ge_f (t := 31) d_X12_binds_5 (by decide) hc hF ?_
      refine am_seg s_M_binds_3 (y := (9, [(0, .ref 140), (1, .int a1), (2, .int a2)], [.int a1], am_D τ)) hF t_s_M_binds_3 rfl rfl ?_
      refine am_ite h (fun hc h => ?_) (fun hc h => ?_)
      · refine am_if_le_t (t := 31) d_X12_binds_9 (by decide) hc hF ?_
        refine am_seg s_M_binds_4 (y := (32, [(0, .ref 140), (1, .int a1), (2, .int a2)], [.int (-1 : Int32)], am_D τ)) hF t_s_M_binds_4 rfl rfl ?_
        obtain ⟨rfl, rfl⟩ := am_pair h
        exact am_iret d_X12_binds_32 hF hB
      · refine am_if_le_f (t := 31) d_X12_binds_9 (by decide) hc hF ?_
        refine am_seg s_M_binds_5 (y := (17, [(0, .ref 140), (1, .int a1), (2, .int a2)], [.int (a1 - (nI 1)), .int a2, .ref 140], am_D τ)) hF t_s_M_binds_5 rfl rfl ?_
        refine am_bd h (fun x1 hx h => ?_)
        refine am_callV (As := [.int a2, .int (a1 - (nI 1))]) (r := (some (.int x1.1))) (st := []) (σ' := am_D x1.2) (ci := 12) hF hR d_X12_binds_17 (c_M_lacks (τ' := x1.2) hx) (Nat.le_refl _) (Nat.le_refl _) wl_M_296 wi_yX12_lacks we_yX12_lacks wn_ShareHouseModel wc_yX12_lacks (Nat.le_of_ble_eq_true rfl) (Nat.le_of_ble_eq_true rfl) rfl rfl wy_yX12_lacks rfl ⟨by decide, by decide⟩ (Nat.le_of_ble_eq_true rfl) ?_
        refine am_ite h (fun hc h => ?_) (fun hc h => ?_)
        · refine am_if_le_t (t := 25) d_X12_binds_20 (by decide) hc hF ?_
          refine am_seg s_M_binds_6 (y := (2, [(2, .int (a2 + (nI 1))), (0, .ref 140), (1, .int a1)], [], am_D x1.2)) hF t_s_M_binds_6 rfl rfl ?_
          refine am_pick [1, 2, 0] rfl ?_
          exact ih _ _ _ h
        · refine am_if_le_f (t := 25) d_X12_binds_20 (by decide) hc hF ?_
          refine am_seg s_M_binds_7 (y := (24, [(0, .ref 140), (1, .int a1), (2, .int a2)], [.int a2], am_D x1.2)) hF t_s_M_binds_7 rfl rfl ?_
          obtain ⟨rfl, rfl⟩ := am_pair h
          exact am_iret d_X12_binds_24 hF hB
def M_binds (τ : am_T) (a1 : Int32) : Option (Int32 × am_T) :=
  M_binds_2 5000 τ a1 (nI 0)
set_option maxRecDepth 20000 in
theorem ok_M_binds {X : am_X} {a1 : Int32} {v : Int32} {τ τ' : am_T} (hF : am_F X "ShareHouseModel" cX12_binds 3) (hR : am_R X 1 22) (hB : am_B X (some .int) (some (.int v)) (am_D τ')) (h : M_binds τ a1 = some (v, τ')) : am_W X 3 (0, [(0, .ref 140), (1, .int a1)], [], am_D τ) := by
  unfold M_binds at h
  refine am_seg s_M_binds_0 (y := (2, [(2, .int (nI 0)), (0, .ref 140), (1, .int a1)], [], am_D τ)) hF t_s_M_binds_0 rfl rfl ?_
  refine am_pick [1, 2, 0] rfl ?_
  exact ok_M_binds_2 hF hR hB _ _ _ _ h
theorem c_M_binds {a1 : Int32} {v : Int32} {τ τ' : am_T} (h : M_binds τ a1 = some (v, τ')) : am_C yX12_binds cX12_binds 3 (some .int) 1 22 [.ref 140, .int a1] (am_D τ) (some (.int v)) (am_D τ') :=
  am_enter (by decide +kernel) (Nat.le_of_ble_eq_true rfl) ⟨Nat.le_refl _, Nat.le_refl _⟩ (fun X hF hR hB => ok_M_binds hF hR hB h)
def s_M_level_0 : List am_Q := [(0, .aload_n 0, 0, 0, 0, .null), (1, .iload_n 1, 0, 0, 0, .null)]
theorem t_s_M_level_0 : s_M_level_0.all (am_ok 12 cX12_level) = true := by decide +kernel
theorem d_X12_level_2 : decode cX12_level 2 = .ok (.invokevirtual 299, 3) := by decide +kernel
theorem d_X12_level_5 : decode cX12_level 5 = .ok (.ifCond .eq 12, 3) := by decide +kernel
def s_M_level_1 : List am_Q := [(17, .iconst (-1), 0, 0, 0, .int (-1 : Int32))]
theorem t_s_M_level_1 : s_M_level_1.all (am_ok 12 cX12_level) = true := by decide +kernel
theorem d_X12_level_18 : decode cX12_level 18 = .ok (.ireturn, 1) := by decide +kernel
def s_M_level_2 : List am_Q := [(8, .iload_n 2, 0, 0, 0, .null), (9, .iconst 0, 0, 0, 0, .int (nI 0)), (10, .iconst 1, 0, 0, 0, .int (nI 1))]
theorem t_s_M_level_2 : s_M_level_2.all (am_ok 12 cX12_level) = true := by decide +kernel
theorem d_X12_level_11 : decode cX12_level 11 = .ok (.invokestatic 51, 3) := by decide +kernel
theorem d_X12_level_14 : decode cX12_level 14 = .ok (.ifCond .ne 5, 3) := by decide +kernel
def s_M_level_3 : List am_Q := [(19, .aload_n 0, 0, 0, 0, .null), (20, .iload_n 1, 0, 0, 0, .null)]
theorem t_s_M_level_3 : s_M_level_3.all (am_ok 12 cX12_level) = true := by decide +kernel
theorem d_X12_level_21 : decode cX12_level 21 = .ok (.invokevirtual 302, 3) := by decide +kernel
def s_M_level_4 : List am_Q := [(24, .istore_n 3, 0, 0, 0, .null), (25, .aload_n 0, 0, 0, 0, .null), (26, .iload_n 3, 0, 0, 0, .null)]
theorem t_s_M_level_4 : s_M_level_4.all (am_ok 12 cX12_level) = true := by decide +kernel
theorem d_X12_level_27 : decode cX12_level 27 = .ok (.invokevirtual 305, 3) := by decide +kernel
def s_M_level_5 : List am_Q := [(30, .istore 4, 0, 0, 0, .null), (32, .iload_n 2, 0, 0, 0, .null)]
theorem t_s_M_level_5 : s_M_level_5.all (am_ok 12 cX12_level) = true := by decide +kernel
theorem d_X12_level_33 : decode cX12_level 33 = .ok (.ifCond .ne 7, 3) := by decide +kernel
def s_M_level_6 : List am_Q := [(40, .iload 4, 0, 0, 0, .null)]
theorem t_s_M_level_6 : s_M_level_6.all (am_ok 12 cX12_level) = true := by decide +kernel
theorem d_X12_level_42 : decode cX12_level 42 = .ok (.ifCond .ge 8, 3) := by decide +kernel
def s_M_level_7 : List am_Q := [(50, .iload 4, 0, 0, 0, .null)]
theorem t_s_M_level_7 : s_M_level_7.all (am_ok 12 cX12_level) = true := by decide +kernel
theorem d_X12_level_52 : decode cX12_level 52 = .ok (.ireturn, 1) := by decide +kernel
def s_M_level_8 : List am_Q := [(45, .bipush (-3), 0, 0, 0, .int (-3 : Int32)), (47, .goto 5, 52, 0, 0, .null)]
theorem t_s_M_level_8 : s_M_level_8.all (am_ok 12 cX12_level) = true := by decide +kernel
def s_M_level_9 : List am_Q := [(36, .iload_n 3, 0, 0, 0, .null), (37, .goto 15, 52, 0, 0, .null)]
theorem t_s_M_level_9 : s_M_level_9.all (am_ok 12 cX12_level) = true := by decide +kernel
def s_M_level_10 : List am_Q := [(17, .iconst (-1), 0, 0, 0, .int (-1 : Int32))]
theorem t_s_M_level_10 : s_M_level_10.all (am_ok 12 cX12_level) = true := by decide +kernel
def M_level (τ : am_T) (a1 : Int32) (a2 : Int32) : Option (Int32 × am_T) :=
  (M_isSet τ a1).bind (fun x1 =>
  if x1.1 = 0 then
  (some ((-1 : Int32), x1.2))
else
  ((M_in x1.2 a2 (nI 0) (nI 1)).bind (fun x2 =>
  if x2.1 = 0 then
  (some ((-1 : Int32), x2.2))
else
  ((M_levelPay x2.2 a1).bind (fun x3 =>
  (M_binds x3.2 x3.1).bind (fun x4 =>
  if a2 = 0 then
  (some (x3.1, x4.2))
else
  (if 0 ≤ x4.1 then
  (some (x4.1, x4.2))
else
  (some ((-3 : Int32), x4.2)))))))))
set_option maxRecDepth 20000 in
theorem ok_M_level {X : am_X} {a1 : Int32} {a2 : Int32} {v : Int32} {τ τ' : am_T} (hF : am_F X "ShareHouseModel" cX12_level 5) (hR : am_R X 2 50) (hB : am_B X (some .int) (some (.int v)) (am_D τ')) (h : M_level τ a1 a2 = some (v, τ')) : am_W X 5 (0, [(0, .ref 140), (1, .int a1), (2, .int a2)], [], am_D τ) := by
  unfold M_level at h
  refine am_seg s_M_level_0 (y := (2, [(0, .ref 140), (1, .int a1), (2, .int a2)], [.int a1, .ref 140], am_D τ)) hF t_s_M_level_0 rfl rfl ?_
  refine am_bd h (fun x1 hx h => ?_)
  refine am_callV (As := [.int a1]) (r := (some (.int x1.1))) (st := []) (σ' := am_D x1.2) (ci := 12) hF hR d_X12_level_2 (c_M_isSet (τ' := x1.2) hx) (Nat.le_refl _) (Nat.le_refl _) wl_M_299 wi_yX12_isSet we_yX12_isSet wn_ShareHouseModel wc_yX12_isSet (Nat.le_of_ble_eq_true rfl) (Nat.le_of_ble_eq_true rfl) rfl rfl wy_yX12_isSet rfl ⟨by decide, by decide⟩ (Nat.le_of_ble_eq_true rfl) ?_
  refine am_ite h (fun hc h => ?_) (fun hc h => ?_)
  · refine am_if_eq_t (t := 17) d_X12_level_5 (by decide) hc hF ?_
    refine am_seg s_M_level_1 (y := (18, [(0, .ref 140), (1, .int a1), (2, .int a2)], [.int (-1 : Int32)], am_D x1.2)) hF t_s_M_level_1 rfl rfl ?_
    obtain ⟨rfl, rfl⟩ := am_pair h
    exact am_iret d_X12_level_18 hF hB
  · refine am_if_eq_f (t := 17) d_X12_level_5 (by decide) hc hF ?_
    refine am_seg s_M_level_2 (y := (11, [(0, .ref 140), (1, .int a1), (2, .int a2)], [.int (nI 1), .int (nI 0), .int a2], am_D x1.2)) hF t_s_M_level_2 rfl rfl ?_
    refine am_bd h (fun x2 hx h => ?_)
    refine am_callS (As := [.int a2, .int (nI 0), .int (nI 1)]) (r := (some (.int x2.1))) (st := []) (σ' := am_D x2.2) hF hR d_X12_level_11 (c_M_in (τ' := x2.2) hx) (Nat.le_refl _) (Nat.le_refl _) wl_M_51 ws_yX12_in wn_ShareHouseModel wc_yX12_in wy_yX12_in rfl ⟨by decide, by decide⟩ (Nat.le_of_ble_eq_true rfl) ?_
    refine am_ite h (fun hc h => ?_) (fun hc h => ?_)
    · refine am_if_ne_f (t := 19) d_X12_level_14 (by decide) hc hF ?_
      refine am_seg s_M_level_10 (y := (18, [(0, .ref 140), (1, .int a1), (2, .int a2)], [.int (-1 : Int32)], am_D x2.2)) hF t_s_M_level_10 rfl rfl ?_
      obtain ⟨rfl, rfl⟩ := am_pair h
      exact am_iret d_X12_level_18 hF hB
    · refine am_if_ne_t (t := 19) d_X12_level_14 (by decide) hc hF ?_
      refine am_seg s_M_level_3 (y := (21, [(0, .ref 140), (1, .int a1), (2, .int a2)], [.int a1, .ref 140], am_D x2.2)) hF t_s_M_level_3 rfl rfl ?_
      refine am_bd h (fun x3 hx h => ?_)
      refine am_callV (As := [.int a1]) (r := (some (.int x3.1))) (st := []) (σ' := am_D x3.2) (ci := 12) hF hR d_X12_level_21 (c_M_levelPay (τ' := x3.2) hx) (Nat.le_refl _) (Nat.le_refl _) wl_M_302 wi_yX12_levelPay we_yX12_levelPay wn_ShareHouseModel wc_yX12_levelPay (Nat.le_of_ble_eq_true rfl) (Nat.le_of_ble_eq_true rfl) rfl rfl wy_yX12_levelPay rfl ⟨by decide, by decide⟩ (Nat.le_of_ble_eq_true rfl) ?_
      refine am_seg s_M_level_4 (y := (27, [(3, .int x3.1), (0, .ref 140), (1, .int a1), (2, .int a2)], [.int x3.1, .ref 140], am_D x3.2)) hF t_s_M_level_4 rfl rfl ?_
      refine am_bd h (fun x4 hx h => ?_)
      refine am_callV (As := [.int x3.1]) (r := (some (.int x4.1))) (st := []) (σ' := am_D x4.2) (ci := 12) hF hR d_X12_level_27 (c_M_binds (τ' := x4.2) hx) (Nat.le_refl _) (Nat.le_refl _) wl_M_305 wi_yX12_binds we_yX12_binds wn_ShareHouseModel wc_yX12_binds (Nat.le_of_ble_eq_true rfl) (Nat.le_of_ble_eq_true rfl) rfl rfl wy_yX12_binds rfl ⟨by decide, by decide⟩ (Nat.le_of_ble_eq_true rfl) ?_
      refine am_seg s_M_level_5 (y := (33, [(4, .int x4.1), (3, .int x3.1), (0, .ref 140), (1, .int a1), (2, .int a2)], [.int a2], am_D x4.2)) hF t_s_M_level_5 rfl rfl ?_
      refine am_ite h (fun hc h => ?_) (fun hc h => ?_)
      · refine am_if_ne_f (t := 40) d_X12_level_33 (by decide) hc hF ?_
        refine am_seg s_M_level_9 (y := (52, [(4, .int x4.1), (3, .int x3.1), (0, .ref 140), (1, .int a1), (2, .int a2)], [.int x3.1], am_D x4.2)) hF t_s_M_level_9 rfl rfl ?_
        obtain ⟨rfl, rfl⟩ := am_pair h
        exact am_iret d_X12_level_52 hF hB
      · refine am_if_ne_t (t := 40) d_X12_level_33 (by decide) hc hF ?_
        refine am_seg s_M_level_6 (y := (42, [(4, .int x4.1), (3, .int x3.1), (0, .ref 140), (1, .int a1), (2, .int a2)], [.int x4.1], am_D x4.2)) hF t_s_M_level_6 rfl rfl ?_
        refine am_ite h (fun hc h => ?_) (fun hc h => ?_)
        · refine am_if_ge_t (t := 50) d_X12_level_42 (by decide) hc hF ?_
          refine am_seg s_M_level_7 (y := (52, [(4, .int x4.1), (3, .int x3.1), (0, .ref 140), (1, .int a1), (2, .int a2)], [.int x4.1], am_D x4.2)) hF t_s_M_level_7 rfl rfl ?_
          obtain ⟨rfl, rfl⟩ := am_pair h
          exact am_iret d_X12_level_52 hF hB
        · refine am_if_ge_f (t := 50) d_X12_level_42 (by decide) hc hF ?_
          refine am_seg s_M_level_8 (y := (52, [(4, .int x4.1), (3, .int x3.1), (0, .ref 140), (1, .int a1), (2, .int a2)], [.int (-3 : Int32)], am_D x4.2)) hF t_s_M_level_8 rfl rfl ?_
          obtain ⟨rfl, rfl⟩ := am_pair h
          exact am_iret d_X12_level_52 hF hB
theorem c_M_level {a1 : Int32} {a2 : Int32} {v : Int32} {τ τ' : am_T} (h : M_level τ a1 a2 = some (v, τ')) : am_C yX12_level cX12_level 5 (some .int) 2 50 [.ref 140, .int a1, .int a2] (am_D τ) (some (.int v)) (am_D τ') :=
  am_enter (by decide +kernel) (Nat.le_of_ble_eq_true rfl) ⟨Nat.le_refl _, Nat.le_refl _⟩ (fun X hF hR hB => ok_M_level hF hR hB h)
def s_M_left_0 : List am_Q := [(0, .aload_n 0, 0, 0, 0, .null), (1, .iload_n 1, 0, 0, 0, .null)]
theorem t_s_M_left_0 : s_M_left_0.all (am_ok 12 cX12_left) = true := by decide +kernel
theorem d_X12_left_2 : decode cX12_left 2 = .ok (.invokevirtual 299, 3) := by decide +kernel
theorem d_X12_left_5 : decode cX12_left 5 = .ok (.ifCond .eq 23, 3) := by decide +kernel
def s_M_left_1 : List am_Q := [(28, .ldc_w 263, 0, 0, 32, .int (-1000000000 : Int32))]
theorem t_s_M_left_1 : s_M_left_1.all (am_ok 12 cX12_left) = true := by decide +kernel
theorem d_X12_left_31 : decode cX12_left 31 = .ok (.ireturn, 1) := by decide +kernel
def s_M_left_2 : List am_Q := [(8, .iload_n 2, 0, 0, 0, .null), (9, .iconst 0, 0, 0, 0, .int (nI 0)), (10, .ldc 222, 0, 0, 30, .int (nI 99999))]
theorem t_s_M_left_2 : s_M_left_2.all (am_ok 12 cX12_left) = true := by decide +kernel
theorem d_X12_left_12 : decode cX12_left 12 = .ok (.invokestatic 51, 3) := by decide +kernel
theorem d_X12_left_15 : decode cX12_left 15 = .ok (.ifCond .eq 13, 3) := by decide +kernel
def s_M_left_3 : List am_Q := [(28, .ldc_w 263, 0, 0, 32, .int (-1000000000 : Int32))]
theorem t_s_M_left_3 : s_M_left_3.all (am_ok 12 cX12_left) = true := by decide +kernel
def s_M_left_4 : List am_Q := [(18, .iload_n 3, 0, 0, 0, .null), (19, .iconst 0, 0, 0, 0, .int (nI 0)), (20, .bipush 29, 0, 0, 0, .int (nI 29))]
theorem t_s_M_left_4 : s_M_left_4.all (am_ok 12 cX12_left) = true := by decide +kernel
theorem d_X12_left_22 : decode cX12_left 22 = .ok (.invokestatic 51, 3) := by decide +kernel
theorem d_X12_left_25 : decode cX12_left 25 = .ok (.ifCond .ne 7, 3) := by decide +kernel
def s_M_left_5 : List am_Q := [(32, .aload_n 0, 0, 0, 0, .null), (33, .iload_n 1, 0, 0, 0, .null)]
theorem t_s_M_left_5 : s_M_left_5.all (am_ok 12 cX12_left) = true := by decide +kernel
theorem d_X12_left_34 : decode cX12_left 34 = .ok (.invokevirtual 293, 3) := by decide +kernel
def s_M_left_6 : List am_Q := [(37, .aload_n 0, 0, 0, 0, .null), (38, .getfield 7, 12, 0, 152, .null), (41, .bipush 14, 0, 0, 0, .int (nI 14))]
theorem t_s_M_left_6 : s_M_left_6.all (am_ok 12 cX12_left) = true := by decide +kernel
theorem d_X12_left_43 : decode cX12_left 43 = .ok (.iaload, 1) := by decide +kernel
def s_M_left_7 : List am_Q := [(44, .iload_n 3, 0, 0, 0, .null), (45, .iconst 1, 0, 0, 0, .int (nI 1)), (46, .iadd, 0, 0, 0, .null), (47, .iload_n 2, 0, 0, 0, .null), (48, .imul, 0, 0, 0, .null), (49, .iadd, 0, 0, 0, .null), (50, .aload_n 0, 0, 0, 0, .null), (51, .getfield 38, 12, 25, 177, .null), (54, .iload_n 3, 0, 0, 0, .null)]
theorem t_s_M_left_7 : s_M_left_7.all (am_ok 12 cX12_left) = true := by decide +kernel
theorem d_X12_left_55 : decode cX12_left 55 = .ok (.iaload, 1) := by decide +kernel
def s_M_left_8 : List am_Q := [(56, .isub, 0, 0, 0, .null)]
theorem t_s_M_left_8 : s_M_left_8.all (am_ok 12 cX12_left) = true := by decide +kernel
theorem d_X12_left_57 : decode cX12_left 57 = .ok (.ireturn, 1) := by decide +kernel
def s_M_left_9 : List am_Q := [(28, .ldc_w 263, 0, 0, 32, .int (-1000000000 : Int32))]
theorem t_s_M_left_9 : s_M_left_9.all (am_ok 12 cX12_left) = true := by decide +kernel
def M_left (τ : am_T) (a1 : Int32) (a2 : Int32) (a3 : Int32) : Option (Int32 × am_T) :=
  (M_isSet τ a1).bind (fun x1 =>
  if x1.1 = 0 then
  (some ((-1000000000 : Int32), x1.2))
else
  ((M_in x1.2 a2 (nI 0) (nI 99999)).bind (fun x2 =>
  if x2.1 = 0 then
  (some ((-1000000000 : Int32), x2.2))
else
  ((M_in x2.2 a3 (nI 0) (nI 29)).bind (fun x3 =>
  if x3.1 = 0 then
  (some ((-1000000000 : Int32), x3.2))
else
  ((M_findSpent x3.2 a1).bind (fun x4 =>
  am_g (am_in a3 30) (some ((((x4.1 141 14) + ((a3 + (nI 1)) * a2)) - (x4.1 150 (a3.toNatClampNeg))), x4)))))))))
set_option maxRecDepth 20000 in
theorem ok_M_left {X : am_X} {a1 : Int32} {a2 : Int32} {a3 : Int32} {v : Int32} {τ τ' : am_T} (hF : am_F X "ShareHouseModel" cX12_left 4) (hR : am_R X 1 25) (hB : am_B X (some .int) (some (.int v)) (am_D τ')) (h : M_left τ a1 a2 a3 = some (v, τ')) : am_W X 4 (0, [(0, .ref 140), (1, .int a1), (2, .int a2), (3, .int a3)], [], am_D τ) := by
  unfold M_left at h
  refine am_seg s_M_left_0 (y := (2, [(0, .ref 140), (1, .int a1), (2, .int a2), (3, .int a3)], [.int a1, .ref 140], am_D τ)) hF t_s_M_left_0 rfl rfl ?_
  refine am_bd h (fun x1 hx h => ?_)
  refine am_callV (As := [.int a1]) (r := (some (.int x1.1))) (st := []) (σ' := am_D x1.2) (ci := 12) hF hR d_X12_left_2 (c_M_isSet (τ' := x1.2) hx) (Nat.le_refl _) (Nat.le_refl _) wl_M_299 wi_yX12_isSet we_yX12_isSet wn_ShareHouseModel wc_yX12_isSet (Nat.le_of_ble_eq_true rfl) (Nat.le_of_ble_eq_true rfl) rfl rfl wy_yX12_isSet rfl ⟨by decide, by decide⟩ (Nat.le_of_ble_eq_true rfl) ?_
  refine am_ite h (fun hc h => ?_) (fun hc h => ?_)
  · refine am_if_eq_t (t := 28) d_X12_left_5 (by decide) hc hF ?_
    refine am_seg s_M_left_1 (y := (31, [(0, .ref 140), (1, .int a1), (2, .int a2), (3, .int a3)], [.int (-1000000000 : Int32)], am_D x1.2)) hF t_s_M_left_1 rfl rfl ?_
    obtain ⟨rfl, rfl⟩ := am_pair h
    exact am_iret d_X12_left_31 hF hB
  · refine am_if_eq_f (t := 28) d_X12_left_5 (by decide) hc hF ?_
    refine am_seg s_M_left_2 (y := (12, [(0, .ref 140), (1, .int a1), (2, .int a2), (3, .int a3)], [.int (nI 99999), .int (nI 0), .int a2], am_D x1.2)) hF t_s_M_left_2 rfl rfl ?_
    refine am_bd h (fun x2 hx h => ?_)
    refine am_callS (As := [.int a2, .int (nI 0), .int (nI 99999)]) (r := (some (.int x2.1))) (st := []) (σ' := am_D x2.2) hF hR d_X12_left_12 (c_M_in (τ' := x2.2) hx) (Nat.le_refl _) (Nat.le_refl _) wl_M_51 ws_yX12_in wn_ShareHouseModel wc_yX12_in wy_yX12_in rfl ⟨by decide, by decide⟩ (Nat.le_of_ble_eq_true rfl) ?_
    refine am_ite h (fun hc h => ?_) (fun hc h => ?_)
    · refine am_if_eq_t (t := 28) d_X12_left_15 (by decide) hc hF ?_
      refine am_seg s_M_left_3 (y := (31, [(0, .ref 140), (1, .int a1), (2, .int a2), (3, .int a3)], [.int (-1000000000 : Int32)], am_D x2.2)) hF t_s_M_left_3 rfl rfl ?_
      obtain ⟨rfl, rfl⟩ := am_pair h
      exact am_iret d_X12_left_31 hF hB
    · refine am_if_eq_f (t := 28) d_X12_left_15 (by decide) hc hF ?_
      refine am_seg s_M_left_4 (y := (22, [(0, .ref 140), (1, .int a1), (2, .int a2), (3, .int a3)], [.int (nI 29), .int (nI 0), .int a3], am_D x2.2)) hF t_s_M_left_4 rfl rfl ?_
      refine am_bd h (fun x3 hx h => ?_)
      refine am_callS (As := [.int a3, .int (nI 0), .int (nI 29)]) (r := (some (.int x3.1))) (st := []) (σ' := am_D x3.2) hF hR d_X12_left_22 (c_M_in (τ' := x3.2) hx) (Nat.le_refl _) (Nat.le_refl _) wl_M_51 ws_yX12_in wn_ShareHouseModel wc_yX12_in wy_yX12_in rfl ⟨by decide, by decide⟩ (Nat.le_of_ble_eq_true rfl) ?_
      refine am_ite h (fun hc h => ?_) (fun hc h => ?_)
      · refine am_if_ne_f (t := 32) d_X12_left_25 (by decide) hc hF ?_
        refine am_seg s_M_left_9 (y := (31, [(0, .ref 140), (1, .int a1), (2, .int a2), (3, .int a3)], [.int (-1000000000 : Int32)], am_D x3.2)) hF t_s_M_left_9 rfl rfl ?_
        obtain ⟨rfl, rfl⟩ := am_pair h
        exact am_iret d_X12_left_31 hF hB
      · refine am_if_ne_t (t := 32) d_X12_left_25 (by decide) hc hF ?_
        refine am_seg s_M_left_5 (y := (34, [(0, .ref 140), (1, .int a1), (2, .int a2), (3, .int a3)], [.int a1, .ref 140], am_D x3.2)) hF t_s_M_left_5 rfl rfl ?_
        refine am_bd h (fun x4 hx h => ?_)
        refine am_callV (As := [.int a1]) (r := none) (st := []) (σ' := am_D x4) (ci := 12) hF hR d_X12_left_34 (c_M_findSpent (τ' := x4) hx) (Nat.le_refl _) (Nat.le_refl _) wl_M_293 wi_yX12_findSpent we_yX12_findSpent wn_ShareHouseModel wc_yX12_findSpent (Nat.le_of_ble_eq_true rfl) (Nat.le_of_ble_eq_true rfl) rfl rfl wy_yX12_findSpent rfl ⟨by decide, by decide⟩ (Nat.le_of_ble_eq_true rfl) ?_
        refine am_seg s_M_left_6 (y := (43, [(0, .ref 140), (1, .int a1), (2, .int a2), (3, .int a3)], [.int (nI 14), .ref 141], am_D x4)) hF t_s_M_left_6 rfl rfl ?_
        refine am_iald (n := 1060) (j := 14) d_X12_left_43 (Nat.le_of_ble_eq_true rfl) (Nat.le_of_ble_eq_true rfl) rfl (by decide) rfl hF ?_
        refine am_seg s_M_left_7 (y := (55, [(0, .ref 140), (1, .int a1), (2, .int a2), (3, .int a3)], [.int a3, .ref 150, .int ((x4.1 141 14) + ((a3 + (nI 1)) * a2))], am_D x4)) hF t_s_M_left_7 rfl rfl ?_
        refine am_gd h (fun hi h => ?_)
        refine am_iald (n := 30) (j := (a3.toNatClampNeg)) d_X12_left_55 (Nat.le_of_ble_eq_true rfl) (Nat.le_of_ble_eq_true rfl) rfl hi rfl hF ?_
        refine am_seg s_M_left_8 (y := (57, [(0, .ref 140), (1, .int a1), (2, .int a2), (3, .int a3)], [.int (((x4.1 141 14) + ((a3 + (nI 1)) * a2)) - (x4.1 150 (a3.toNatClampNeg)))], am_D x4)) hF t_s_M_left_8 rfl rfl ?_
        obtain ⟨rfl, rfl⟩ := am_pair h
        exact am_iret d_X12_left_57 hF hB
theorem c_M_left {a1 : Int32} {a2 : Int32} {a3 : Int32} {v : Int32} {τ τ' : am_T} (h : M_left τ a1 a2 a3 = some (v, τ')) : am_C yX12_left cX12_left 4 (some .int) 1 25 [.ref 140, .int a1, .int a2, .int a3] (am_D τ) (some (.int v)) (am_D τ') :=
  am_enter (by decide +kernel) (Nat.le_of_ble_eq_true rfl) ⟨Nat.le_refl _, Nat.le_refl _⟩ (fun X hF hR hB => ok_M_left hF hR hB h)
def s_M_ones_0 : List am_Q := [(0, .iconst 0, 0, 0, 0, .int (nI 0)), (1, .istore_n 1, 0, 0, 0, .null), (2, .iconst 0, 0, 0, 0, .int (nI 0)), (3, .istore_n 2, 0, 0, 0, .null)]
theorem t_s_M_ones_0 : s_M_ones_0.all (am_ok 12 cX12_ones) = true := by decide +kernel
def s_M_ones_1 : List am_Q := [(4, .iload_n 2, 0, 0, 0, .null), (5, .bipush 7, 0, 0, 0, .int (nI 7))]
theorem t_s_M_ones_1 : s_M_ones_1.all (am_ok 12 cX12_ones) = true := by decide +kernel
theorem d_X12_ones_7 : decode cX12_ones 7 = .ok (.if_icmp .ge 17, 3) := by decide +kernel
def s_M_ones_2 : List am_Q := [(24, .iload_n 1, 0, 0, 0, .null)]
theorem t_s_M_ones_2 : s_M_ones_2.all (am_ok 12 cX12_ones) = true := by decide +kernel
theorem d_X12_ones_25 : decode cX12_ones 25 = .ok (.ireturn, 1) := by decide +kernel
def s_M_ones_3 : List am_Q := [(10, .iload_n 1, 0, 0, 0, .null), (11, .iload_n 0, 0, 0, 0, .null), (12, .iload_n 2, 0, 0, 0, .null), (13, .ishr, 0, 0, 0, .null), (14, .iconst 1, 0, 0, 0, .int (nI 1)), (15, .iand, 0, 0, 0, .null), (16, .iadd, 0, 0, 0, .null), (17, .istore_n 1, 0, 0, 0, .null), (18, .iinc 2 1, 0, 0, 0, .int (nI 1)), (21, .goto (-17), 4, 0, 0, .null)]
theorem t_s_M_ones_3 : s_M_ones_3.all (am_ok 12 cX12_ones) = true := by decide +kernel
def M_ones_4 : Nat → am_T → Int32 → Int32 → Int32 → Option (Int32 × am_T)
  | 0, _, _, _, _ => none
  | n + 1, τ, a0, a1, a2 =>
    if (nI 7) ≤ a2 then
  (some (a1, τ))
else
  ((M_ones_4 n) τ a0 (a1 + ((a0 >>> (a2 &&& 31)) &&& (nI 1))) (a2 + (nI 1)))
set_option maxRecDepth 20000 in
theorem ok_M_ones_4 {X : am_X} {v : Int32} {τ' : am_T} (hF : am_F X "ShareHouseModel" cX12_ones 3) (hR : am_R X 0 0) (hB : am_B X (some .int) (some (.int v)) (am_D τ')) : ∀ (n : Nat) (τ : am_T) (a0 : Int32) (a1 : Int32) (a2 : Int32), M_ones_4 n τ a0 a1 a2 = some (v, τ') → am_W X 3 (4, [(0, .int a0), (1, .int a1), (2, .int a2)], [], am_D τ) := by
  intro n
  induction n with
  | zero => intro τ a0 a1 a2 h; unfold M_ones_4 at h; cases h
  | succ n ih =>
    intro τ a0 a1 a2 h
    unfold M_ones_4 at h
    refine am_seg s_M_ones_1 (y := (7, [(0, .int a0), (1, .int a1), (2, .int a2)], [.int (nI 7), .int a2], am_D τ)) hF t_s_M_ones_1 rfl rfl ?_
    refine am_ite h (fun hc h => ?_) (fun hc h => ?_)
    · refine am_icmp_ge_t (t := 24) d_X12_ones_7 (by decide) hc hF ?_
      refine am_seg s_M_ones_2 (y := (25, [(0, .int a0), (1, .int a1), (2, .int a2)], [.int a1], am_D τ)) hF t_s_M_ones_2 rfl rfl ?_
      obtain ⟨rfl, rfl⟩ := am_pair h
      exact am_iret d_X12_ones_25 hF hB
    · refine am_icmp_ge_f (t := 24) d_X12_ones_7 (by decide) hc hF ?_
      refine am_seg s_M_ones_3 (y := (4, [(2, .int (a2 + (nI 1))), (1, .int (a1 + ((a0 >>> (a2 &&& 31)) &&& (nI 1)))), (0, .int a0)], [], am_D τ)) hF t_s_M_ones_3 rfl rfl ?_
      refine am_pick [2, 1, 0] rfl ?_
      exact ih _ _ _ _ h
def M_ones (τ : am_T) (a0 : Int32) : Option (Int32 × am_T) :=
  M_ones_4 5000 τ a0 (nI 0) (nI 0)
set_option maxRecDepth 20000 in
theorem ok_M_ones {X : am_X} {a0 : Int32} {v : Int32} {τ τ' : am_T} (hF : am_F X "ShareHouseModel" cX12_ones 3) (hR : am_R X 0 0) (hB : am_B X (some .int) (some (.int v)) (am_D τ')) (h : M_ones τ a0 = some (v, τ')) : am_W X 3 (0, [(0, .int a0)], [], am_D τ) := by
  unfold M_ones at h
  refine am_seg s_M_ones_0 (y := (4, [(2, .int (nI 0)), (1, .int (nI 0)), (0, .int a0)], [], am_D τ)) hF t_s_M_ones_0 rfl rfl ?_
  refine am_pick [2, 1, 0] rfl ?_
  exact ok_M_ones_4 hF hR hB _ _ _ _ _ h
theorem c_M_ones {a0 : Int32} {v : Int32} {τ τ' : am_T} (h : M_ones τ a0 = some (v, τ')) : am_C yX12_ones cX12_ones 3 (some .int) 0 0 [.int a0] (am_D τ) (some (.int v)) (am_D τ') :=
  am_enter (by decide +kernel) (Nat.le_of_ble_eq_true rfl) ⟨Nat.le_refl _, Nat.le_refl _⟩ (fun X hF hR hB => ok_M_ones hF hR hB h)
def s_M_worst_0 : List am_Q := [(0, .iload_n 1, 0, 0, 0, .null), (1, .iconst 0, 0, 0, 0, .int (nI 0)), (2, .bipush 7, 0, 0, 0, .int (nI 7))]
theorem t_s_M_worst_0 : s_M_worst_0.all (am_ok 12 cX12_worst) = true := by decide +kernel
theorem d_X12_worst_4 : decode cX12_worst 4 = .ok (.invokestatic 51, 3) := by decide +kernel
theorem d_X12_worst_7 : decode cX12_worst 7 = .ok (.ifCond .ne 5, 3) := by decide +kernel
def s_M_worst_1 : List am_Q := [(12, .aload_n 0, 0, 0, 0, .null), (13, .iconst 0, 0, 0, 0, .int (nI 0)), (14, .putfield 41, 12, 26, 178, .null), (17, .iconst 0, 0, 0, 0, .int (nI 0)), (18, .istore_n 2, 0, 0, 0, .null), (19, .iconst (-1), 0, 0, 0, .int (-1 : Int32)), (20, .istore_n 3, 0, 0, 0, .null), (21, .iconst 0, 0, 0, 0, .int (nI 0)), (22, .istore 4, 0, 0, 0, .null)]
theorem t_s_M_worst_1 : s_M_worst_1.all (am_ok 12 cX12_worst) = true := by decide +kernel
def s_M_worst_2 : List am_Q := [(24, .iload 4, 0, 0, 0, .null), (26, .iconst 1, 0, 0, 0, .int (nI 1)), (27, .aload_n 0, 0, 0, 0, .null), (28, .getfield 7, 12, 0, 152, .null), (31, .bipush 8, 0, 0, 0, .int (nI 8))]
theorem t_s_M_worst_2 : s_M_worst_2.all (am_ok 12 cX12_worst) = true := by decide +kernel
theorem d_X12_worst_33 : decode cX12_worst 33 = .ok (.iaload, 1) := by decide +kernel
def s_M_worst_3 : List am_Q := [(34, .ishl, 0, 0, 0, .null)]
theorem t_s_M_worst_3 : s_M_worst_3.all (am_ok 12 cX12_worst) = true := by decide +kernel
theorem d_X12_worst_35 : decode cX12_worst 35 = .ok (.if_icmp .ge 170, 3) := by decide +kernel
def s_M_worst_4 : List am_Q := [(205, .aload_n 0, 0, 0, 0, .null), (206, .aload_n 0, 0, 0, 0, .null), (207, .getfield 41, 12, 26, 178, .null), (210, .putfield 311, 12, 28, 180, .null), (213, .iconst 0, 0, 0, 0, .int (nI 0)), (214, .istore 4, 0, 0, 0, .null)]
theorem t_s_M_worst_4 : s_M_worst_4.all (am_ok 12 cX12_worst) = true := by decide +kernel
def s_M_worst_5 : List am_Q := [(216, .iload 4, 0, 0, 0, .null), (218, .iconst 3, 0, 0, 0, .int (nI 3)), (219, .aload_n 0, 0, 0, 0, .null), (220, .getfield 41, 12, 26, 178, .null), (223, .imul, 0, 0, 0, .null)]
theorem t_s_M_worst_5 : s_M_worst_5.all (am_ok 12 cX12_worst) = true := by decide +kernel
theorem d_X12_worst_224 : decode cX12_worst 224 = .ok (.if_icmp .ge 23, 3) := by decide +kernel
def s_M_worst_6 : List am_Q := [(247, .iload_n 2, 0, 0, 0, .null)]
theorem t_s_M_worst_6 : s_M_worst_6.all (am_ok 12 cX12_worst) = true := by decide +kernel
theorem d_X12_worst_248 : decode cX12_worst 248 = .ok (.ireturn, 1) := by decide +kernel
def s_M_worst_7 : List am_Q := [(227, .aload_n 0, 0, 0, 0, .null), (228, .getfield 48, 12, 29, 181, .null), (231, .iload 4, 0, 0, 0, .null), (233, .aload_n 0, 0, 0, 0, .null), (234, .getfield 45, 12, 27, 179, .null), (237, .iload 4, 0, 0, 0, .null)]
theorem t_s_M_worst_7 : s_M_worst_7.all (am_ok 12 cX12_worst) = true := by decide +kernel
theorem d_X12_worst_239 : decode cX12_worst 239 = .ok (.iaload, 1) := by decide +kernel
theorem d_X12_worst_240 : decode cX12_worst 240 = .ok (.iastore, 1) := by decide +kernel
def s_M_worst_8 : List am_Q := [(241, .iinc 4 1, 0, 0, 0, .int (nI 1)), (244, .goto (-28), 216, 0, 0, .null)]
theorem t_s_M_worst_8 : s_M_worst_8.all (am_ok 12 cX12_worst) = true := by decide +kernel
def s_M_worst_9 : List am_Q := [(38, .iload 4, 0, 0, 0, .null)]
theorem t_s_M_worst_9 : s_M_worst_9.all (am_ok 12 cX12_worst) = true := by decide +kernel
theorem d_X12_worst_40 : decode cX12_worst 40 = .ok (.invokestatic 308, 3) := by decide +kernel
def s_M_worst_10 : List am_Q := [(43, .iload_n 1, 0, 0, 0, .null)]
theorem t_s_M_worst_10 : s_M_worst_10.all (am_ok 12 cX12_worst) = true := by decide +kernel
theorem d_X12_worst_44 : decode cX12_worst 44 = .ok (.if_icmp .le 6, 3) := by decide +kernel
def s_M_worst_11 : List am_Q := [(50, .aload_n 0, 0, 0, 0, .null), (51, .iload 4, 0, 0, 0, .null)]
theorem t_s_M_worst_11 : s_M_worst_11.all (am_ok 12 cX12_worst) = true := by decide +kernel
theorem d_X12_worst_53 : decode cX12_worst 53 = .ok (.invokevirtual 302, 3) := by decide +kernel
def s_M_worst_12 : List am_Q := [(56, .istore 5, 0, 0, 0, .null), (58, .aload_n 0, 0, 0, 0, .null), (59, .getfield 45, 12, 27, 179, .null), (62, .iconst 3, 0, 0, 0, .int (nI 3)), (63, .aload_n 0, 0, 0, 0, .null), (64, .getfield 41, 12, 26, 178, .null), (67, .imul, 0, 0, 0, .null), (68, .iload 4, 0, 0, 0, .null)]
theorem t_s_M_worst_12 : s_M_worst_12.all (am_ok 12 cX12_worst) = true := by decide +kernel
theorem d_X12_worst_70 : decode cX12_worst 70 = .ok (.iastore, 1) := by decide +kernel
def s_M_worst_13 : List am_Q := [(71, .aload_n 0, 0, 0, 0, .null), (72, .getfield 45, 12, 27, 179, .null), (75, .iconst 3, 0, 0, 0, .int (nI 3)), (76, .aload_n 0, 0, 0, 0, .null), (77, .getfield 41, 12, 26, 178, .null), (80, .imul, 0, 0, 0, .null), (81, .iconst 1, 0, 0, 0, .int (nI 1)), (82, .iadd, 0, 0, 0, .null), (83, .iload 5, 0, 0, 0, .null)]
theorem t_s_M_worst_13 : s_M_worst_13.all (am_ok 12 cX12_worst) = true := by decide +kernel
theorem d_X12_worst_85 : decode cX12_worst 85 = .ok (.iastore, 1) := by decide +kernel
def s_M_worst_14 : List am_Q := [(86, .aload_n 0, 0, 0, 0, .null), (87, .getfield 45, 12, 27, 179, .null), (90, .iconst 3, 0, 0, 0, .int (nI 3)), (91, .aload_n 0, 0, 0, 0, .null), (92, .getfield 41, 12, 26, 178, .null), (95, .imul, 0, 0, 0, .null), (96, .iconst 2, 0, 0, 0, .int (nI 2)), (97, .iadd, 0, 0, 0, .null), (98, .aload_n 0, 0, 0, 0, .null), (99, .iload 5, 0, 0, 0, .null)]
theorem t_s_M_worst_14 : s_M_worst_14.all (am_ok 12 cX12_worst) = true := by decide +kernel
theorem d_X12_worst_101 : decode cX12_worst 101 = .ok (.invokevirtual 305, 3) := by decide +kernel
theorem d_X12_worst_104 : decode cX12_worst 104 = .ok (.iastore, 1) := by decide +kernel
def s_M_worst_15 : List am_Q := [(105, .aload_n 0, 0, 0, 0, .null), (106, .dup, 0, 0, 0, .null), (107, .getfield 41, 12, 26, 178, .null), (110, .iconst 1, 0, 0, 0, .int (nI 1)), (111, .iadd, 0, 0, 0, .null), (112, .putfield 41, 12, 26, 178, .null), (115, .iload 4, 0, 0, 0, .null), (117, .iload_n 2, 0, 0, 0, .null), (118, .ixor, 0, 0, 0, .null), (119, .istore 6, 0, 0, 0, .null), (121, .iload 6, 0, 0, 0, .null), (123, .iload 6, 0, 0, 0, .null), (125, .ineg, 0, 0, 0, .null), (126, .iand, 0, 0, 0, .null), (127, .iload 4, 0, 0, 0, .null), (129, .iand, 0, 0, 0, .null)]
theorem t_s_M_worst_15 : s_M_worst_15.all (am_ok 12 cX12_worst) = true := by decide +kernel
theorem d_X12_worst_130 : decode cX12_worst 130 = .ok (.ifCond .eq 7, 3) := by decide +kernel
def s_M_worst_16 : List am_Q := [(137, .iconst 0, 0, 0, 0, .int (nI 0))]
theorem t_s_M_worst_16 : s_M_worst_16.all (am_ok 12 cX12_worst) = true := by decide +kernel
def s_M_worst_17 : List am_Q := [(138, .istore 7, 0, 0, 0, .null), (140, .iload 4, 0, 0, 0, .null)]
theorem t_s_M_worst_17 : s_M_worst_17.all (am_ok 12 cX12_worst) = true := by decide +kernel
theorem d_X12_worst_142 : decode cX12_worst 142 = .ok (.invokestatic 308, 3) := by decide +kernel
def s_M_worst_18 : List am_Q := [(145, .iload_n 2, 0, 0, 0, .null)]
theorem t_s_M_worst_18 : s_M_worst_18.all (am_ok 12 cX12_worst) = true := by decide +kernel
theorem d_X12_worst_146 : decode cX12_worst 146 = .ok (.invokestatic 308, 3) := by decide +kernel
theorem d_X12_worst_149 : decode cX12_worst 149 = .ok (.if_icmp .lt 20, 3) := by decide +kernel
def s_M_worst_19 : List am_Q := [(169, .iconst 1, 0, 0, 0, .int (nI 1)), (170, .goto 4, 174, 0, 0, .null)]
theorem t_s_M_worst_19 : s_M_worst_19.all (am_ok 12 cX12_worst) = true := by decide +kernel
def s_M_worst_20 : List am_Q := [(174, .istore 8, 0, 0, 0, .null), (176, .iload 5, 0, 0, 0, .null), (178, .iload_n 3, 0, 0, 0, .null)]
theorem t_s_M_worst_20 : s_M_worst_20.all (am_ok 12 cX12_worst) = true := by decide +kernel
theorem d_X12_worst_179 : decode cX12_worst 179 = .ok (.if_icmp .gt 14, 3) := by decide +kernel
def s_M_worst_21 : List am_Q := [(193, .iload 4, 0, 0, 0, .null), (195, .istore_n 2, 0, 0, 0, .null), (196, .iload 5, 0, 0, 0, .null), (198, .istore_n 3, 0, 0, 0, .null), (199, .iinc 4 1, 0, 0, 0, .int (nI 1)), (202, .goto (-178), 24, 0, 0, .null)]
theorem t_s_M_worst_21 : s_M_worst_21.all (am_ok 12 cX12_worst) = true := by decide +kernel
def s_M_worst_22 : List am_Q := [(182, .iload 5, 0, 0, 0, .null), (184, .iload_n 3, 0, 0, 0, .null)]
theorem t_s_M_worst_22 : s_M_worst_22.all (am_ok 12 cX12_worst) = true := by decide +kernel
theorem d_X12_worst_185 : decode cX12_worst 185 = .ok (.if_icmp .ne 14, 3) := by decide +kernel
def s_M_worst_23 : List am_Q := [(199, .iinc 4 1, 0, 0, 0, .int (nI 1)), (202, .goto (-178), 24, 0, 0, .null)]
theorem t_s_M_worst_23 : s_M_worst_23.all (am_ok 12 cX12_worst) = true := by decide +kernel
def s_M_worst_24 : List am_Q := [(188, .iload 8, 0, 0, 0, .null)]
theorem t_s_M_worst_24 : s_M_worst_24.all (am_ok 12 cX12_worst) = true := by decide +kernel
theorem d_X12_worst_190 : decode cX12_worst 190 = .ok (.ifCond .eq 9, 3) := by decide +kernel
def s_M_worst_25 : List am_Q := [(199, .iinc 4 1, 0, 0, 0, .int (nI 1)), (202, .goto (-178), 24, 0, 0, .null)]
theorem t_s_M_worst_25 : s_M_worst_25.all (am_ok 12 cX12_worst) = true := by decide +kernel
def s_M_worst_26 : List am_Q := [(193, .iload 4, 0, 0, 0, .null), (195, .istore_n 2, 0, 0, 0, .null), (196, .iload 5, 0, 0, 0, .null), (198, .istore_n 3, 0, 0, 0, .null), (199, .iinc 4 1, 0, 0, 0, .int (nI 1)), (202, .goto (-178), 24, 0, 0, .null)]
theorem t_s_M_worst_26 : s_M_worst_26.all (am_ok 12 cX12_worst) = true := by decide +kernel
def s_M_worst_27 : List am_Q := [(152, .iload 4, 0, 0, 0, .null)]
theorem t_s_M_worst_27 : s_M_worst_27.all (am_ok 12 cX12_worst) = true := by decide +kernel
theorem d_X12_worst_154 : decode cX12_worst 154 = .ok (.invokestatic 308, 3) := by decide +kernel
def s_M_worst_28 : List am_Q := [(157, .iload_n 2, 0, 0, 0, .null)]
theorem t_s_M_worst_28 : s_M_worst_28.all (am_ok 12 cX12_worst) = true := by decide +kernel
theorem d_X12_worst_158 : decode cX12_worst 158 = .ok (.invokestatic 308, 3) := by decide +kernel
theorem d_X12_worst_161 : decode cX12_worst 161 = .ok (.if_icmp .ne 12, 3) := by decide +kernel
def s_M_worst_29 : List am_Q := [(173, .iconst 0, 0, 0, 0, .int (nI 0))]
theorem t_s_M_worst_29 : s_M_worst_29.all (am_ok 12 cX12_worst) = true := by decide +kernel
def s_M_worst_30 : List am_Q := [(164, .iload 7, 0, 0, 0, .null)]
theorem t_s_M_worst_30 : s_M_worst_30.all (am_ok 12 cX12_worst) = true := by decide +kernel
theorem d_X12_worst_166 : decode cX12_worst 166 = .ok (.ifCond .eq 7, 3) := by decide +kernel
def s_M_worst_31 : List am_Q := [(173, .iconst 0, 0, 0, 0, .int (nI 0))]
theorem t_s_M_worst_31 : s_M_worst_31.all (am_ok 12 cX12_worst) = true := by decide +kernel
def s_M_worst_32 : List am_Q := [(169, .iconst 1, 0, 0, 0, .int (nI 1)), (170, .goto 4, 174, 0, 0, .null)]
theorem t_s_M_worst_32 : s_M_worst_32.all (am_ok 12 cX12_worst) = true := by decide +kernel
def s_M_worst_33 : List am_Q := [(133, .iconst 1, 0, 0, 0, .int (nI 1)), (134, .goto 4, 138, 0, 0, .null)]
theorem t_s_M_worst_33 : s_M_worst_33.all (am_ok 12 cX12_worst) = true := by decide +kernel
def s_M_worst_34 : List am_Q := [(47, .goto 152, 199, 0, 0, .null), (199, .iinc 4 1, 0, 0, 0, .int (nI 1)), (202, .goto (-178), 24, 0, 0, .null)]
theorem t_s_M_worst_34 : s_M_worst_34.all (am_ok 12 cX12_worst) = true := by decide +kernel
def s_M_worst_35 : List am_Q := [(10, .iconst (-1), 0, 0, 0, .int (-1 : Int32))]
theorem t_s_M_worst_35 : s_M_worst_35.all (am_ok 12 cX12_worst) = true := by decide +kernel
theorem d_X12_worst_11 : decode cX12_worst 11 = .ok (.ireturn, 1) := by decide +kernel
def M_worst_216 : Nat → am_T → Int32 → Int32 → Option (Int32 × am_T)
  | 0, _, _, _ => none
  | n + 1, τ, a2, a4 =>
    if ((nI 3) * (τ.1 140 26)) ≤ a4 then
  (some (a2, τ))
else
  (am_g (am_in a4 384) (am_g (am_in a4 384) ((M_worst_216 n) (am_si τ 152 (a4.toNatClampNeg) (τ.1 151 (a4.toNatClampNeg))) a2 (a4 + (nI 1)))))
set_option maxRecDepth 20000 in
theorem ok_M_worst_216 {X : am_X} {v : Int32} {τ' : am_T} (hF : am_F X "ShareHouseModel" cX12_worst 9) (hR : am_R X 2 50) (hB : am_B X (some .int) (some (.int v)) (am_D τ')) : ∀ (n : Nat) (τ : am_T) (a2 : Int32) (a4 : Int32), M_worst_216 n τ a2 a4 = some (v, τ') → am_W X 9 (216, [(0, .ref 140), (2, .int a2), (4, .int a4)], [], am_D τ) := by
  intro n
  induction n with
  | zero => intro τ a2 a4 h; unfold M_worst_216 at h; cases h
  | succ n ih =>
    intro τ a2 a4 h
    unfold M_worst_216 at h
    refine am_seg s_M_worst_5 (y := (224, [(0, .ref 140), (2, .int a2), (4, .int a4)], [.int ((nI 3) * (τ.1 140 26)), .int a4], am_D τ)) hF t_s_M_worst_5 rfl rfl ?_
    refine am_ite h (fun hc h => ?_) (fun hc h => ?_)
    · refine am_icmp_ge_t (t := 247) d_X12_worst_224 (by decide) hc hF ?_
      refine am_seg s_M_worst_6 (y := (248, [(0, .ref 140), (2, .int a2), (4, .int a4)], [.int a2], am_D τ)) hF t_s_M_worst_6 rfl rfl ?_
      obtain ⟨rfl, rfl⟩ := am_pair h
      exact am_iret d_X12_worst_248 hF hB
    · refine am_icmp_ge_f (t := 247) d_X12_worst_224 (by decide) hc hF ?_
      refine am_seg s_M_worst_7 (y := (239, [(0, .ref 140), (2, .int a2), (4, .int a4)], [.int a4, .ref 151, .int a4, .ref 152], am_D τ)) hF t_s_M_worst_7 rfl rfl ?_
      refine am_gd h (fun hi h => ?_)
      refine am_iald (n := 384) (j := (a4.toNatClampNeg)) d_X12_worst_239 (Nat.le_of_ble_eq_true rfl) (Nat.le_of_ble_eq_true rfl) rfl hi rfl hF ?_
      refine am_gd h (fun hi h => ?_)
      refine am_iast (n := 384) (j := (a4.toNatClampNeg)) d_X12_worst_240 (Nat.le_of_ble_eq_true rfl) (Nat.le_of_ble_eq_true rfl) rfl hi rfl hF ?_
      refine am_seg s_M_worst_8 (y := (216, [(4, .int (a4 + (nI 1))), (0, .ref 140), (2, .int a2)], [], am_D (am_si τ 152 (a4.toNatClampNeg) (τ.1 151 (a4.toNatClampNeg))))) hF t_s_M_worst_8 rfl rfl ?_
      refine am_pick [1, 2, 0] rfl ?_
      exact ih _ _ _ h
def M_worst_174 (k24 : am_T → Int32 → Int32 → Int32 → Int32 → Option (Int32 × am_T)) (τ : am_T) (a1 : Int32) (a2 : Int32) (a3 : Int32) (a4 : Int32) (a5 : Int32) (s0 : Int32) : Option (Int32 × am_T) :=
  if a3 < a5 then
  (k24 τ a1 a4 a5 (a4 + (nI 1)))
else
  (if a5 = a3 then
  (if s0 = 0 then
  (k24 τ a1 a2 a3 (a4 + (nI 1)))
else
  (k24 τ a1 a4 a5 (a4 + (nI 1))))
else
  (k24 τ a1 a2 a3 (a4 + (nI 1))))
set_option maxRecDepth 20000 in
theorem ok_M_worst_174 {X : am_X} {v : Int32} {τ' : am_T} (hF : am_F X "ShareHouseModel" cX12_worst 9) (hR : am_R X 2 50) (hB : am_B X (some .int) (some (.int v)) (am_D τ')) {k24 : am_T → Int32 → Int32 → Int32 → Int32 → Option (Int32 × am_T)} (hk24 : ∀ (τ : am_T) (a1 : Int32) (a2 : Int32) (a3 : Int32) (a4 : Int32), k24 τ a1 a2 a3 a4 = some (v, τ') → am_W X 9 (24, [(0, .ref 140), (1, .int a1), (2, .int a2), (3, .int a3), (4, .int a4)], [], am_D τ)) {τ : am_T} {a1 : Int32} {a2 : Int32} {a3 : Int32} {a4 : Int32} {a5 : Int32} {s0 : Int32} (h : M_worst_174 k24 τ a1 a2 a3 a4 a5 s0 = some (v, τ')) : am_W X 9 (174, [(0, .ref 140), (1, .int a1), (2, .int a2), (3, .int a3), (4, .int a4), (5, .int a5)], [.int s0], am_D τ) := by
  unfold M_worst_174 at h
  refine am_seg s_M_worst_20 (y := (179, [(8, .int s0), (0, .ref 140), (1, .int a1), (2, .int a2), (3, .int a3), (4, .int a4), (5, .int a5)], [.int a3, .int a5], am_D τ)) hF t_s_M_worst_20 rfl rfl ?_
  refine am_ite h (fun hc h => ?_) (fun hc h => ?_)
  · refine am_icmp_gt_t (t := 193) d_X12_worst_179 (by decide) hc hF ?_
    refine am_seg s_M_worst_21 (y := (24, [(4, .int (a4 + (nI 1))), (3, .int a5), (2, .int a4), (8, .int s0), (0, .ref 140), (1, .int a1), (5, .int a5)], [], am_D τ)) hF t_s_M_worst_21 rfl rfl ?_
    refine am_pick [4, 5, 2, 1, 0] rfl ?_
    exact hk24 _ _ _ _ _ h
  · refine am_icmp_gt_f (t := 193) d_X12_worst_179 (by decide) hc hF ?_
    refine am_seg s_M_worst_22 (y := (185, [(8, .int s0), (0, .ref 140), (1, .int a1), (2, .int a2), (3, .int a3), (4, .int a4), (5, .int a5)], [.int a3, .int a5], am_D τ)) hF t_s_M_worst_22 rfl rfl ?_
    refine am_ite h (fun hc h => ?_) (fun hc h => ?_)
    · refine am_icmp_ne_f (t := 199) d_X12_worst_185 (by decide) hc hF ?_
      refine am_seg s_M_worst_24 (y := (190, [(8, .int s0), (0, .ref 140), (1, .int a1), (2, .int a2), (3, .int a3), (4, .int a4), (5, .int a5)], [.int s0], am_D τ)) hF t_s_M_worst_24 rfl rfl ?_
      refine am_ite h (fun hc h => ?_) (fun hc h => ?_)
      · refine am_if_eq_t (t := 199) d_X12_worst_190 (by decide) hc hF ?_
        refine am_seg s_M_worst_25 (y := (24, [(4, .int (a4 + (nI 1))), (8, .int s0), (0, .ref 140), (1, .int a1), (2, .int a2), (3, .int a3), (5, .int a5)], [], am_D τ)) hF t_s_M_worst_25 rfl rfl ?_
        refine am_pick [2, 3, 4, 5, 0] rfl ?_
        exact hk24 _ _ _ _ _ h
      · refine am_if_eq_f (t := 199) d_X12_worst_190 (by decide) hc hF ?_
        refine am_seg s_M_worst_26 (y := (24, [(4, .int (a4 + (nI 1))), (3, .int a5), (2, .int a4), (8, .int s0), (0, .ref 140), (1, .int a1), (5, .int a5)], [], am_D τ)) hF t_s_M_worst_26 rfl rfl ?_
        refine am_pick [4, 5, 2, 1, 0] rfl ?_
        exact hk24 _ _ _ _ _ h
    · refine am_icmp_ne_t (t := 199) d_X12_worst_185 (by decide) hc hF ?_
      refine am_seg s_M_worst_23 (y := (24, [(4, .int (a4 + (nI 1))), (8, .int s0), (0, .ref 140), (1, .int a1), (2, .int a2), (3, .int a3), (5, .int a5)], [], am_D τ)) hF t_s_M_worst_23 rfl rfl ?_
      refine am_pick [2, 3, 4, 5, 0] rfl ?_
      exact hk24 _ _ _ _ _ h
def M_worst_138 (k24 : am_T → Int32 → Int32 → Int32 → Int32 → Option (Int32 × am_T)) (τ : am_T) (a1 : Int32) (a2 : Int32) (a3 : Int32) (a4 : Int32) (a5 : Int32) (s0 : Int32) : Option (Int32 × am_T) :=
  (M_ones τ a4).bind (fun x5 =>
  (M_ones x5.2 a2).bind (fun x6 =>
  if x5.1 < x6.1 then
  (M_worst_174 k24 x6.2 a1 a2 a3 a4 a5 (nI 1))
else
  ((M_ones x6.2 a4).bind (fun x7 =>
  (M_ones x7.2 a2).bind (fun x8 =>
  if x7.1 = x8.1 then
  (if s0 = 0 then
  (M_worst_174 k24 x8.2 a1 a2 a3 a4 a5 (nI 0))
else
  (M_worst_174 k24 x8.2 a1 a2 a3 a4 a5 (nI 1)))
else
  (M_worst_174 k24 x8.2 a1 a2 a3 a4 a5 (nI 0)))))))
set_option maxRecDepth 20000 in
theorem ok_M_worst_138 {X : am_X} {v : Int32} {τ' : am_T} (hF : am_F X "ShareHouseModel" cX12_worst 9) (hR : am_R X 2 50) (hB : am_B X (some .int) (some (.int v)) (am_D τ')) {k24 : am_T → Int32 → Int32 → Int32 → Int32 → Option (Int32 × am_T)} (hk24 : ∀ (τ : am_T) (a1 : Int32) (a2 : Int32) (a3 : Int32) (a4 : Int32), k24 τ a1 a2 a3 a4 = some (v, τ') → am_W X 9 (24, [(0, .ref 140), (1, .int a1), (2, .int a2), (3, .int a3), (4, .int a4)], [], am_D τ)) {τ : am_T} {a1 : Int32} {a2 : Int32} {a3 : Int32} {a4 : Int32} {a5 : Int32} {s0 : Int32} (h : M_worst_138 k24 τ a1 a2 a3 a4 a5 s0 = some (v, τ')) : am_W X 9 (138, [(0, .ref 140), (1, .int a1), (2, .int a2), (3, .int a3), (4, .int a4), (5, .int a5)], [.int s0], am_D τ) := by
  unfold M_worst_138 at h
  refine am_seg s_M_worst_17 (y := (142, [(7, .int s0), (0, .ref 140), (1, .int a1), (2, .int a2), (3, .int a3), (4, .int a4), (5, .int a5)], [.int a4], am_D τ)) hF t_s_M_worst_17 rfl rfl ?_
  refine am_bd h (fun x5 hx h => ?_)
  refine am_callS (As := [.int a4]) (r := (some (.int x5.1))) (st := []) (σ' := am_D x5.2) hF hR d_X12_worst_142 (c_M_ones (τ' := x5.2) hx) (Nat.le_refl _) (Nat.le_refl _) wl_M_308 ws_yX12_ones wn_ShareHouseModel wc_yX12_ones wy_yX12_ones rfl ⟨by decide, by decide⟩ (Nat.le_of_ble_eq_true rfl) ?_
  refine am_seg s_M_worst_18 (y := (146, [(7, .int s0), (0, .ref 140), (1, .int a1), (2, .int a2), (3, .int a3), (4, .int a4), (5, .int a5)], [.int a2, .int x5.1], am_D x5.2)) hF t_s_M_worst_18 rfl rfl ?_
  refine am_bd h (fun x6 hx h => ?_)
  refine am_callS (As := [.int a2]) (r := (some (.int x6.1))) (st := [.int x5.1]) (σ' := am_D x6.2) hF hR d_X12_worst_146 (c_M_ones (τ' := x6.2) hx) (Nat.le_refl _) (Nat.le_refl _) wl_M_308 ws_yX12_ones wn_ShareHouseModel wc_yX12_ones wy_yX12_ones rfl ⟨by decide, by decide⟩ (Nat.le_of_ble_eq_true rfl) ?_
  refine am_ite h (fun hc h => ?_) (fun hc h => ?_)
  · refine am_icmp_lt_t (t := 169) d_X12_worst_149 (by decide) hc hF ?_
    refine am_seg s_M_worst_19 (y := (174, [(7, .int s0), (0, .ref 140), (1, .int a1), (2, .int a2), (3, .int a3), (4, .int a4), (5, .int a5)], [.int (nI 1)], am_D x6.2)) hF t_s_M_worst_19 rfl rfl ?_
    refine am_pick [1, 2, 3, 4, 5, 6] rfl ?_
    exact ok_M_worst_174 hF hR hB hk24 h
  · refine am_icmp_lt_f (t := 169) d_X12_worst_149 (by decide) hc hF ?_
    refine am_seg s_M_worst_27 (y := (154, [(7, .int s0), (0, .ref 140), (1, .int a1), (2, .int a2), (3, .int a3), (4, .int a4), (5, .int a5)], [.int a4], am_D x6.2)) hF t_s_M_worst_27 rfl rfl ?_
    refine am_bd h (fun x7 hx h => ?_)
    refine am_callS (As := [.int a4]) (r := (some (.int x7.1))) (st := []) (σ' := am_D x7.2) hF hR d_X12_worst_154 (c_M_ones (τ' := x7.2) hx) (Nat.le_refl _) (Nat.le_refl _) wl_M_308 ws_yX12_ones wn_ShareHouseModel wc_yX12_ones wy_yX12_ones rfl ⟨by decide, by decide⟩ (Nat.le_of_ble_eq_true rfl) ?_
    refine am_seg s_M_worst_28 (y := (158, [(7, .int s0), (0, .ref 140), (1, .int a1), (2, .int a2), (3, .int a3), (4, .int a4), (5, .int a5)], [.int a2, .int x7.1], am_D x7.2)) hF t_s_M_worst_28 rfl rfl ?_
    refine am_bd h (fun x8 hx h => ?_)
    refine am_callS (As := [.int a2]) (r := (some (.int x8.1))) (st := [.int x7.1]) (σ' := am_D x8.2) hF hR d_X12_worst_158 (c_M_ones (τ' := x8.2) hx) (Nat.le_refl _) (Nat.le_refl _) wl_M_308 ws_yX12_ones wn_ShareHouseModel wc_yX12_ones wy_yX12_ones rfl ⟨by decide, by decide⟩ (Nat.le_of_ble_eq_true rfl) ?_
    refine am_ite h (fun hc h => ?_) (fun hc h => ?_)
    · refine am_icmp_ne_f (t := 173) d_X12_worst_161 (by decide) hc hF ?_
      refine am_seg s_M_worst_30 (y := (166, [(7, .int s0), (0, .ref 140), (1, .int a1), (2, .int a2), (3, .int a3), (4, .int a4), (5, .int a5)], [.int s0], am_D x8.2)) hF t_s_M_worst_30 rfl rfl ?_
      refine am_ite h (fun hc h => ?_) (fun hc h => ?_)
      · refine am_if_eq_t (t := 173) d_X12_worst_166 (by decide) hc hF ?_
        refine am_seg s_M_worst_31 (y := (174, [(7, .int s0), (0, .ref 140), (1, .int a1), (2, .int a2), (3, .int a3), (4, .int a4), (5, .int a5)], [.int (nI 0)], am_D x8.2)) hF t_s_M_worst_31 rfl rfl ?_
        refine am_pick [1, 2, 3, 4, 5, 6] rfl ?_
        exact ok_M_worst_174 hF hR hB hk24 h
      · refine am_if_eq_f (t := 173) d_X12_worst_166 (by decide) hc hF ?_
        refine am_seg s_M_worst_32 (y := (174, [(7, .int s0), (0, .ref 140), (1, .int a1), (2, .int a2), (3, .int a3), (4, .int a4), (5, .int a5)], [.int (nI 1)], am_D x8.2)) hF t_s_M_worst_32 rfl rfl ?_
        refine am_pick [1, 2, 3, 4, 5, 6] rfl ?_
        exact ok_M_worst_174 hF hR hB hk24 h
    · refine am_icmp_ne_t (t := 173) d_X12_worst_161 (by decide) hc hF ?_
      refine am_seg s_M_worst_29 (y := (174, [(7, .int s0), (0, .ref 140), (1, .int a1), (2, .int a2), (3, .int a3), (4, .int a4), (5, .int a5)], [.int (nI 0)], am_D x8.2)) hF t_s_M_worst_29 rfl rfl ?_
      refine am_pick [1, 2, 3, 4, 5, 6] rfl ?_
      exact ok_M_worst_174 hF hR hB hk24 h
def M_worst_24 : Nat → am_T → Int32 → Int32 → Int32 → Int32 → Option (Int32 × am_T)
  | 0, _, _, _, _, _ => none
  | n + 1, τ, a1, a2, a3, a4 =>
    if ((nI 1) <<< ((τ.1 141 8) &&& 31)) ≤ a4 then
  (M_worst_216 5000 (am_si τ 140 28 (τ.1 140 26)) a2 (nI 0))
else
  ((M_ones τ a4).bind (fun x2 =>
  if x2.1 ≤ a1 then
  ((M_levelPay x2.2 a4).bind (fun x3 =>
  am_g (am_in ((nI 3) * (x3.2.1 140 26)) 384) (am_g (am_in (((nI 3) * ((am_si x3.2 151 (((nI 3) * (x3.2.1 140 26)).toNatClampNeg) a4).1 140 26)) + (nI 1)) 384) ((M_binds (am_si (am_si x3.2 151 (((nI 3) * (x3.2.1 140 26)).toNatClampNeg) a4) 151 ((((nI 3) * ((am_si x3.2 151 (((nI 3) * (x3.2.1 140 26)).toNatClampNeg) a4).1 140 26)) + (nI 1)).toNatClampNeg) x3.1) x3.1).bind (fun x4 =>
  am_g (am_in (((nI 3) * ((am_si (am_si x3.2 151 (((nI 3) * (x3.2.1 140 26)).toNatClampNeg) a4) 151 ((((nI 3) * ((am_si x3.2 151 (((nI 3) * (x3.2.1 140 26)).toNatClampNeg) a4).1 140 26)) + (nI 1)).toNatClampNeg) x3.1).1 140 26)) + (nI 2)) 384) (if (((a4 ^^^ a2) &&& (-(a4 ^^^ a2))) &&& a4) = 0 then
  (M_worst_138 (M_worst_24 n) (am_si (am_si x4.2 151 ((((nI 3) * ((am_si (am_si x3.2 151 (((nI 3) * (x3.2.1 140 26)).toNatClampNeg) a4) 151 ((((nI 3) * ((am_si x3.2 151 (((nI 3) * (x3.2.1 140 26)).toNatClampNeg) a4).1 140 26)) + (nI 1)).toNatClampNeg) x3.1).1 140 26)) + (nI 2)).toNatClampNeg) x4.1) 140 26 (((am_si x4.2 151 ((((nI 3) * ((am_si (am_si x3.2 151 (((nI 3) * (x3.2.1 140 26)).toNatClampNeg) a4) 151 ((((nI 3) * ((am_si x3.2 151 (((nI 3) * (x3.2.1 140 26)).toNatClampNeg) a4).1 140 26)) + (nI 1)).toNatClampNeg) x3.1).1 140 26)) + (nI 2)).toNatClampNeg) x4.1).1 140 26) + (nI 1))) a1 a2 a3 a4 x3.1 (nI 0))
else
  (M_worst_138 (M_worst_24 n) (am_si (am_si x4.2 151 ((((nI 3) * ((am_si (am_si x3.2 151 (((nI 3) * (x3.2.1 140 26)).toNatClampNeg) a4) 151 ((((nI 3) * ((am_si x3.2 151 (((nI 3) * (x3.2.1 140 26)).toNatClampNeg) a4).1 140 26)) + (nI 1)).toNatClampNeg) x3.1).1 140 26)) + (nI 2)).toNatClampNeg) x4.1) 140 26 (((am_si x4.2 151 ((((nI 3) * ((am_si (am_si x3.2 151 (((nI 3) * (x3.2.1 140 26)).toNatClampNeg) a4) 151 ((((nI 3) * ((am_si x3.2 151 (((nI 3) * (x3.2.1 140 26)).toNatClampNeg) a4).1 140 26)) + (nI 1)).toNatClampNeg) x3.1).1 140 26)) + (nI 2)).toNatClampNeg) x4.1).1 140 26) + (nI 1))) a1 a2 a3 a4 x3.1 (nI 1))))))))
else
  ((M_worst_24 n) x2.2 a1 a2 a3 (a4 + (nI 1)))))
set_option maxRecDepth 20000 in
theorem ok_M_worst_24 {X : am_X} {v : Int32} {τ' : am_T} (hF : am_F X "ShareHouseModel" cX12_worst 9) (hR : am_R X 2 50) (hB : am_B X (some .int) (some (.int v)) (am_D τ')) : ∀ (n : Nat) (τ : am_T) (a1 : Int32) (a2 : Int32) (a3 : Int32) (a4 : Int32), M_worst_24 n τ a1 a2 a3 a4 = some (v, τ') → am_W X 9 (24, [(0, .ref 140), (1, .int a1), (2, .int a2), (3, .int a3), (4, .int a4)], [], am_D τ) := by
  intro n
  induction n with
  | zero => intro τ a1 a2 a3 a4 h; unfold M_worst_24 at h; cases h
  | succ n ih =>
    intro τ a1 a2 a3 a4 h
    unfold M_worst_24 at h
    refine am_seg s_M_worst_2 (y := (33, [(0, .ref 140), (1, .int a1), (2, .int a2), (3, .int a3), (4, .int a4)], [.int (nI 8), .ref 141, .int (nI 1), .int a4], am_D τ)) hF t_s_M_worst_2 rfl rfl ?_
    refine am_iald (n := 1060) (j := 8) d_X12_worst_33 (Nat.le_of_ble_eq_true rfl) (Nat.le_of_ble_eq_true rfl) rfl (by decide) rfl hF ?_
    refine am_seg s_M_worst_3 (y := (35, [(0, .ref 140), (1, .int a1), (2, .int a2), (3, .int a3), (4, .int a4)], [.int ((nI 1) <<< ((τ.1 141 8) &&& 31)), .int a4], am_D τ)) hF t_s_M_worst_3 rfl rfl ?_
    refine am_ite h (fun hc h => ?_) (fun hc h => ?_)
    · refine am_icmp_ge_t (t := 205) d_X12_worst_35 (by decide) hc hF ?_
      refine am_seg s_M_worst_4 (y := (216, [(4, .int (nI 0)), (0, .ref 140), (1, .int a1), (2, .int a2), (3, .int a3)], [], am_D (am_si τ 140 28 (τ.1 140 26)))) hF t_s_M_worst_4 rfl rfl ?_
      refine am_pick [1, 3, 0] rfl ?_
      exact ok_M_worst_216 hF hR hB _ _ _ _ h
    · refine am_icmp_ge_f (t := 205) d_X12_worst_35 (by decide) hc hF ?_
      refine am_seg s_M_worst_9 (y := (40, [(0, .ref 140), (1, .int a1), (2, .int a2), (3, .int a3), (4, .int a4)], [.int a4], am_D τ)) hF t_s_M_worst_9 rfl rfl ?_
      refine am_bd h (fun x2 hx h => ?_)
      refine am_callS (As := [.int a4]) (r := (some (.int x2.1))) (st := []) (σ' := am_D x2.2) hF hR d_X12_worst_40 (c_M_ones (τ' := x2.2) hx) (Nat.le_refl _) (Nat.le_refl _) wl_M_308 ws_yX12_ones wn_ShareHouseModel wc_yX12_ones wy_yX12_ones rfl ⟨by decide, by decide⟩ (Nat.le_of_ble_eq_true rfl) ?_
      refine am_seg s_M_worst_10 (y := (44, [(0, .ref 140), (1, .int a1), (2, .int a2), (3, .int a3), (4, .int a4)], [.int a1, .int x2.1], am_D x2.2)) hF t_s_M_worst_10 rfl rfl ?_
      refine am_ite h (fun hc h => ?_) (fun hc h => ?_)
      · refine am_icmp_le_t (t := 50) d_X12_worst_44 (by decide) hc hF ?_
        refine am_seg s_M_worst_11 (y := (53, [(0, .ref 140), (1, .int a1), (2, .int a2), (3, .int a3), (4, .int a4)], [.int a4, .ref 140], am_D x2.2)) hF t_s_M_worst_11 rfl rfl ?_
        refine am_bd h (fun x3 hx h => ?_)
        refine am_callV (As := [.int a4]) (r := (some (.int x3.1))) (st := []) (σ' := am_D x3.2) (ci := 12) hF hR d_X12_worst_53 (c_M_levelPay (τ' := x3.2) hx) (Nat.le_refl _) (Nat.le_refl _) wl_M_302 wi_yX12_levelPay we_yX12_levelPay wn_ShareHouseModel wc_yX12_levelPay (Nat.le_of_ble_eq_true rfl) (Nat.le_of_ble_eq_true rfl) rfl rfl wy_yX12_levelPay rfl ⟨by decide, by decide⟩ (Nat.le_of_ble_eq_true rfl) ?_
        refine am_seg s_M_worst_12 (y := (70, [(5, .int x3.1), (0, .ref 140), (1, .int a1), (2, .int a2), (3, .int a3), (4, .int a4)], [.int a4, .int ((nI 3) * (x3.2.1 140 26)), .ref 151], am_D x3.2)) hF t_s_M_worst_12 rfl rfl ?_
        refine am_gd h (fun hi h => ?_)
        refine am_iast (n := 384) (j := (((nI 3) * (x3.2.1 140 26)).toNatClampNeg)) d_X12_worst_70 (Nat.le_of_ble_eq_true rfl) (Nat.le_of_ble_eq_true rfl) rfl hi rfl hF ?_
        refine am_seg s_M_worst_13 (y := (85, [(5, .int x3.1), (0, .ref 140), (1, .int a1), (2, .int a2), (3, .int a3), (4, .int a4)], [.int x3.1, .int (((nI 3) * ((am_si x3.2 151 (((nI 3) * (x3.2.1 140 26)).toNatClampNeg) a4).1 140 26)) + (nI 1)), .ref 151], am_D (am_si x3.2 151 (((nI 3) * (x3.2.1 140 26)).toNatClampNeg) a4))) hF t_s_M_worst_13 rfl rfl ?_
        refine am_gd h (fun hi h => ?_)
        refine am_iast (n := 384) (j := ((((nI 3) * ((am_si x3.2 151 (((nI 3) * (x3.2.1 140 26)).toNatClampNeg) a4).1 140 26)) + (nI 1)).toNatClampNeg)) d_X12_worst_85 (Nat.le_of_ble_eq_true rfl) (Nat.le_of_ble_eq_true rfl) rfl hi rfl hF ?_
        refine am_seg s_M_worst_14 (y := (101, [(5, .int x3.1), (0, .ref 140), (1, .int a1), (2, .int a2), (3, .int a3), (4, .int a4)], [.int x3.1, .ref 140, .int (((nI 3) * ((am_si (am_si x3.2 151 (((nI 3) * (x3.2.1 140 26)).toNatClampNeg) a4) 151 ((((nI 3) * ((am_si x3.2 151 (((nI 3) * (x3.2.1 140 26)).toNatClampNeg) a4).1 140 26)) + (nI 1)).toNatClampNeg) x3.1).1 140 26)) + (nI 2)), .ref 151], am_D (am_si (am_si x3.2 151 (((nI 3) * (x3.2.1 140 26)).toNatClampNeg) a4) 151 ((((nI 3) * ((am_si x3.2 151 (((nI 3) * (x3.2.1 140 26)).toNatClampNeg) a4).1 140 26)) + (nI 1)).toNatClampNeg) x3.1))) hF t_s_M_worst_14 rfl rfl ?_
        refine am_bd h (fun x4 hx h => ?_)
        refine am_callV (As := [.int x3.1]) (r := (some (.int x4.1))) (st := [.int (((nI 3) * ((am_si (am_si x3.2 151 (((nI 3) * (x3.2.1 140 26)).toNatClampNeg) a4) 151 ((((nI 3) * ((am_si x3.2 151 (((nI 3) * (x3.2.1 140 26)).toNatClampNeg) a4).1 140 26)) + (nI 1)).toNatClampNeg) x3.1).1 140 26)) + (nI 2)), .ref 151]) (σ' := am_D x4.2) (ci := 12) hF hR d_X12_worst_101 (c_M_binds (τ' := x4.2) hx) (Nat.le_refl _) (Nat.le_refl _) wl_M_305 wi_yX12_binds we_yX12_binds wn_ShareHouseModel wc_yX12_binds (Nat.le_of_ble_eq_true rfl) (Nat.le_of_ble_eq_true rfl) rfl rfl wy_yX12_binds rfl ⟨by decide, by decide⟩ (Nat.le_of_ble_eq_true rfl) ?_
        refine am_gd h (fun hi h => ?_)
        refine am_iast (n := 384) (j := ((((nI 3) * ((am_si (am_si x3.2 151 (((nI 3) * (x3.2.1 140 26)).toNatClampNeg) a4) 151 ((((nI 3) * ((am_si x3.2 151 (((nI 3) * (x3.2.1 140 26)).toNatClampNeg) a4).1 140 26)) + (nI 1)).toNatClampNeg) x3.1).1 140 26)) + (nI 2)).toNatClampNeg)) d_X12_worst_104 (Nat.le_of_ble_eq_true rfl) (Nat.le_of_ble_eq_true rfl) rfl hi rfl hF ?_
        refine am_seg s_M_worst_15 (y := (130, [(6, .int (a4 ^^^ a2)), (5, .int x3.1), (0, .ref 140), (1, .int a1), (2, .int a2), (3, .int a3), (4, .int a4)], [.int (((a4 ^^^ a2) &&& (-(a4 ^^^ a2))) &&& a4)], am_D (am_si (am_si x4.2 151 ((((nI 3) * ((am_si (am_si x3.2 151 (((nI 3) * (x3.2.1 140 26)).toNatClampNeg) a4) 151 ((((nI 3) * ((am_si x3.2 151 (((nI 3) * (x3.2.1 140 26)).toNatClampNeg) a4).1 140 26)) + (nI 1)).toNatClampNeg) x3.1).1 140 26)) + (nI 2)).toNatClampNeg) x4.1) 140 26 (((am_si x4.2 151 ((((nI 3) * ((am_si (am_si x3.2 151 (((nI 3) * (x3.2.1 140 26)).toNatClampNeg) a4) 151 ((((nI 3) * ((am_si x3.2 151 (((nI 3) * (x3.2.1 140 26)).toNatClampNeg) a4).1 140 26)) + (nI 1)).toNatClampNeg) x3.1).1 140 26)) + (nI 2)).toNatClampNeg) x4.1).1 140 26) + (nI 1))))) hF t_s_M_worst_15 rfl rfl ?_
        refine am_ite h (fun hc h => ?_) (fun hc h => ?_)
        · refine am_if_eq_t (t := 137) d_X12_worst_130 (by decide) hc hF ?_
          refine am_seg s_M_worst_16 (y := (138, [(6, .int (a4 ^^^ a2)), (5, .int x3.1), (0, .ref 140), (1, .int a1), (2, .int a2), (3, .int a3), (4, .int a4)], [.int (nI 0)], am_D (am_si (am_si x4.2 151 ((((nI 3) * ((am_si (am_si x3.2 151 (((nI 3) * (x3.2.1 140 26)).toNatClampNeg) a4) 151 ((((nI 3) * ((am_si x3.2 151 (((nI 3) * (x3.2.1 140 26)).toNatClampNeg) a4).1 140 26)) + (nI 1)).toNatClampNeg) x3.1).1 140 26)) + (nI 2)).toNatClampNeg) x4.1) 140 26 (((am_si x4.2 151 ((((nI 3) * ((am_si (am_si x3.2 151 (((nI 3) * (x3.2.1 140 26)).toNatClampNeg) a4) 151 ((((nI 3) * ((am_si x3.2 151 (((nI 3) * (x3.2.1 140 26)).toNatClampNeg) a4).1 140 26)) + (nI 1)).toNatClampNeg) x3.1).1 140 26)) + (nI 2)).toNatClampNeg) x4.1).1 140 26) + (nI 1))))) hF t_s_M_worst_16 rfl rfl ?_
          refine am_pick [2, 3, 4, 5, 6, 1] rfl ?_
          exact ok_M_worst_138 hF hR hB ih h
        · refine am_if_eq_f (t := 137) d_X12_worst_130 (by decide) hc hF ?_
          refine am_seg s_M_worst_33 (y := (138, [(6, .int (a4 ^^^ a2)), (5, .int x3.1), (0, .ref 140), (1, .int a1), (2, .int a2), (3, .int a3), (4, .int a4)], [.int (nI 1)], am_D (am_si (am_si x4.2 151 ((((nI 3) * ((am_si (am_si x3.2 151 (((nI 3) * (x3.2.1 140 26)).toNatClampNeg) a4) 151 ((((nI 3) * ((am_si x3.2 151 (((nI 3) * (x3.2.1 140 26)).toNatClampNeg) a4).1 140 26)) + (nI 1)).toNatClampNeg) x3.1).1 140 26)) + (nI 2)).toNatClampNeg) x4.1) 140 26 (((am_si x4.2 151 ((((nI 3) * ((am_si (am_si x3.2 151 (((nI 3) * (x3.2.1 140 26)).toNatClampNeg) a4) 151 ((((nI 3) * ((am_si x3.2 151 (((nI 3) * (x3.2.1 140 26)).toNatClampNeg) a4).1 140 26)) + (nI 1)).toNatClampNeg) x3.1).1 140 26)) + (nI 2)).toNatClampNeg) x4.1).1 140 26) + (nI 1))))) hF t_s_M_worst_33 rfl rfl ?_
          refine am_pick [2, 3, 4, 5, 6, 1] rfl ?_
          exact ok_M_worst_138 hF hR hB ih h
      · refine am_icmp_le_f (t := 50) d_X12_worst_44 (by decide) hc hF ?_
        refine am_seg s_M_worst_34 (y := (24, [(4, .int (a4 + (nI 1))), (0, .ref 140), (1, .int a1), (2, .int a2), (3, .int a3)], [], am_D x2.2)) hF t_s_M_worst_34 rfl rfl ?_
        refine am_pick [1, 2, 3, 4, 0] rfl ?_
        exact ih _ _ _ _ _ h
def M_worst (τ : am_T) (a1 : Int32) : Option (Int32 × am_T) :=
  (M_in τ a1 (nI 0) (nI 7)).bind (fun x1 =>
  if x1.1 = 0 then
  (some ((-1 : Int32), x1.2))
else
  (M_worst_24 5000 (am_si x1.2 140 26 (nI 0)) a1 (nI 0) (-1 : Int32) (nI 0)))
set_option maxRecDepth 20000 in
theorem ok_M_worst {X : am_X} {a1 : Int32} {v : Int32} {τ τ' : am_T} (hF : am_F X "ShareHouseModel" cX12_worst 9) (hR : am_R X 2 50) (hB : am_B X (some .int) (some (.int v)) (am_D τ')) (h : M_worst τ a1 = some (v, τ')) : am_W X 9 (0, [(0, .ref 140), (1, .int a1)], [], am_D τ) := by
  unfold M_worst at h
  refine am_seg s_M_worst_0 (y := (4, [(0, .ref 140), (1, .int a1)], [.int (nI 7), .int (nI 0), .int a1], am_D τ)) hF t_s_M_worst_0 rfl rfl ?_
  refine am_bd h (fun x1 hx h => ?_)
  refine am_callS (As := [.int a1, .int (nI 0), .int (nI 7)]) (r := (some (.int x1.1))) (st := []) (σ' := am_D x1.2) hF hR d_X12_worst_4 (c_M_in (τ' := x1.2) hx) (Nat.le_refl _) (Nat.le_refl _) wl_M_51 ws_yX12_in wn_ShareHouseModel wc_yX12_in wy_yX12_in rfl ⟨by decide, by decide⟩ (Nat.le_of_ble_eq_true rfl) ?_
  refine am_ite h (fun hc h => ?_) (fun hc h => ?_)
  · refine am_if_ne_f (t := 12) d_X12_worst_7 (by decide) hc hF ?_
    refine am_seg s_M_worst_35 (y := (11, [(0, .ref 140), (1, .int a1)], [.int (-1 : Int32)], am_D x1.2)) hF t_s_M_worst_35 rfl rfl ?_
    obtain ⟨rfl, rfl⟩ := am_pair h
    exact am_iret d_X12_worst_11 hF hB
  · refine am_if_ne_t (t := 12) d_X12_worst_7 (by decide) hc hF ?_
    refine am_seg s_M_worst_1 (y := (24, [(4, .int (nI 0)), (3, .int (-1 : Int32)), (2, .int (nI 0)), (0, .ref 140), (1, .int a1)], [], am_D (am_si x1.2 140 26 (nI 0)))) hF t_s_M_worst_1 rfl rfl ?_
    refine am_pick [3, 4, 2, 1, 0] rfl ?_
    exact ok_M_worst_24 hF hR hB _ _ _ _ _ _ h
theorem c_M_worst {a1 : Int32} {v : Int32} {τ τ' : am_T} (h : M_worst τ a1 = some (v, τ')) : am_C yX12_worst cX12_worst 9 (some .int) 2 50 [.ref 140, .int a1] (am_D τ) (some (.int v)) (am_D τ') :=
  am_enter (by decide +kernel) (Nat.le_of_ble_eq_true rfl) ⟨Nat.le_refl _, Nat.le_refl _⟩ (fun X hF hR hB => ok_M_worst hF hR hB h)
def s_M_isCell_0 : List am_Q := [(0, .iload_n 1, 0, 0, 0, .null), (1, .iconst 0, 0, 0, 0, .int (nI 0)), (2, .aload_n 0, 0, 0, 0, .null), (3, .getfield 311, 12, 28, 180, .null), (6, .iconst 1, 0, 0, 0, .int (nI 1)), (7, .isub, 0, 0, 0, .null)]
theorem t_s_M_isCell_0 : s_M_isCell_0.all (am_ok 12 cX12_isCell) = true := by decide +kernel
theorem d_X12_isCell_8 : decode cX12_isCell 8 = .ok (.invokestatic 51, 3) := by decide +kernel
theorem d_X12_isCell_11 : decode cX12_isCell 11 = .ok (.ifCond .eq 16, 3) := by decide +kernel
def s_M_isCell_1 : List am_Q := [(27, .iconst 0, 0, 0, 0, .int (nI 0))]
theorem t_s_M_isCell_1 : s_M_isCell_1.all (am_ok 12 cX12_isCell) = true := by decide +kernel
theorem d_X12_isCell_28 : decode cX12_isCell 28 = .ok (.ireturn, 1) := by decide +kernel
def s_M_isCell_2 : List am_Q := [(14, .iload_n 2, 0, 0, 0, .null), (15, .iconst 0, 0, 0, 0, .int (nI 0)), (16, .iconst 2, 0, 0, 0, .int (nI 2))]
theorem t_s_M_isCell_2 : s_M_isCell_2.all (am_ok 12 cX12_isCell) = true := by decide +kernel
theorem d_X12_isCell_17 : decode cX12_isCell 17 = .ok (.invokestatic 51, 3) := by decide +kernel
theorem d_X12_isCell_20 : decode cX12_isCell 20 = .ok (.ifCond .eq 7, 3) := by decide +kernel
def s_M_isCell_3 : List am_Q := [(27, .iconst 0, 0, 0, 0, .int (nI 0))]
theorem t_s_M_isCell_3 : s_M_isCell_3.all (am_ok 12 cX12_isCell) = true := by decide +kernel
def s_M_isCell_4 : List am_Q := [(23, .iconst 1, 0, 0, 0, .int (nI 1)), (24, .goto 4, 28, 0, 0, .null)]
theorem t_s_M_isCell_4 : s_M_isCell_4.all (am_ok 12 cX12_isCell) = true := by decide +kernel
def M_isCell (τ : am_T) (a1 : Int32) (a2 : Int32) : Option (Int32 × am_T) :=
  (M_in τ a1 (nI 0) ((τ.1 140 28) - (nI 1))).bind (fun x1 =>
  if x1.1 = 0 then
  (some ((nI 0), x1.2))
else
  ((M_in x1.2 a2 (nI 0) (nI 2)).bind (fun x2 =>
  if x2.1 = 0 then
  (some ((nI 0), x2.2))
else
  (some ((nI 1), x2.2)))))
set_option maxRecDepth 20000 in
theorem ok_M_isCell {X : am_X} {a1 : Int32} {a2 : Int32} {v : Int32} {τ τ' : am_T} (hF : am_F X "ShareHouseModel" cX12_isCell 3) (hR : am_R X 1 22) (hB : am_B X (some .boolean) (some (.int v)) (am_D τ')) (h : M_isCell τ a1 a2 = some (v, τ')) : am_W X 3 (0, [(0, .ref 140), (1, .int a1), (2, .int a2)], [], am_D τ) := by
  unfold M_isCell at h
  refine am_seg s_M_isCell_0 (y := (8, [(0, .ref 140), (1, .int a1), (2, .int a2)], [.int ((τ.1 140 28) - (nI 1)), .int (nI 0), .int a1], am_D τ)) hF t_s_M_isCell_0 rfl rfl ?_
  refine am_bd h (fun x1 hx h => ?_)
  refine am_callS (As := [.int a1, .int (nI 0), .int ((τ.1 140 28) - (nI 1))]) (r := (some (.int x1.1))) (st := []) (σ' := am_D x1.2) hF hR d_X12_isCell_8 (c_M_in (τ' := x1.2) hx) (Nat.le_refl _) (Nat.le_refl _) wl_M_51 ws_yX12_in wn_ShareHouseModel wc_yX12_in wy_yX12_in rfl ⟨by decide, by decide⟩ (Nat.le_of_ble_eq_true rfl) ?_
  refine am_ite h (fun hc h => ?_) (fun hc h => ?_)
  · refine am_if_eq_t (t := 27) d_X12_isCell_11 (by decide) hc hF ?_
    refine am_seg s_M_isCell_1 (y := (28, [(0, .ref 140), (1, .int a1), (2, .int a2)], [.int (nI 0)], am_D x1.2)) hF t_s_M_isCell_1 rfl rfl ?_
    obtain ⟨rfl, rfl⟩ := am_pair h
    exact am_zret d_X12_isCell_28 rfl hF hB
  · refine am_if_eq_f (t := 27) d_X12_isCell_11 (by decide) hc hF ?_
    refine am_seg s_M_isCell_2 (y := (17, [(0, .ref 140), (1, .int a1), (2, .int a2)], [.int (nI 2), .int (nI 0), .int a2], am_D x1.2)) hF t_s_M_isCell_2 rfl rfl ?_
    refine am_bd h (fun x2 hx h => ?_)
    refine am_callS (As := [.int a2, .int (nI 0), .int (nI 2)]) (r := (some (.int x2.1))) (st := []) (σ' := am_D x2.2) hF hR d_X12_isCell_17 (c_M_in (τ' := x2.2) hx) (Nat.le_refl _) (Nat.le_refl _) wl_M_51 ws_yX12_in wn_ShareHouseModel wc_yX12_in wy_yX12_in rfl ⟨by decide, by decide⟩ (Nat.le_of_ble_eq_true rfl) ?_
    refine am_ite h (fun hc h => ?_) (fun hc h => ?_)
    · refine am_if_eq_t (t := 27) d_X12_isCell_20 (by decide) hc hF ?_
      refine am_seg s_M_isCell_3 (y := (28, [(0, .ref 140), (1, .int a1), (2, .int a2)], [.int (nI 0)], am_D x2.2)) hF t_s_M_isCell_3 rfl rfl ?_
      obtain ⟨rfl, rfl⟩ := am_pair h
      exact am_zret d_X12_isCell_28 rfl hF hB
    · refine am_if_eq_f (t := 27) d_X12_isCell_20 (by decide) hc hF ?_
      refine am_seg s_M_isCell_4 (y := (28, [(0, .ref 140), (1, .int a1), (2, .int a2)], [.int (nI 1)], am_D x2.2)) hF t_s_M_isCell_4 rfl rfl ?_
      obtain ⟨rfl, rfl⟩ := am_pair h
      exact am_zret d_X12_isCell_28 rfl hF hB
theorem c_M_isCell {a1 : Int32} {a2 : Int32} {v : Int32} {τ τ' : am_T} (h : M_isCell τ a1 a2 = some (v, τ')) : am_C yX12_isCell cX12_isCell 3 (some .boolean) 1 22 [.ref 140, .int a1, .int a2] (am_D τ) (some (.int v)) (am_D τ') :=
  am_enter (by decide +kernel) (Nat.le_of_ble_eq_true rfl) ⟨Nat.le_refl _, Nat.le_refl _⟩ (fun X hF hR hB => ok_M_isCell hF hR hB h)
def s_M_row_0 : List am_Q := [(0, .aload_n 0, 0, 0, 0, .null), (1, .iload_n 1, 0, 0, 0, .null), (2, .iload_n 2, 0, 0, 0, .null)]
theorem t_s_M_row_0 : s_M_row_0.all (am_ok 12 cX12_row) = true := by decide +kernel
theorem d_X12_row_3 : decode cX12_row 3 = .ok (.invokevirtual 314, 3) := by decide +kernel
theorem d_X12_row_6 : decode cX12_row 6 = .ok (.ifCond .eq 16, 3) := by decide +kernel
def s_M_row_1 : List am_Q := [(22, .ldc_w 263, 0, 0, 32, .int (-1000000000 : Int32))]
theorem t_s_M_row_1 : s_M_row_1.all (am_ok 12 cX12_row) = true := by decide +kernel
theorem d_X12_row_25 : decode cX12_row 25 = .ok (.ireturn, 1) := by decide +kernel
def s_M_row_2 : List am_Q := [(9, .aload_n 0, 0, 0, 0, .null), (10, .getfield 48, 12, 29, 181, .null), (13, .iconst 3, 0, 0, 0, .int (nI 3)), (14, .iload_n 1, 0, 0, 0, .null), (15, .imul, 0, 0, 0, .null), (16, .iload_n 2, 0, 0, 0, .null), (17, .iadd, 0, 0, 0, .null)]
theorem t_s_M_row_2 : s_M_row_2.all (am_ok 12 cX12_row) = true := by decide +kernel
theorem d_X12_row_18 : decode cX12_row 18 = .ok (.iaload, 1) := by decide +kernel
def s_M_row_3 : List am_Q := [(19, .goto 6, 25, 0, 0, .null)]
theorem t_s_M_row_3 : s_M_row_3.all (am_ok 12 cX12_row) = true := by decide +kernel
def M_row (τ : am_T) (a1 : Int32) (a2 : Int32) : Option (Int32 × am_T) :=
  (M_isCell τ a1 a2).bind (fun x1 =>
  if x1.1 = 0 then
  (some ((-1000000000 : Int32), x1.2))
else
  (am_g (am_in (((nI 3) * a1) + a2) 384) (some ((x1.2.1 152 ((((nI 3) * a1) + a2).toNatClampNeg)), x1.2))))
set_option maxRecDepth 20000 in
theorem ok_M_row {X : am_X} {a1 : Int32} {a2 : Int32} {v : Int32} {τ τ' : am_T} (hF : am_F X "ShareHouseModel" cX12_row 3) (hR : am_R X 2 44) (hB : am_B X (some .int) (some (.int v)) (am_D τ')) (h : M_row τ a1 a2 = some (v, τ')) : am_W X 3 (0, [(0, .ref 140), (1, .int a1), (2, .int a2)], [], am_D τ) := by
  unfold M_row at h
  refine am_seg s_M_row_0 (y := (3, [(0, .ref 140), (1, .int a1), (2, .int a2)], [.int a2, .int a1, .ref 140], am_D τ)) hF t_s_M_row_0 rfl rfl ?_
  refine am_bd h (fun x1 hx h => ?_)
  refine am_callV (As := [.int a1, .int a2]) (r := (some (.int x1.1))) (st := []) (σ' := am_D x1.2) (ci := 12) hF hR d_X12_row_3 (c_M_isCell (τ' := x1.2) hx) (Nat.le_refl _) (Nat.le_refl _) wl_M_314 wi_yX12_isCell we_yX12_isCell wn_ShareHouseModel wc_yX12_isCell (Nat.le_of_ble_eq_true rfl) (Nat.le_of_ble_eq_true rfl) rfl rfl wy_yX12_isCell rfl ⟨by decide, by decide⟩ (Nat.le_of_ble_eq_true rfl) ?_
  refine am_ite h (fun hc h => ?_) (fun hc h => ?_)
  · refine am_if_eq_t (t := 22) d_X12_row_6 (by decide) hc hF ?_
    refine am_seg s_M_row_1 (y := (25, [(0, .ref 140), (1, .int a1), (2, .int a2)], [.int (-1000000000 : Int32)], am_D x1.2)) hF t_s_M_row_1 rfl rfl ?_
    obtain ⟨rfl, rfl⟩ := am_pair h
    exact am_iret d_X12_row_25 hF hB
  · refine am_if_eq_f (t := 22) d_X12_row_6 (by decide) hc hF ?_
    refine am_seg s_M_row_2 (y := (18, [(0, .ref 140), (1, .int a1), (2, .int a2)], [.int (((nI 3) * a1) + a2), .ref 152], am_D x1.2)) hF t_s_M_row_2 rfl rfl ?_
    refine am_gd h (fun hi h => ?_)
    refine am_iald (n := 384) (j := ((((nI 3) * a1) + a2).toNatClampNeg)) d_X12_row_18 (Nat.le_of_ble_eq_true rfl) (Nat.le_of_ble_eq_true rfl) rfl hi rfl hF ?_
    refine am_seg s_M_row_3 (y := (25, [(0, .ref 140), (1, .int a1), (2, .int a2)], [.int (x1.2.1 152 ((((nI 3) * a1) + a2).toNatClampNeg))], am_D x1.2)) hF t_s_M_row_3 rfl rfl ?_
    obtain ⟨rfl, rfl⟩ := am_pair h
    exact am_iret d_X12_row_25 hF hB
theorem c_M_row {a1 : Int32} {a2 : Int32} {v : Int32} {τ τ' : am_T} (h : M_row τ a1 a2 = some (v, τ')) : am_C yX12_row cX12_row 3 (some .int) 2 44 [.ref 140, .int a1, .int a2] (am_D τ) (some (.int v)) (am_D τ') :=
  am_enter (by decide +kernel) (Nat.le_of_ble_eq_true rfl) ⟨Nat.le_refl _, Nat.le_refl _⟩ (fun X hF hR hB => ok_M_row hF hR hB h)
def s_M_alter_0 : List am_Q := [(0, .aload_n 0, 0, 0, 0, .null), (1, .iload_n 1, 0, 0, 0, .null), (2, .iload_n 2, 0, 0, 0, .null)]
theorem t_s_M_alter_0 : s_M_alter_0.all (am_ok 12 cX12_alter) = true := by decide +kernel
theorem d_X12_alter_3 : decode cX12_alter 3 = .ok (.invokevirtual 314, 3) := by decide +kernel
theorem d_X12_alter_6 : decode cX12_alter 6 = .ok (.ifCond .ne 7, 3) := by decide +kernel
def s_M_alter_1 : List am_Q := [(13, .aload_n 0, 0, 0, 0, .null), (14, .getfield 48, 12, 29, 181, .null), (17, .iconst 3, 0, 0, 0, .int (nI 3)), (18, .iload_n 1, 0, 0, 0, .null), (19, .imul, 0, 0, 0, .null), (20, .iload_n 2, 0, 0, 0, .null), (21, .iadd, 0, 0, 0, .null)]
theorem t_s_M_alter_1 : s_M_alter_1.all (am_ok 12 cX12_alter) = true := by decide +kernel
theorem d_X12_alter_22 : decode cX12_alter 22 = .ok (.iaload, 1) := by decide +kernel
def s_M_alter_2 : List am_Q := [(23, .istore 4, 0, 0, 0, .null), (25, .aload_n 0, 0, 0, 0, .null), (26, .getfield 48, 12, 29, 181, .null), (29, .iconst 3, 0, 0, 0, .int (nI 3)), (30, .iload_n 1, 0, 0, 0, .null), (31, .imul, 0, 0, 0, .null), (32, .iload_n 2, 0, 0, 0, .null), (33, .iadd, 0, 0, 0, .null), (34, .iload_n 3, 0, 0, 0, .null)]
theorem t_s_M_alter_2 : s_M_alter_2.all (am_ok 12 cX12_alter) = true := by decide +kernel
theorem d_X12_alter_35 : decode cX12_alter 35 = .ok (.iastore, 1) := by decide +kernel
def s_M_alter_3 : List am_Q := [(36, .iload 4, 0, 0, 0, .null)]
theorem t_s_M_alter_3 : s_M_alter_3.all (am_ok 12 cX12_alter) = true := by decide +kernel
theorem d_X12_alter_38 : decode cX12_alter 38 = .ok (.ireturn, 1) := by decide +kernel
def s_M_alter_4 : List am_Q := [(9, .ldc_w 263, 0, 0, 32, .int (-1000000000 : Int32))]
theorem t_s_M_alter_4 : s_M_alter_4.all (am_ok 12 cX12_alter) = true := by decide +kernel
theorem d_X12_alter_12 : decode cX12_alter 12 = .ok (.ireturn, 1) := by decide +kernel
def M_alter (τ : am_T) (a1 : Int32) (a2 : Int32) (a3 : Int32) : Option (Int32 × am_T) :=
  (M_isCell τ a1 a2).bind (fun x1 =>
  if x1.1 = 0 then
  (some ((-1000000000 : Int32), x1.2))
else
  (am_g (am_in (((nI 3) * a1) + a2) 384) (am_g (am_in (((nI 3) * a1) + a2) 384) (some ((x1.2.1 152 ((((nI 3) * a1) + a2).toNatClampNeg)), (am_si x1.2 152 ((((nI 3) * a1) + a2).toNatClampNeg) a3))))))
set_option maxRecDepth 20000 in
theorem ok_M_alter {X : am_X} {a1 : Int32} {a2 : Int32} {a3 : Int32} {v : Int32} {τ τ' : am_T} (hF : am_F X "ShareHouseModel" cX12_alter 5) (hR : am_R X 2 44) (hB : am_B X (some .int) (some (.int v)) (am_D τ')) (h : M_alter τ a1 a2 a3 = some (v, τ')) : am_W X 5 (0, [(0, .ref 140), (1, .int a1), (2, .int a2), (3, .int a3)], [], am_D τ) := by
  unfold M_alter at h
  refine am_seg s_M_alter_0 (y := (3, [(0, .ref 140), (1, .int a1), (2, .int a2), (3, .int a3)], [.int a2, .int a1, .ref 140], am_D τ)) hF t_s_M_alter_0 rfl rfl ?_
  refine am_bd h (fun x1 hx h => ?_)
  refine am_callV (As := [.int a1, .int a2]) (r := (some (.int x1.1))) (st := []) (σ' := am_D x1.2) (ci := 12) hF hR d_X12_alter_3 (c_M_isCell (τ' := x1.2) hx) (Nat.le_refl _) (Nat.le_refl _) wl_M_314 wi_yX12_isCell we_yX12_isCell wn_ShareHouseModel wc_yX12_isCell (Nat.le_of_ble_eq_true rfl) (Nat.le_of_ble_eq_true rfl) rfl rfl wy_yX12_isCell rfl ⟨by decide, by decide⟩ (Nat.le_of_ble_eq_true rfl) ?_
  refine am_ite h (fun hc h => ?_) (fun hc h => ?_)
  · refine am_if_ne_f (t := 13) d_X12_alter_6 (by decide) hc hF ?_
    refine am_seg s_M_alter_4 (y := (12, [(0, .ref 140), (1, .int a1), (2, .int a2), (3, .int a3)], [.int (-1000000000 : Int32)], am_D x1.2)) hF t_s_M_alter_4 rfl rfl ?_
    obtain ⟨rfl, rfl⟩ := am_pair h
    exact am_iret d_X12_alter_12 hF hB
  · refine am_if_ne_t (t := 13) d_X12_alter_6 (by decide) hc hF ?_
    refine am_seg s_M_alter_1 (y := (22, [(0, .ref 140), (1, .int a1), (2, .int a2), (3, .int a3)], [.int (((nI 3) * a1) + a2), .ref 152], am_D x1.2)) hF t_s_M_alter_1 rfl rfl ?_
    refine am_gd h (fun hi h => ?_)
    refine am_iald (n := 384) (j := ((((nI 3) * a1) + a2).toNatClampNeg)) d_X12_alter_22 (Nat.le_of_ble_eq_true rfl) (Nat.le_of_ble_eq_true rfl) rfl hi rfl hF ?_
    refine am_seg s_M_alter_2 (y := (35, [(4, .int (x1.2.1 152 ((((nI 3) * a1) + a2).toNatClampNeg))), (0, .ref 140), (1, .int a1), (2, .int a2), (3, .int a3)], [.int a3, .int (((nI 3) * a1) + a2), .ref 152], am_D x1.2)) hF t_s_M_alter_2 rfl rfl ?_
    refine am_gd h (fun hi h => ?_)
    refine am_iast (n := 384) (j := ((((nI 3) * a1) + a2).toNatClampNeg)) d_X12_alter_35 (Nat.le_of_ble_eq_true rfl) (Nat.le_of_ble_eq_true rfl) rfl hi rfl hF ?_
    refine am_seg s_M_alter_3 (y := (38, [(4, .int (x1.2.1 152 ((((nI 3) * a1) + a2).toNatClampNeg))), (0, .ref 140), (1, .int a1), (2, .int a2), (3, .int a3)], [.int (x1.2.1 152 ((((nI 3) * a1) + a2).toNatClampNeg))], am_D (am_si x1.2 152 ((((nI 3) * a1) + a2).toNatClampNeg) a3))) hF t_s_M_alter_3 rfl rfl ?_
    obtain ⟨rfl, rfl⟩ := am_pair h
    exact am_iret d_X12_alter_38 hF hB
theorem c_M_alter {a1 : Int32} {a2 : Int32} {a3 : Int32} {v : Int32} {τ τ' : am_T} (h : M_alter τ a1 a2 a3 = some (v, τ')) : am_C yX12_alter cX12_alter 5 (some .int) 2 44 [.ref 140, .int a1, .int a2, .int a3] (am_D τ) (some (.int v)) (am_D τ') :=
  am_enter (by decide +kernel) (Nat.le_of_ble_eq_true rfl) ⟨Nat.le_refl _, Nat.le_refl _⟩ (fun X hF hR hB => ok_M_alter hF hR hB h)
def s_M_drop_0 : List am_Q := [(0, .aload_n 0, 0, 0, 0, .null), (1, .getfield 311, 12, 28, 180, .null)]
theorem t_s_M_drop_0 : s_M_drop_0.all (am_ok 12 cX12_drop) = true := by decide +kernel
theorem d_X12_drop_4 : decode cX12_drop 4 = .ok (.ifCond .ne 6, 3) := by decide +kernel
def s_M_drop_1 : List am_Q := [(10, .aload_n 0, 0, 0, 0, .null), (11, .dup, 0, 0, 0, .null), (12, .getfield 311, 12, 28, 180, .null), (15, .iconst 1, 0, 0, 0, .int (nI 1)), (16, .isub, 0, 0, 0, .null), (17, .putfield 311, 12, 28, 180, .null), (20, .aload_n 0, 0, 0, 0, .null), (21, .getfield 311, 12, 28, 180, .null)]
theorem t_s_M_drop_1 : s_M_drop_1.all (am_ok 12 cX12_drop) = true := by decide +kernel
theorem d_X12_drop_24 : decode cX12_drop 24 = .ok (.ireturn, 1) := by decide +kernel
def s_M_drop_2 : List am_Q := [(7, .bipush (-3), 0, 0, 0, .int (-3 : Int32))]
theorem t_s_M_drop_2 : s_M_drop_2.all (am_ok 12 cX12_drop) = true := by decide +kernel
theorem d_X12_drop_9 : decode cX12_drop 9 = .ok (.ireturn, 1) := by decide +kernel
def M_drop (τ : am_T) : Option (Int32 × am_T) :=
  if (τ.1 140 28) = 0 then
  (some ((-3 : Int32), τ))
else
  (some (((am_si τ 140 28 ((τ.1 140 28) - (nI 1))).1 140 28), (am_si τ 140 28 ((τ.1 140 28) - (nI 1)))))
set_option maxRecDepth 20000 in
theorem ok_M_drop {X : am_X} {v : Int32} {τ τ' : am_T} (hF : am_F X "ShareHouseModel" cX12_drop 1) (hR : am_R X 0 0) (hB : am_B X (some .int) (some (.int v)) (am_D τ')) (h : M_drop τ = some (v, τ')) : am_W X 1 (0, [(0, .ref 140)], [], am_D τ) := by
  unfold M_drop at h
  refine am_seg s_M_drop_0 (y := (4, [(0, .ref 140)], [.int (τ.1 140 28)], am_D τ)) hF t_s_M_drop_0 rfl rfl ?_
  refine am_ite h (fun hc h => ?_) (fun hc h => ?_)
  · refine am_if_ne_f (t := 10) d_X12_drop_4 (by decide) hc hF ?_
    refine am_seg s_M_drop_2 (y := (9, [(0, .ref 140)], [.int (-3 : Int32)], am_D τ)) hF t_s_M_drop_2 rfl rfl ?_
    obtain ⟨rfl, rfl⟩ := am_pair h
    exact am_iret d_X12_drop_9 hF hB
  · refine am_if_ne_t (t := 10) d_X12_drop_4 (by decide) hc hF ?_
    refine am_seg s_M_drop_1 (y := (24, [(0, .ref 140)], [.int ((am_si τ 140 28 ((τ.1 140 28) - (nI 1))).1 140 28)], am_D (am_si τ 140 28 ((τ.1 140 28) - (nI 1))))) hF t_s_M_drop_1 rfl rfl ?_
    obtain ⟨rfl, rfl⟩ := am_pair h
    exact am_iret d_X12_drop_24 hF hB
theorem c_M_drop {v : Int32} {τ τ' : am_T} (h : M_drop τ = some (v, τ')) : am_C yX12_drop cX12_drop 1 (some .int) 0 0 [.ref 140] (am_D τ) (some (.int v)) (am_D τ') :=
  am_enter (by decide +kernel) (Nat.le_of_ble_eq_true rfl) ⟨Nat.le_refl _, Nat.le_refl _⟩ (fun X hF hR hB => ok_M_drop hF hR hB h)
def s_M_check_0 : List am_Q := [(0, .aload_n 0, 0, 0, 0, .null), (1, .getfield 41, 12, 26, 178, .null)]
theorem t_s_M_check_0 : s_M_check_0.all (am_ok 12 cX12_check) = true := by decide +kernel
theorem d_X12_check_4 : decode cX12_check 4 = .ok (.ifCond .ge 6, 3) := by decide +kernel
def s_M_check_1 : List am_Q := [(10, .iconst 0, 0, 0, 0, .int (nI 0)), (11, .istore_n 1, 0, 0, 0, .null)]
theorem t_s_M_check_1 : s_M_check_1.all (am_ok 12 cX12_check) = true := by decide +kernel
def s_M_check_2 : List am_Q := [(12, .iload_n 1, 0, 0, 0, .null), (13, .aload_n 0, 0, 0, 0, .null), (14, .getfield 311, 12, 28, 180, .null)]
theorem t_s_M_check_2 : s_M_check_2.all (am_ok 12 cX12_check) = true := by decide +kernel
theorem d_X12_check_17 : decode cX12_check 17 = .ok (.if_icmp .ge 47, 3) := by decide +kernel
def s_M_check_3 : List am_Q := [(64, .aload_n 0, 0, 0, 0, .null), (65, .getfield 311, 12, 28, 180, .null), (68, .aload_n 0, 0, 0, 0, .null), (69, .getfield 41, 12, 26, 178, .null)]
theorem t_s_M_check_3 : s_M_check_3.all (am_ok 12 cX12_check) = true := by decide +kernel
theorem d_X12_check_72 : decode cX12_check 72 = .ok (.if_icmp .ge 10, 3) := by decide +kernel
def s_M_check_4 : List am_Q := [(82, .iconst (-1), 0, 0, 0, .int (-1 : Int32))]
theorem t_s_M_check_4 : s_M_check_4.all (am_ok 12 cX12_check) = true := by decide +kernel
theorem d_X12_check_83 : decode cX12_check 83 = .ok (.ireturn, 1) := by decide +kernel
def s_M_check_5 : List am_Q := [(75, .aload_n 0, 0, 0, 0, .null), (76, .getfield 311, 12, 28, 180, .null), (79, .goto 4, 83, 0, 0, .null)]
theorem t_s_M_check_5 : s_M_check_5.all (am_ok 12 cX12_check) = true := by decide +kernel
def s_M_check_6 : List am_Q := [(20, .iconst 0, 0, 0, 0, .int (nI 0)), (21, .istore_n 2, 0, 0, 0, .null)]
theorem t_s_M_check_6 : s_M_check_6.all (am_ok 12 cX12_check) = true := by decide +kernel
def s_M_check_7 : List am_Q := [(22, .iload_n 2, 0, 0, 0, .null), (23, .iconst 3, 0, 0, 0, .int (nI 3))]
theorem t_s_M_check_7 : s_M_check_7.all (am_ok 12 cX12_check) = true := by decide +kernel
theorem d_X12_check_24 : decode cX12_check 24 = .ok (.if_icmp .ge 34, 3) := by decide +kernel
def s_M_check_8 : List am_Q := [(58, .iinc 1 1, 0, 0, 0, .int (nI 1)), (61, .goto (-49), 12, 0, 0, .null)]
theorem t_s_M_check_8 : s_M_check_8.all (am_ok 12 cX12_check) = true := by decide +kernel
def s_M_check_9 : List am_Q := [(27, .aload_n 0, 0, 0, 0, .null), (28, .getfield 48, 12, 29, 181, .null), (31, .iconst 3, 0, 0, 0, .int (nI 3)), (32, .iload_n 1, 0, 0, 0, .null), (33, .imul, 0, 0, 0, .null), (34, .iload_n 2, 0, 0, 0, .null), (35, .iadd, 0, 0, 0, .null)]
theorem t_s_M_check_9 : s_M_check_9.all (am_ok 12 cX12_check) = true := by decide +kernel
theorem d_X12_check_36 : decode cX12_check 36 = .ok (.iaload, 1) := by decide +kernel
def s_M_check_10 : List am_Q := [(37, .aload_n 0, 0, 0, 0, .null), (38, .getfield 45, 12, 27, 179, .null), (41, .iconst 3, 0, 0, 0, .int (nI 3)), (42, .iload_n 1, 0, 0, 0, .null), (43, .imul, 0, 0, 0, .null), (44, .iload_n 2, 0, 0, 0, .null), (45, .iadd, 0, 0, 0, .null)]
theorem t_s_M_check_10 : s_M_check_10.all (am_ok 12 cX12_check) = true := by decide +kernel
theorem d_X12_check_46 : decode cX12_check 46 = .ok (.iaload, 1) := by decide +kernel
theorem d_X12_check_47 : decode cX12_check 47 = .ok (.if_icmp .eq 5, 3) := by decide +kernel
def s_M_check_11 : List am_Q := [(52, .iinc 2 1, 0, 0, 0, .int (nI 1)), (55, .goto (-33), 22, 0, 0, .null)]
theorem t_s_M_check_11 : s_M_check_11.all (am_ok 12 cX12_check) = true := by decide +kernel
def s_M_check_12 : List am_Q := [(50, .iload_n 1, 0, 0, 0, .null)]
theorem t_s_M_check_12 : s_M_check_12.all (am_ok 12 cX12_check) = true := by decide +kernel
theorem d_X12_check_51 : decode cX12_check 51 = .ok (.ireturn, 1) := by decide +kernel
def s_M_check_13 : List am_Q := [(7, .bipush (-3), 0, 0, 0, .int (-3 : Int32))]
theorem t_s_M_check_13 : s_M_check_13.all (am_ok 12 cX12_check) = true := by decide +kernel
theorem d_X12_check_9 : decode cX12_check 9 = .ok (.ireturn, 1) := by decide +kernel
def M_check_22 (k12 : am_T → Int32 → Option (Int32 × am_T)) : Nat → am_T → Int32 → Int32 → Option (Int32 × am_T)
  | 0, _, _, _ => none
  | n + 1, τ, a1, a2 =>
    if (nI 3) ≤ a2 then
  (k12 τ (a1 + (nI 1)))
else
  (am_g (am_in (((nI 3) * a1) + a2) 384) (am_g (am_in (((nI 3) * a1) + a2) 384) (if (τ.1 152 ((((nI 3) * a1) + a2).toNatClampNeg)) = (τ.1 151 ((((nI 3) * a1) + a2).toNatClampNeg)) then
  ((M_check_22 k12 n) τ a1 (a2 + (nI 1)))
else
  (some (a1, τ)))))
set_option maxRecDepth 20000 in
theorem ok_M_check_22 {X : am_X} {v : Int32} {τ' : am_T} (hF : am_F X "ShareHouseModel" cX12_check 3) (hR : am_R X 0 0) (hB : am_B X (some .int) (some (.int v)) (am_D τ')) {k12 : am_T → Int32 → Option (Int32 × am_T)} (hk12 : ∀ (τ : am_T) (a1 : Int32), k12 τ a1 = some (v, τ') → am_W X 3 (12, [(0, .ref 140), (1, .int a1)], [], am_D τ)) : ∀ (n : Nat) (τ : am_T) (a1 : Int32) (a2 : Int32), M_check_22 k12 n τ a1 a2 = some (v, τ') → am_W X 3 (22, [(0, .ref 140), (1, .int a1), (2, .int a2)], [], am_D τ) := by
  intro n
  induction n with
  | zero => intro τ a1 a2 h; unfold M_check_22 at h; cases h
  | succ n ih =>
    intro τ a1 a2 h
    unfold M_check_22 at h
    refine am_seg s_M_check_7 (y := (24, [(0, .ref 140), (1, .int a1), (2, .int a2)], [.int (nI 3), .int a2], am_D τ)) hF t_s_M_check_7 rfl rfl ?_
    refine am_ite h (fun hc h => ?_) (fun hc h => ?_)
    · refine am_icmp_ge_t (t := 58) d_X12_check_24 (by decide) hc hF ?_
      refine am_seg s_M_check_8 (y := (12, [(1, .int (a1 + (nI 1))), (0, .ref 140), (2, .int a2)], [], am_D τ)) hF t_s_M_check_8 rfl rfl ?_
      refine am_pick [1, 0] rfl ?_
      exact hk12 _ _ h
    · refine am_icmp_ge_f (t := 58) d_X12_check_24 (by decide) hc hF ?_
      refine am_seg s_M_check_9 (y := (36, [(0, .ref 140), (1, .int a1), (2, .int a2)], [.int (((nI 3) * a1) + a2), .ref 152], am_D τ)) hF t_s_M_check_9 rfl rfl ?_
      refine am_gd h (fun hi h => ?_)
      refine am_iald (n := 384) (j := ((((nI 3) * a1) + a2).toNatClampNeg)) d_X12_check_36 (Nat.le_of_ble_eq_true rfl) (Nat.le_of_ble_eq_true rfl) rfl hi rfl hF ?_
      refine am_seg s_M_check_10 (y := (46, [(0, .ref 140), (1, .int a1), (2, .int a2)], [.int (((nI 3) * a1) + a2), .ref 151, .int (τ.1 152 ((((nI 3) * a1) + a2).toNatClampNeg))], am_D τ)) hF t_s_M_check_10 rfl rfl ?_
      refine am_gd h (fun hi h => ?_)
      refine am_iald (n := 384) (j := ((((nI 3) * a1) + a2).toNatClampNeg)) d_X12_check_46 (Nat.le_of_ble_eq_true rfl) (Nat.le_of_ble_eq_true rfl) rfl hi rfl hF ?_
      refine am_ite h (fun hc h => ?_) (fun hc h => ?_)
      · refine am_icmp_eq_t (t := 52) d_X12_check_47 (by decide) hc hF ?_
        refine am_seg s_M_check_11 (y := (22, [(2, .int (a2 + (nI 1))), (0, .ref 140), (1, .int a1)], [], am_D τ)) hF t_s_M_check_11 rfl rfl ?_
        refine am_pick [1, 2, 0] rfl ?_
        exact ih _ _ _ h
      · refine am_icmp_eq_f (t := 52) d_X12_check_47 (by decide) hc hF ?_
        refine am_seg s_M_check_12 (y := (51, [(0, .ref 140), (1, .int a1), (2, .int a2)], [.int a1], am_D τ)) hF t_s_M_check_12 rfl rfl ?_
        obtain ⟨rfl, rfl⟩ := am_pair h
        exact am_iret d_X12_check_51 hF hB
def M_check_12 : Nat → am_T → Int32 → Option (Int32 × am_T)
  | 0, _, _ => none
  | n + 1, τ, a1 =>
    if (τ.1 140 28) ≤ a1 then
  (if (τ.1 140 26) ≤ (τ.1 140 28) then
  (some ((-1 : Int32), τ))
else
  (some ((τ.1 140 28), τ)))
else
  (M_check_22 (M_check_12 n) 5000 τ a1 (nI 0))
set_option maxRecDepth 20000 in
theorem ok_M_check_12 {X : am_X} {v : Int32} {τ' : am_T} (hF : am_F X "ShareHouseModel" cX12_check 3) (hR : am_R X 0 0) (hB : am_B X (some .int) (some (.int v)) (am_D τ')) : ∀ (n : Nat) (τ : am_T) (a1 : Int32), M_check_12 n τ a1 = some (v, τ') → am_W X 3 (12, [(0, .ref 140), (1, .int a1)], [], am_D τ) := by
  intro n
  induction n with
  | zero => intro τ a1 h; unfold M_check_12 at h; cases h
  | succ n ih =>
    intro τ a1 h
    unfold M_check_12 at h
    refine am_seg s_M_check_2 (y := (17, [(0, .ref 140), (1, .int a1)], [.int (τ.1 140 28), .int a1], am_D τ)) hF t_s_M_check_2 rfl rfl ?_
    refine am_ite h (fun hc h => ?_) (fun hc h => ?_)
    · refine am_icmp_ge_t (t := 64) d_X12_check_17 (by decide) hc hF ?_
      refine am_seg s_M_check_3 (y := (72, [(0, .ref 140), (1, .int a1)], [.int (τ.1 140 26), .int (τ.1 140 28)], am_D τ)) hF t_s_M_check_3 rfl rfl ?_
      refine am_ite h (fun hc h => ?_) (fun hc h => ?_)
      · refine am_icmp_ge_t (t := 82) d_X12_check_72 (by decide) hc hF ?_
        refine am_seg s_M_check_4 (y := (83, [(0, .ref 140), (1, .int a1)], [.int (-1 : Int32)], am_D τ)) hF t_s_M_check_4 rfl rfl ?_
        obtain ⟨rfl, rfl⟩ := am_pair h
        exact am_iret d_X12_check_83 hF hB
      · refine am_icmp_ge_f (t := 82) d_X12_check_72 (by decide) hc hF ?_
        refine am_seg s_M_check_5 (y := (83, [(0, .ref 140), (1, .int a1)], [.int (τ.1 140 28)], am_D τ)) hF t_s_M_check_5 rfl rfl ?_
        obtain ⟨rfl, rfl⟩ := am_pair h
        exact am_iret d_X12_check_83 hF hB
    · refine am_icmp_ge_f (t := 64) d_X12_check_17 (by decide) hc hF ?_
      refine am_seg s_M_check_6 (y := (22, [(2, .int (nI 0)), (0, .ref 140), (1, .int a1)], [], am_D τ)) hF t_s_M_check_6 rfl rfl ?_
      refine am_pick [1, 2, 0] rfl ?_
      exact ok_M_check_22 hF hR hB ih _ _ _ _ h
def M_check (τ : am_T) : Option (Int32 × am_T) :=
  if 0 ≤ (τ.1 140 26) then
  (M_check_12 5000 τ (nI 0))
else
  (some ((-3 : Int32), τ))
set_option maxRecDepth 20000 in
theorem ok_M_check {X : am_X} {v : Int32} {τ τ' : am_T} (hF : am_F X "ShareHouseModel" cX12_check 3) (hR : am_R X 0 0) (hB : am_B X (some .int) (some (.int v)) (am_D τ')) (h : M_check τ = some (v, τ')) : am_W X 3 (0, [(0, .ref 140)], [], am_D τ) := by
  unfold M_check at h
  refine am_seg s_M_check_0 (y := (4, [(0, .ref 140)], [.int (τ.1 140 26)], am_D τ)) hF t_s_M_check_0 rfl rfl ?_
  refine am_ite h (fun hc h => ?_) (fun hc h => ?_)
  · refine am_if_ge_t (t := 10) d_X12_check_4 (by decide) hc hF ?_
    refine am_seg s_M_check_1 (y := (12, [(1, .int (nI 0)), (0, .ref 140)], [], am_D τ)) hF t_s_M_check_1 rfl rfl ?_
    refine am_pick [1, 0] rfl ?_
    exact ok_M_check_12 hF hR hB _ _ _ h
  · refine am_if_ge_f (t := 10) d_X12_check_4 (by decide) hc hF ?_
    refine am_seg s_M_check_13 (y := (9, [(0, .ref 140)], [.int (-3 : Int32)], am_D τ)) hF t_s_M_check_13 rfl rfl ?_
    obtain ⟨rfl, rfl⟩ := am_pair h
    exact am_iret d_X12_check_9 hF hB
theorem c_M_check {v : Int32} {τ τ' : am_T} (h : M_check τ = some (v, τ')) : am_C yX12_check cX12_check 3 (some .int) 0 0 [.ref 140] (am_D τ) (some (.int v)) (am_D τ') :=
  am_enter (by decide +kernel) (Nat.le_of_ble_eq_true rfl) ⟨Nat.le_refl _, Nat.le_refl _⟩ (fun X hF hR hB => ok_M_check hF hR hB h)

def s_M_buyers_0 : List am_Q := [(0, .iconst (-1), 0, 0, 0, .int (-1 : Int32)), (1, .istore_n 1, 0, 0, 0, .null), (2, .iconst 1, 0, 0, 0, .int (nI 1)), (3, .istore_n 2, 0, 0, 0, .null)]
theorem t_s_M_buyers_0 : s_M_buyers_0.all (am_ok 12 cX12_buyers) = true := by decide +kernel
def s_M_buyers_1 : List am_Q := [(4, .iload_n 2, 0, 0, 0, .null), (5, .sipush 256, 0, 0, 0, .int (nI 256))]
theorem t_s_M_buyers_1 : s_M_buyers_1.all (am_ok 12 cX12_buyers) = true := by decide +kernel
theorem d_X12_buyers_8 : decode cX12_buyers 8 = .ok (.if_icmp .ge 166, 3) := by decide +kernel
def s_M_buyers_2 : List am_Q := [(174, .iload_n 1, 0, 0, 0, .null)]
theorem t_s_M_buyers_2 : s_M_buyers_2.all (am_ok 12 cX12_buyers) = true := by decide +kernel
theorem d_X12_buyers_175 : decode cX12_buyers 175 = .ok (.ifCond .ge 8, 3) := by decide +kernel
def s_M_buyers_3 : List am_Q := [(183, .iload_n 1, 0, 0, 0, .null)]
theorem t_s_M_buyers_3 : s_M_buyers_3.all (am_ok 12 cX12_buyers) = true := by decide +kernel
theorem d_X12_buyers_184 : decode cX12_buyers 184 = .ok (.ireturn, 1) := by decide +kernel
def s_M_buyers_4 : List am_Q := [(178, .bipush (-3), 0, 0, 0, .int (-3 : Int32)), (180, .goto 4, 184, 0, 0, .null)]
theorem t_s_M_buyers_4 : s_M_buyers_4.all (am_ok 12 cX12_buyers) = true := by decide +kernel
def s_M_buyers_5 : List am_Q := [(11, .iconst 0, 0, 0, 0, .int (nI 0)), (12, .istore_n 3, 0, 0, 0, .null), (13, .iconst 0, 0, 0, 0, .int (nI 0)), (14, .istore 4, 0, 0, 0, .null), (16, .iconst 0, 0, 0, 0, .int (nI 0)), (17, .istore 5, 0, 0, 0, .null)]
theorem t_s_M_buyers_5 : s_M_buyers_5.all (am_ok 12 cX12_buyers) = true := by decide +kernel
def s_M_buyers_6 : List am_Q := [(19, .iload 5, 0, 0, 0, .null), (21, .bipush 8, 0, 0, 0, .int (nI 8))]
theorem t_s_M_buyers_6 : s_M_buyers_6.all (am_ok 12 cX12_buyers) = true := by decide +kernel
theorem d_X12_buyers_23 : decode cX12_buyers 23 = .ok (.if_icmp .ge 20, 3) := by decide +kernel
def s_M_buyers_7 : List am_Q := [(43, .iconst 0, 0, 0, 0, .int (nI 0)), (44, .istore 5, 0, 0, 0, .null)]
theorem t_s_M_buyers_7 : s_M_buyers_7.all (am_ok 12 cX12_buyers) = true := by decide +kernel
def s_M_buyers_8 : List am_Q := [(46, .iload 5, 0, 0, 0, .null), (48, .aload_n 0, 0, 0, 0, .null), (49, .getfield 7, 12, 0, 152, .null), (52, .iconst 1, 0, 0, 0, .int (nI 1))]
theorem t_s_M_buyers_8 : s_M_buyers_8.all (am_ok 12 cX12_buyers) = true := by decide +kernel
theorem d_X12_buyers_53 : decode cX12_buyers 53 = .ok (.iaload, 1) := by decide +kernel
theorem d_X12_buyers_54 : decode cX12_buyers 54 = .ok (.if_icmp .ge 52, 3) := by decide +kernel
def s_M_buyers_9 : List am_Q := [(106, .iconst 0, 0, 0, 0, .int (nI 0)), (107, .istore 5, 0, 0, 0, .null), (109, .iconst 0, 0, 0, 0, .int (nI 0)), (110, .istore 6, 0, 0, 0, .null)]
theorem t_s_M_buyers_9 : s_M_buyers_9.all (am_ok 12 cX12_buyers) = true := by decide +kernel
def s_M_buyers_10 : List am_Q := [(112, .iload 6, 0, 0, 0, .null), (114, .bipush 8, 0, 0, 0, .int (nI 8))]
theorem t_s_M_buyers_10 : s_M_buyers_10.all (am_ok 12 cX12_buyers) = true := by decide +kernel
theorem d_X12_buyers_116 : decode cX12_buyers 116 = .ok (.if_icmp .ge 24, 3) := by decide +kernel
def s_M_buyers_11 : List am_Q := [(140, .iconst 2, 0, 0, 0, .int (nI 2)), (141, .iload_n 3, 0, 0, 0, .null), (142, .imul, 0, 0, 0, .null), (143, .aload_n 0, 0, 0, 0, .null), (144, .iconst 1, 0, 0, 0, .int (nI 1))]
theorem t_s_M_buyers_11 : s_M_buyers_11.all (am_ok 12 cX12_buyers) = true := by decide +kernel
theorem d_X12_buyers_145 : decode cX12_buyers 145 = .ok (.invokevirtual 195, 3) := by decide +kernel
theorem d_X12_buyers_148 : decode cX12_buyers 148 = .ok (.if_icmp .le 18, 3) := by decide +kernel
def s_M_buyers_12 : List am_Q := [(166, .iload_n 1, 0, 0, 0, .null), (167, .istore_n 1, 0, 0, 0, .null), (168, .iinc 2 1, 0, 0, 0, .int (nI 1)), (171, .goto (-167), 4, 0, 0, .null)]
theorem t_s_M_buyers_12 : s_M_buyers_12.all (am_ok 12 cX12_buyers) = true := by decide +kernel
def s_M_buyers_13 : List am_Q := [(151, .iload_n 1, 0, 0, 0, .null)]
theorem t_s_M_buyers_13 : s_M_buyers_13.all (am_ok 12 cX12_buyers) = true := by decide +kernel
theorem d_X12_buyers_152 : decode cX12_buyers 152 = .ok (.ifCond .lt 10, 3) := by decide +kernel
def s_M_buyers_14 : List am_Q := [(162, .iload_n 2, 0, 0, 0, .null), (163, .goto 4, 167, 0, 0, .null), (167, .istore_n 1, 0, 0, 0, .null), (168, .iinc 2 1, 0, 0, 0, .int (nI 1)), (171, .goto (-167), 4, 0, 0, .null)]
theorem t_s_M_buyers_14 : s_M_buyers_14.all (am_ok 12 cX12_buyers) = true := by decide +kernel
def s_M_buyers_15 : List am_Q := [(155, .iload 4, 0, 0, 0, .null), (157, .iload 5, 0, 0, 0, .null)]
theorem t_s_M_buyers_15 : s_M_buyers_15.all (am_ok 12 cX12_buyers) = true := by decide +kernel
theorem d_X12_buyers_159 : decode cX12_buyers 159 = .ok (.if_icmp .ge 7, 3) := by decide +kernel
def s_M_buyers_16 : List am_Q := [(166, .iload_n 1, 0, 0, 0, .null), (167, .istore_n 1, 0, 0, 0, .null), (168, .iinc 2 1, 0, 0, 0, .int (nI 1)), (171, .goto (-167), 4, 0, 0, .null)]
theorem t_s_M_buyers_16 : s_M_buyers_16.all (am_ok 12 cX12_buyers) = true := by decide +kernel
def s_M_buyers_17 : List am_Q := [(162, .iload_n 2, 0, 0, 0, .null), (163, .goto 4, 167, 0, 0, .null), (167, .istore_n 1, 0, 0, 0, .null), (168, .iinc 2 1, 0, 0, 0, .int (nI 1)), (171, .goto (-167), 4, 0, 0, .null)]
theorem t_s_M_buyers_17 : s_M_buyers_17.all (am_ok 12 cX12_buyers) = true := by decide +kernel
def s_M_buyers_18 : List am_Q := [(119, .iload_n 1, 0, 0, 0, .null)]
theorem t_s_M_buyers_18 : s_M_buyers_18.all (am_ok 12 cX12_buyers) = true := by decide +kernel
theorem d_X12_buyers_120 : decode cX12_buyers 120 = .ok (.ifCond .le 20, 3) := by decide +kernel
def s_M_buyers_19 : List am_Q := [(123, .iload 5, 0, 0, 0, .null), (125, .iload_n 1, 0, 0, 0, .null), (126, .iload 6, 0, 0, 0, .null), (128, .ishr, 0, 0, 0, .null), (129, .iconst 1, 0, 0, 0, .int (nI 1)), (130, .iand, 0, 0, 0, .null), (131, .iadd, 0, 0, 0, .null), (132, .istore 5, 0, 0, 0, .null), (134, .iinc 6 1, 0, 0, 0, .int (nI 1)), (137, .goto (-25), 112, 0, 0, .null)]
theorem t_s_M_buyers_19 : s_M_buyers_19.all (am_ok 12 cX12_buyers) = true := by decide +kernel
def s_M_buyers_20 : List am_Q := [(57, .aload_n 0, 0, 0, 0, .null), (58, .iload 5, 0, 0, 0, .null), (60, .aload_n 0, 0, 0, 0, .null), (61, .getfield 7, 12, 0, 152, .null), (64, .iconst 0, 0, 0, 0, .int (nI 0))]
theorem t_s_M_buyers_20 : s_M_buyers_20.all (am_ok 12 cX12_buyers) = true := by decide +kernel
theorem d_X12_buyers_65 : decode cX12_buyers 65 = .ok (.iaload, 1) := by decide +kernel
theorem d_X12_buyers_66 : decode cX12_buyers 66 = .ok (.invokevirtual 267, 3) := by decide +kernel
def s_M_buyers_21 : List am_Q := [(69, .istore 6, 0, 0, 0, .null), (71, .iload_n 3, 0, 0, 0, .null), (72, .iload 6, 0, 0, 0, .null)]
theorem t_s_M_buyers_21 : s_M_buyers_21.all (am_ok 12 cX12_buyers) = true := by decide +kernel
theorem d_X12_buyers_74 : decode cX12_buyers 74 = .ok (.ifCond .lt 23, 3) := by decide +kernel
def s_M_buyers_22 : List am_Q := [(97, .iconst 0, 0, 0, 0, .int (nI 0)), (98, .iadd, 0, 0, 0, .null), (99, .istore_n 3, 0, 0, 0, .null), (100, .iinc 5 1, 0, 0, 0, .int (nI 1)), (103, .goto (-57), 46, 0, 0, .null)]
theorem t_s_M_buyers_22 : s_M_buyers_22.all (am_ok 12 cX12_buyers) = true := by decide +kernel
def s_M_buyers_23 : List am_Q := [(77, .iload_n 2, 0, 0, 0, .null), (78, .iload 6, 0, 0, 0, .null), (80, .ishr, 0, 0, 0, .null), (81, .iconst 1, 0, 0, 0, .int (nI 1)), (82, .iand, 0, 0, 0, .null), (83, .iconst 1, 0, 0, 0, .int (nI 1))]
theorem t_s_M_buyers_23 : s_M_buyers_23.all (am_ok 12 cX12_buyers) = true := by decide +kernel
theorem d_X12_buyers_84 : decode cX12_buyers 84 = .ok (.if_icmp .ne 13, 3) := by decide +kernel
def s_M_buyers_24 : List am_Q := [(97, .iconst 0, 0, 0, 0, .int (nI 0)), (98, .iadd, 0, 0, 0, .null), (99, .istore_n 3, 0, 0, 0, .null), (100, .iinc 5 1, 0, 0, 0, .int (nI 1)), (103, .goto (-57), 46, 0, 0, .null)]
theorem t_s_M_buyers_24 : s_M_buyers_24.all (am_ok 12 cX12_buyers) = true := by decide +kernel
def s_M_buyers_25 : List am_Q := [(87, .aload_n 0, 0, 0, 0, .null), (88, .iload 5, 0, 0, 0, .null), (90, .iconst 1, 0, 0, 0, .int (nI 1))]
theorem t_s_M_buyers_25 : s_M_buyers_25.all (am_ok 12 cX12_buyers) = true := by decide +kernel
theorem d_X12_buyers_91 : decode cX12_buyers 91 = .ok (.invokevirtual 146, 3) := by decide +kernel
def s_M_buyers_26 : List am_Q := [(94, .goto 4, 98, 0, 0, .null), (98, .iadd, 0, 0, 0, .null), (99, .istore_n 3, 0, 0, 0, .null), (100, .iinc 5 1, 0, 0, 0, .int (nI 1)), (103, .goto (-57), 46, 0, 0, .null)]
theorem t_s_M_buyers_26 : s_M_buyers_26.all (am_ok 12 cX12_buyers) = true := by decide +kernel
def s_M_buyers_27 : List am_Q := [(26, .iload 4, 0, 0, 0, .null), (28, .iload_n 2, 0, 0, 0, .null), (29, .iload 5, 0, 0, 0, .null), (31, .ishr, 0, 0, 0, .null), (32, .iconst 1, 0, 0, 0, .int (nI 1)), (33, .iand, 0, 0, 0, .null), (34, .iadd, 0, 0, 0, .null), (35, .istore 4, 0, 0, 0, .null), (37, .iinc 5 1, 0, 0, 0, .int (nI 1)), (40, .goto (-21), 19, 0, 0, .null)]
theorem t_s_M_buyers_27 : s_M_buyers_27.all (am_ok 12 cX12_buyers) = true := by decide +kernel
def M_buyers_140 (k4 : am_T → Int32 → Int32 → Option (Int32 × am_T)) (τ : am_T) (a1 : Int32) (a2 : Int32) (a3 : Int32) (a4 : Int32) (a5 : Int32) : Option (Int32 × am_T) :=
  (M_together τ (nI 1)).bind (fun x1 =>
  if ((nI 2) * a3) ≤ x1.1 then
  (k4 x1.2 a1 (a2 + (nI 1)))
else
  (if a1 < 0 then
  (k4 x1.2 a2 (a2 + (nI 1)))
else
  (if a5 ≤ a4 then
  (k4 x1.2 a1 (a2 + (nI 1)))
else
  (k4 x1.2 a2 (a2 + (nI 1))))))
set_option maxRecDepth 20000 in
theorem ok_M_buyers_140 {X : am_X} {v : Int32} {τ' : am_T} (hF : am_F X "ShareHouseModel" cX12_buyers 7) (hR : am_R X 2 45) (hB : am_B X (some .int) (some (.int v)) (am_D τ')) {k4 : am_T → Int32 → Int32 → Option (Int32 × am_T)} (hk4 : ∀ (τ : am_T) (a1 : Int32) (a2 : Int32), k4 τ a1 a2 = some (v, τ') → am_W X 7 (4, [(0, .ref 140), (1, .int a1), (2, .int a2)], [], am_D τ)) {τ : am_T} {a1 : Int32} {a2 : Int32} {a3 : Int32} {a4 : Int32} {a5 : Int32} (h : M_buyers_140 k4 τ a1 a2 a3 a4 a5 = some (v, τ')) : am_W X 7 (140, [(0, .ref 140), (1, .int a1), (2, .int a2), (3, .int a3), (4, .int a4), (5, .int a5)], [], am_D τ) := by
  unfold M_buyers_140 at h
  refine am_seg s_M_buyers_11 (y := (145, [(0, .ref 140), (1, .int a1), (2, .int a2), (3, .int a3), (4, .int a4), (5, .int a5)], [.int (nI 1), .ref 140, .int ((nI 2) * a3)], am_D τ)) hF t_s_M_buyers_11 rfl rfl ?_
  refine am_bd h (fun x1 hx h => ?_)
  refine am_callV (As := [.int (nI 1)]) (r := (some (.int x1.1))) (st := [.int ((nI 2) * a3)]) (σ' := am_D x1.2) (ci := 12) hF hR d_X12_buyers_145 (c_M_together (τ' := x1.2) hx) (Nat.le_refl _) (Nat.le_refl _) wl_M_195 wi_yX12_together we_yX12_together wn_ShareHouseModel wc_yX12_together (Nat.le_of_ble_eq_true rfl) (Nat.le_of_ble_eq_true rfl) rfl rfl wy_yX12_together rfl ⟨by decide, by decide⟩ (Nat.le_of_ble_eq_true rfl) ?_
  refine am_ite h (fun hc h => ?_) (fun hc h => ?_)
  · refine am_icmp_le_t (t := 166) d_X12_buyers_148 (by decide) hc hF ?_
    refine am_seg s_M_buyers_12 (y := (4, [(2, .int (a2 + (nI 1))), (1, .int a1), (0, .ref 140), (3, .int a3), (4, .int a4), (5, .int a5)], [], am_D x1.2)) hF t_s_M_buyers_12 rfl rfl ?_
    refine am_pick [2, 1, 0] rfl ?_
    exact hk4 _ _ _ h
  · refine am_icmp_le_f (t := 166) d_X12_buyers_148 (by decide) hc hF ?_
    refine am_seg s_M_buyers_13 (y := (152, [(0, .ref 140), (1, .int a1), (2, .int a2), (3, .int a3), (4, .int a4), (5, .int a5)], [.int a1], am_D x1.2)) hF t_s_M_buyers_13 rfl rfl ?_
    refine am_ite h (fun hc h => ?_) (fun hc h => ?_)
    · refine am_if_lt_t (t := 162) d_X12_buyers_152 (by decide) hc hF ?_
      refine am_seg s_M_buyers_14 (y := (4, [(2, .int (a2 + (nI 1))), (1, .int a2), (0, .ref 140), (3, .int a3), (4, .int a4), (5, .int a5)], [], am_D x1.2)) hF t_s_M_buyers_14 rfl rfl ?_
      refine am_pick [2, 1, 0] rfl ?_
      exact hk4 _ _ _ h
    · refine am_if_lt_f (t := 162) d_X12_buyers_152 (by decide) hc hF ?_
      refine am_seg s_M_buyers_15 (y := (159, [(0, .ref 140), (1, .int a1), (2, .int a2), (3, .int a3), (4, .int a4), (5, .int a5)], [.int a5, .int a4], am_D x1.2)) hF t_s_M_buyers_15 rfl rfl ?_
      refine am_ite h (fun hc h => ?_) (fun hc h => ?_)
      · refine am_icmp_ge_t (t := 166) d_X12_buyers_159 (by decide) hc hF ?_
        refine am_seg s_M_buyers_16 (y := (4, [(2, .int (a2 + (nI 1))), (1, .int a1), (0, .ref 140), (3, .int a3), (4, .int a4), (5, .int a5)], [], am_D x1.2)) hF t_s_M_buyers_16 rfl rfl ?_
        refine am_pick [2, 1, 0] rfl ?_
        exact hk4 _ _ _ h
      · refine am_icmp_ge_f (t := 166) d_X12_buyers_159 (by decide) hc hF ?_
        refine am_seg s_M_buyers_17 (y := (4, [(2, .int (a2 + (nI 1))), (1, .int a2), (0, .ref 140), (3, .int a3), (4, .int a4), (5, .int a5)], [], am_D x1.2)) hF t_s_M_buyers_17 rfl rfl ?_
        refine am_pick [2, 1, 0] rfl ?_
        exact hk4 _ _ _ h
def M_buyers_112 (k4 : am_T → Int32 → Int32 → Option (Int32 × am_T)) : Nat → am_T → Int32 → Int32 → Int32 → Int32 → Int32 → Int32 → Option (Int32 × am_T)
  | 0, _, _, _, _, _, _, _ => none
  | n + 1, τ, a1, a2, a3, a4, a5, a6 =>
    if (nI 8) ≤ a6 then
  (M_buyers_140 k4 τ a1 a2 a3 a4 a5)
else
  (if a1 ≤ 0 then
  (M_buyers_140 k4 τ a1 a2 a3 a4 a5)
else
  ((M_buyers_112 k4 n) τ a1 a2 a3 a4 (a5 + ((a1 >>> (a6 &&& 31)) &&& (nI 1))) (a6 + (nI 1))))
set_option maxRecDepth 20000 in
theorem ok_M_buyers_112 {X : am_X} {v : Int32} {τ' : am_T} (hF : am_F X "ShareHouseModel" cX12_buyers 7) (hR : am_R X 2 45) (hB : am_B X (some .int) (some (.int v)) (am_D τ')) {k4 : am_T → Int32 → Int32 → Option (Int32 × am_T)} (hk4 : ∀ (τ : am_T) (a1 : Int32) (a2 : Int32), k4 τ a1 a2 = some (v, τ') → am_W X 7 (4, [(0, .ref 140), (1, .int a1), (2, .int a2)], [], am_D τ)) : ∀ (n : Nat) (τ : am_T) (a1 : Int32) (a2 : Int32) (a3 : Int32) (a4 : Int32) (a5 : Int32) (a6 : Int32), M_buyers_112 k4 n τ a1 a2 a3 a4 a5 a6 = some (v, τ') → am_W X 7 (112, [(0, .ref 140), (1, .int a1), (2, .int a2), (3, .int a3), (4, .int a4), (5, .int a5), (6, .int a6)], [], am_D τ) := by
  intro n
  induction n with
  | zero => intro τ a1 a2 a3 a4 a5 a6 h; unfold M_buyers_112 at h; cases h
  | succ n ih =>
    intro τ a1 a2 a3 a4 a5 a6 h
    unfold M_buyers_112 at h
    refine am_seg s_M_buyers_10 (y := (116, [(0, .ref 140), (1, .int a1), (2, .int a2), (3, .int a3), (4, .int a4), (5, .int a5), (6, .int a6)], [.int (nI 8), .int a6], am_D τ)) hF t_s_M_buyers_10 rfl rfl ?_
    refine am_ite h (fun hc h => ?_) (fun hc h => ?_)
    · refine am_icmp_ge_t (t := 140) d_X12_buyers_116 (by decide) hc hF ?_
      refine am_pick [0, 1, 2, 3, 4, 5] rfl ?_
      exact ok_M_buyers_140 hF hR hB hk4 h
    · refine am_icmp_ge_f (t := 140) d_X12_buyers_116 (by decide) hc hF ?_
      refine am_seg s_M_buyers_18 (y := (120, [(0, .ref 140), (1, .int a1), (2, .int a2), (3, .int a3), (4, .int a4), (5, .int a5), (6, .int a6)], [.int a1], am_D τ)) hF t_s_M_buyers_18 rfl rfl ?_
      refine am_ite h (fun hc h => ?_) (fun hc h => ?_)
      · refine am_if_le_t (t := 140) d_X12_buyers_120 (by decide) hc hF ?_
        refine am_pick [0, 1, 2, 3, 4, 5] rfl ?_
        exact ok_M_buyers_140 hF hR hB hk4 h
      · refine am_if_le_f (t := 140) d_X12_buyers_120 (by decide) hc hF ?_
        refine am_seg s_M_buyers_19 (y := (112, [(6, .int (a6 + (nI 1))), (5, .int (a5 + ((a1 >>> (a6 &&& 31)) &&& (nI 1)))), (0, .ref 140), (1, .int a1), (2, .int a2), (3, .int a3), (4, .int a4)], [], am_D τ)) hF t_s_M_buyers_19 rfl rfl ?_
        refine am_pick [2, 3, 4, 5, 6, 1, 0] rfl ?_
        exact ih _ _ _ _ _ _ _ h
def M_buyers_46 (k4 : am_T → Int32 → Int32 → Option (Int32 × am_T)) : Nat → am_T → Int32 → Int32 → Int32 → Int32 → Int32 → Option (Int32 × am_T)
  | 0, _, _, _, _, _, _ => none
  | n + 1, τ, a1, a2, a3, a4, a5 =>
    if (τ.1 141 1) ≤ a5 then
  (M_buyers_112 k4 5000 τ a1 a2 a3 a4 (nI 0) (nI 0))
else
  ((M_ownerOf τ a5 (τ.1 141 0)).bind (fun x2 =>
  if x2.1 < 0 then
  ((M_buyers_46 k4 n) x2.2 a1 a2 (a3 + (nI 0)) a4 (a5 + (nI 1)))
else
  (if ((a2 >>> (x2.1 &&& 31)) &&& (nI 1)) = (nI 1) then
  ((M_flatOf x2.2 a5 (nI 1)).bind (fun x3 =>
  (M_buyers_46 k4 n) x3.2 a1 a2 (a3 + x3.1) a4 (a5 + (nI 1))))
else
  ((M_buyers_46 k4 n) x2.2 a1 a2 (a3 + (nI 0)) a4 (a5 + (nI 1))))))
set_option maxRecDepth 20000 in
theorem ok_M_buyers_46 {X : am_X} {v : Int32} {τ' : am_T} (hF : am_F X "ShareHouseModel" cX12_buyers 7) (hR : am_R X 2 45) (hB : am_B X (some .int) (some (.int v)) (am_D τ')) {k4 : am_T → Int32 → Int32 → Option (Int32 × am_T)} (hk4 : ∀ (τ : am_T) (a1 : Int32) (a2 : Int32), k4 τ a1 a2 = some (v, τ') → am_W X 7 (4, [(0, .ref 140), (1, .int a1), (2, .int a2)], [], am_D τ)) : ∀ (n : Nat) (τ : am_T) (a1 : Int32) (a2 : Int32) (a3 : Int32) (a4 : Int32) (a5 : Int32), M_buyers_46 k4 n τ a1 a2 a3 a4 a5 = some (v, τ') → am_W X 7 (46, [(0, .ref 140), (1, .int a1), (2, .int a2), (3, .int a3), (4, .int a4), (5, .int a5)], [], am_D τ) := by
  intro n
  induction n with
  | zero => intro τ a1 a2 a3 a4 a5 h; unfold M_buyers_46 at h; cases h
  | succ n ih =>
    intro τ a1 a2 a3 a4 a5 h
    unfold M_buyers_46 at h
    refine am_seg s_M_buyers_8 (y := (53, [(0, .ref 140), (1, .int a1), (2, .int a2), (3, .int a3), (4, .int a4), (5, .int a5)], [.int (nI 1), .ref 141, .int a5], am_D τ)) hF t_s_M_buyers_8 rfl rfl ?_
    refine am_iald (n := 1060) (j := 1) d_X12_buyers_53 (Nat.le_of_ble_eq_true rfl) (Nat.le_of_ble_eq_true rfl) rfl (by decide) rfl hF ?_
    refine am_ite h (fun hc h => ?_) (fun hc h => ?_)
    · refine am_icmp_ge_t (t := 106) d_X12_buyers_54 (by decide) hc hF ?_
      refine am_seg s_M_buyers_9 (y := (112, [(6, .int (nI 0)), (5, .int (nI 0)), (0, .ref 140), (1, .int a1), (2, .int a2), (3, .int a3), (4, .int a4)], [], am_D τ)) hF t_s_M_buyers_9 rfl rfl ?_
      refine am_pick [2, 3, 4, 5, 6, 1, 0] rfl ?_
      exact ok_M_buyers_112 hF hR hB hk4 _ _ _ _ _ _ _ _ h
    · refine am_icmp_ge_f (t := 106) d_X12_buyers_54 (by decide) hc hF ?_
      refine am_seg s_M_buyers_20 (y := (65, [(0, .ref 140), (1, .int a1), (2, .int a2), (3, .int a3), (4, .int a4), (5, .int a5)], [.int (nI 0), .ref 141, .int a5, .ref 140], am_D τ)) hF t_s_M_buyers_20 rfl rfl ?_
      refine am_iald (n := 1060) (j := 0) d_X12_buyers_65 (Nat.le_of_ble_eq_true rfl) (Nat.le_of_ble_eq_true rfl) rfl (by decide) rfl hF ?_
      refine am_bd h (fun x2 hx h => ?_)
      refine am_callV (As := [.int a5, .int (τ.1 141 0)]) (r := (some (.int x2.1))) (st := []) (σ' := am_D x2.2) (ci := 12) hF hR d_X12_buyers_66 (c_M_ownerOf (τ' := x2.2) hx) (Nat.le_refl _) (Nat.le_refl _) wl_M_267 wi_yX12_ownerOf we_yX12_ownerOf wn_ShareHouseModel wc_yX12_ownerOf (Nat.le_of_ble_eq_true rfl) (Nat.le_of_ble_eq_true rfl) rfl rfl wy_yX12_ownerOf rfl ⟨by decide, by decide⟩ (Nat.le_of_ble_eq_true rfl) ?_
      refine am_seg s_M_buyers_21 (y := (74, [(6, .int x2.1), (0, .ref 140), (1, .int a1), (2, .int a2), (3, .int a3), (4, .int a4), (5, .int a5)], [.int x2.1, .int a3], am_D x2.2)) hF t_s_M_buyers_21 rfl rfl ?_
      refine am_ite h (fun hc h => ?_) (fun hc h => ?_)
      · refine am_if_lt_t (t := 97) d_X12_buyers_74 (by decide) hc hF ?_
        refine am_seg s_M_buyers_22 (y := (46, [(5, .int (a5 + (nI 1))), (3, .int (a3 + (nI 0))), (6, .int x2.1), (0, .ref 140), (1, .int a1), (2, .int a2), (4, .int a4)], [], am_D x2.2)) hF t_s_M_buyers_22 rfl rfl ?_
        refine am_pick [3, 4, 5, 1, 6, 0] rfl ?_
        exact ih _ _ _ _ _ _ h
      · refine am_if_lt_f (t := 97) d_X12_buyers_74 (by decide) hc hF ?_
        refine am_seg s_M_buyers_23 (y := (84, [(6, .int x2.1), (0, .ref 140), (1, .int a1), (2, .int a2), (3, .int a3), (4, .int a4), (5, .int a5)], [.int (nI 1), .int ((a2 >>> (x2.1 &&& 31)) &&& (nI 1)), .int a3], am_D x2.2)) hF t_s_M_buyers_23 rfl rfl ?_
        refine am_ite h (fun hc h => ?_) (fun hc h => ?_)
        · refine am_icmp_ne_f (t := 97) d_X12_buyers_84 (by decide) hc hF ?_
          refine am_seg s_M_buyers_25 (y := (91, [(6, .int x2.1), (0, .ref 140), (1, .int a1), (2, .int a2), (3, .int a3), (4, .int a4), (5, .int a5)], [.int (nI 1), .int a5, .ref 140, .int a3], am_D x2.2)) hF t_s_M_buyers_25 rfl rfl ?_
          refine am_bd h (fun x3 hx h => ?_)
          refine am_callV (As := [.int a5, .int (nI 1)]) (r := (some (.int x3.1))) (st := [.int a3]) (σ' := am_D x3.2) (ci := 12) hF hR d_X12_buyers_91 (c_M_flatOf (τ' := x3.2) hx) (Nat.le_refl _) (Nat.le_refl _) wl_M_146 wi_yX12_flatOf we_yX12_flatOf wn_ShareHouseModel wc_yX12_flatOf (Nat.le_of_ble_eq_true rfl) (Nat.le_of_ble_eq_true rfl) rfl rfl wy_yX12_flatOf rfl ⟨by decide, by decide⟩ (Nat.le_of_ble_eq_true rfl) ?_
          refine am_seg s_M_buyers_26 (y := (46, [(5, .int (a5 + (nI 1))), (3, .int (a3 + x3.1)), (6, .int x2.1), (0, .ref 140), (1, .int a1), (2, .int a2), (4, .int a4)], [], am_D x3.2)) hF t_s_M_buyers_26 rfl rfl ?_
          refine am_pick [3, 4, 5, 1, 6, 0] rfl ?_
          exact ih _ _ _ _ _ _ h
        · refine am_icmp_ne_t (t := 97) d_X12_buyers_84 (by decide) hc hF ?_
          refine am_seg s_M_buyers_24 (y := (46, [(5, .int (a5 + (nI 1))), (3, .int (a3 + (nI 0))), (6, .int x2.1), (0, .ref 140), (1, .int a1), (2, .int a2), (4, .int a4)], [], am_D x2.2)) hF t_s_M_buyers_24 rfl rfl ?_
          refine am_pick [3, 4, 5, 1, 6, 0] rfl ?_
          exact ih _ _ _ _ _ _ h
def M_buyers_19 (k4 : am_T → Int32 → Int32 → Option (Int32 × am_T)) : Nat → am_T → Int32 → Int32 → Int32 → Int32 → Int32 → Option (Int32 × am_T)
  | 0, _, _, _, _, _, _ => none
  | n + 1, τ, a1, a2, a3, a4, a5 =>
    if (nI 8) ≤ a5 then
  (M_buyers_46 k4 5000 τ a1 a2 a3 a4 (nI 0))
else
  ((M_buyers_19 k4 n) τ a1 a2 a3 (a4 + ((a2 >>> (a5 &&& 31)) &&& (nI 1))) (a5 + (nI 1)))
set_option maxRecDepth 20000 in
theorem ok_M_buyers_19 {X : am_X} {v : Int32} {τ' : am_T} (hF : am_F X "ShareHouseModel" cX12_buyers 7) (hR : am_R X 2 45) (hB : am_B X (some .int) (some (.int v)) (am_D τ')) {k4 : am_T → Int32 → Int32 → Option (Int32 × am_T)} (hk4 : ∀ (τ : am_T) (a1 : Int32) (a2 : Int32), k4 τ a1 a2 = some (v, τ') → am_W X 7 (4, [(0, .ref 140), (1, .int a1), (2, .int a2)], [], am_D τ)) : ∀ (n : Nat) (τ : am_T) (a1 : Int32) (a2 : Int32) (a3 : Int32) (a4 : Int32) (a5 : Int32), M_buyers_19 k4 n τ a1 a2 a3 a4 a5 = some (v, τ') → am_W X 7 (19, [(0, .ref 140), (1, .int a1), (2, .int a2), (3, .int a3), (4, .int a4), (5, .int a5)], [], am_D τ) := by
  intro n
  induction n with
  | zero => intro τ a1 a2 a3 a4 a5 h; unfold M_buyers_19 at h; cases h
  | succ n ih =>
    intro τ a1 a2 a3 a4 a5 h
    unfold M_buyers_19 at h
    refine am_seg s_M_buyers_6 (y := (23, [(0, .ref 140), (1, .int a1), (2, .int a2), (3, .int a3), (4, .int a4), (5, .int a5)], [.int (nI 8), .int a5], am_D τ)) hF t_s_M_buyers_6 rfl rfl ?_
    refine am_ite h (fun hc h => ?_) (fun hc h => ?_)
    · refine am_icmp_ge_t (t := 43) d_X12_buyers_23 (by decide) hc hF ?_
      refine am_seg s_M_buyers_7 (y := (46, [(5, .int (nI 0)), (0, .ref 140), (1, .int a1), (2, .int a2), (3, .int a3), (4, .int a4)], [], am_D τ)) hF t_s_M_buyers_7 rfl rfl ?_
      refine am_pick [1, 2, 3, 4, 5, 0] rfl ?_
      exact ok_M_buyers_46 hF hR hB hk4 _ _ _ _ _ _ _ h
    · refine am_icmp_ge_f (t := 43) d_X12_buyers_23 (by decide) hc hF ?_
      refine am_seg s_M_buyers_27 (y := (19, [(5, .int (a5 + (nI 1))), (4, .int (a4 + ((a2 >>> (a5 &&& 31)) &&& (nI 1)))), (0, .ref 140), (1, .int a1), (2, .int a2), (3, .int a3)], [], am_D τ)) hF t_s_M_buyers_27 rfl rfl ?_
      refine am_pick [2, 3, 4, 5, 1, 0] rfl ?_
      exact ih _ _ _ _ _ _ h
def M_buyers_4 : Nat → am_T → Int32 → Int32 → Option (Int32 × am_T)
  | 0, _, _, _ => none
  | n + 1, τ, a1, a2 =>
    if (nI 256) ≤ a2 then
  (if 0 ≤ a1 then
  (some (a1, τ))
else
  (some ((-3 : Int32), τ)))
else
  (M_buyers_19 (M_buyers_4 n) 5000 τ a1 a2 (nI 0) (nI 0) (nI 0))
set_option maxRecDepth 20000 in
theorem ok_M_buyers_4 {X : am_X} {v : Int32} {τ' : am_T} (hF : am_F X "ShareHouseModel" cX12_buyers 7) (hR : am_R X 2 45) (hB : am_B X (some .int) (some (.int v)) (am_D τ')) : ∀ (n : Nat) (τ : am_T) (a1 : Int32) (a2 : Int32), M_buyers_4 n τ a1 a2 = some (v, τ') → am_W X 7 (4, [(0, .ref 140), (1, .int a1), (2, .int a2)], [], am_D τ) := by
  intro n
  induction n with
  | zero => intro τ a1 a2 h; unfold M_buyers_4 at h; cases h
  | succ n ih =>
    intro τ a1 a2 h
    unfold M_buyers_4 at h
    refine am_seg s_M_buyers_1 (y := (8, [(0, .ref 140), (1, .int a1), (2, .int a2)], [.int (nI 256), .int a2], am_D τ)) hF t_s_M_buyers_1 rfl rfl ?_
    refine am_ite h (fun hc h => ?_) (fun hc h => ?_)
    · refine am_icmp_ge_t (t := 174) d_X12_buyers_8 (by decide) hc hF ?_
      refine am_seg s_M_buyers_2 (y := (175, [(0, .ref 140), (1, .int a1), (2, .int a2)], [.int a1], am_D τ)) hF t_s_M_buyers_2 rfl rfl ?_
      refine am_ite h (fun hc h => ?_) (fun hc h => ?_)
      · refine am_if_ge_t (t := 183) d_X12_buyers_175 (by decide) hc hF ?_
        refine am_seg s_M_buyers_3 (y := (184, [(0, .ref 140), (1, .int a1), (2, .int a2)], [.int a1], am_D τ)) hF t_s_M_buyers_3 rfl rfl ?_
        obtain ⟨rfl, rfl⟩ := am_pair h
        exact am_iret d_X12_buyers_184 hF hB
      · refine am_if_ge_f (t := 183) d_X12_buyers_175 (by decide) hc hF ?_
        refine am_seg s_M_buyers_4 (y := (184, [(0, .ref 140), (1, .int a1), (2, .int a2)], [.int (-3 : Int32)], am_D τ)) hF t_s_M_buyers_4 rfl rfl ?_
        obtain ⟨rfl, rfl⟩ := am_pair h
        exact am_iret d_X12_buyers_184 hF hB
    · refine am_icmp_ge_f (t := 174) d_X12_buyers_8 (by decide) hc hF ?_
      refine am_seg s_M_buyers_5 (y := (19, [(5, .int (nI 0)), (4, .int (nI 0)), (3, .int (nI 0)), (0, .ref 140), (1, .int a1), (2, .int a2)], [], am_D τ)) hF t_s_M_buyers_5 rfl rfl ?_
      refine am_pick [3, 4, 5, 2, 1, 0] rfl ?_
      exact ok_M_buyers_19 hF hR hB ih _ _ _ _ _ _ _ h
def M_buyers (τ : am_T) : Option (Int32 × am_T) :=
  M_buyers_4 5000 τ (-1 : Int32) (nI 1)
set_option maxRecDepth 20000 in
theorem ok_M_buyers {X : am_X} {v : Int32} {τ τ' : am_T} (hF : am_F X "ShareHouseModel" cX12_buyers 7) (hR : am_R X 2 45) (hB : am_B X (some .int) (some (.int v)) (am_D τ')) (h : M_buyers τ = some (v, τ')) : am_W X 7 (0, [(0, .ref 140)], [], am_D τ) := by
  unfold M_buyers at h
  refine am_seg s_M_buyers_0 (y := (4, [(2, .int (nI 1)), (1, .int (-1 : Int32)), (0, .ref 140)], [], am_D τ)) hF t_s_M_buyers_0 rfl rfl ?_
  refine am_pick [2, 1, 0] rfl ?_
  exact ok_M_buyers_4 hF hR hB _ _ _ _ h
theorem c_M_buyers {v : Int32} {τ τ' : am_T} (h : M_buyers τ = some (v, τ')) : am_C yX12_buyers cX12_buyers 7 (some .int) 2 45 [.ref 140] (am_D τ) (some (.int v)) (am_D τ') :=
  am_enter (by decide +kernel) (Nat.le_of_ble_eq_true rfl) ⟨Nat.le_refl _, Nat.le_refl _⟩ (fun X hF hR hB => ok_M_buyers hF hR hB h)
def s_M_many_0 : List am_Q := [(0, .iload_n 1, 0, 0, 0, .null), (1, .iconst 0, 0, 0, 0, .int (nI 0)), (2, .bipush 11, 0, 0, 0, .int (nI 11))]
theorem t_s_M_many_0 : s_M_many_0.all (am_ok 12 cX12_many) = true := by decide +kernel
theorem d_X12_many_4 : decode cX12_many 4 = .ok (.invokestatic 51, 3) := by decide +kernel
theorem d_X12_many_7 : decode cX12_many 7 = .ok (.ifCond .ne 5, 3) := by decide +kernel
def s_M_many_1 : List am_Q := [(12, .iload_n 1, 0, 0, 0, .null)]
theorem t_s_M_many_1 : s_M_many_1.all (am_ok 12 cX12_many) = true := by decide +kernel
theorem d_X12_many_13 : decode cX12_many 13 = .ok (.tableswitch 43 9 11 #[27, 32, 37], 27) := by decide +kernel
def s_M_many_2 : List am_Q := [(56, .aload_n 0, 0, 0, 0, .null), (57, .getfield 7, 12, 0, 152, .null), (60, .iload_n 1, 0, 0, 0, .null)]
theorem t_s_M_many_2 : s_M_many_2.all (am_ok 12 cX12_many) = true := by decide +kernel
theorem d_X12_many_61 : decode cX12_many 61 = .ok (.iaload, 1) := by decide +kernel
theorem d_X12_many_62 : decode cX12_many 62 = .ok (.ireturn, 1) := by decide +kernel
def s_M_many_3 : List am_Q := [(40, .aload_n 0, 0, 0, 0, .null), (41, .getfield 311, 12, 28, 180, .null)]
theorem t_s_M_many_3 : s_M_many_3.all (am_ok 12 cX12_many) = true := by decide +kernel
theorem d_X12_many_44 : decode cX12_many 44 = .ok (.ireturn, 1) := by decide +kernel
def s_M_many_4 : List am_Q := [(45, .aload_n 0, 0, 0, 0, .null), (46, .getfield 55, 12, 4, 156, .null)]
theorem t_s_M_many_4 : s_M_many_4.all (am_ok 12 cX12_many) = true := by decide +kernel
theorem d_X12_many_49 : decode cX12_many 49 = .ok (.ireturn, 1) := by decide +kernel
def s_M_many_5 : List am_Q := [(50, .aload_n 0, 0, 0, 0, .null), (51, .iconst 1, 0, 0, 0, .int (nI 1))]
theorem t_s_M_many_5 : s_M_many_5.all (am_ok 12 cX12_many) = true := by decide +kernel
theorem d_X12_many_52 : decode cX12_many 52 = .ok (.invokevirtual 195, 3) := by decide +kernel
theorem d_X12_many_55 : decode cX12_many 55 = .ok (.ireturn, 1) := by decide +kernel
def s_M_many_6 : List am_Q := [(10, .iconst (-1), 0, 0, 0, .int (-1 : Int32))]
theorem t_s_M_many_6 : s_M_many_6.all (am_ok 12 cX12_many) = true := by decide +kernel
theorem d_X12_many_11 : decode cX12_many 11 = .ok (.ireturn, 1) := by decide +kernel
def M_many (τ : am_T) (a1 : Int32) : Option (Int32 × am_T) :=
  (M_in τ a1 (nI 0) (nI 11)).bind (fun x1 =>
  if x1.1 = 0 then
  (some ((-1 : Int32), x1.2))
else
  (if (a1 : Int32).toInt < 9 ∨ 11 < (a1 : Int32).toInt then
  (am_g (am_in a1 1060) (some ((x1.2.1 141 (a1.toNatClampNeg)), x1.2)))
else
  (if a1 = nI 9 then
  (some ((x1.2.1 140 28), x1.2))
else
  (if a1 = nI 10 then
  (some ((x1.2.1 140 4), x1.2))
else
  (if a1 = nI 11 then
  ((M_together x1.2 (nI 1)).bind (fun x2 =>
  some (x2.1, x2.2)))
else
  (none))))))
set_option maxRecDepth 20000 in
theorem ok_M_many {X : am_X} {a1 : Int32} {v : Int32} {τ τ' : am_T} (hF : am_F X "ShareHouseModel" cX12_many 2) (hR : am_R X 2 45) (hB : am_B X (some .int) (some (.int v)) (am_D τ')) (h : M_many τ a1 = some (v, τ')) : am_W X 2 (0, [(0, .ref 140), (1, .int a1)], [], am_D τ) := by
  unfold M_many at h
  refine am_seg s_M_many_0 (y := (4, [(0, .ref 140), (1, .int a1)], [.int (nI 11), .int (nI 0), .int a1], am_D τ)) hF t_s_M_many_0 rfl rfl ?_
  refine am_bd h (fun x1 hx h => ?_)
  refine am_callS (As := [.int a1, .int (nI 0), .int (nI 11)]) (r := (some (.int x1.1))) (st := []) (σ' := am_D x1.2) hF hR d_X12_many_4 (c_M_in (τ' := x1.2) hx) (Nat.le_refl _) (Nat.le_refl _) wl_M_51 ws_yX12_in wn_ShareHouseModel wc_yX12_in wy_yX12_in rfl ⟨by decide, by decide⟩ (Nat.le_of_ble_eq_true rfl) ?_
  refine am_ite h (fun hc h => ?_) (fun hc h => ?_)
  · refine am_if_ne_f (t := 12) d_X12_many_7 (by decide) hc hF ?_
    refine am_seg s_M_many_6 (y := (11, [(0, .ref 140), (1, .int a1)], [.int (-1 : Int32)], am_D x1.2)) hF t_s_M_many_6 rfl rfl ?_
    obtain ⟨rfl, rfl⟩ := am_pair h
    exact am_iret d_X12_many_11 hF hB
  · refine am_if_ne_t (t := 12) d_X12_many_7 (by decide) hc hF ?_
    refine am_seg s_M_many_1 (y := (13, [(0, .ref 140), (1, .int a1)], [.int a1], am_D x1.2)) hF t_s_M_many_1 rfl rfl ?_
    refine am_ite h (fun hc h => ?_) (fun hc h => ?_)
    · refine am_tswOut (t := 56) d_X12_many_13 hc (by decide) hF ?_
      refine am_seg s_M_many_2 (y := (61, [(0, .ref 140), (1, .int a1)], [.int a1, .ref 141], am_D x1.2)) hF t_s_M_many_2 rfl rfl ?_
      refine am_gd h (fun hi h => ?_)
      refine am_iald (n := 1060) (j := (a1.toNatClampNeg)) d_X12_many_61 (Nat.le_of_ble_eq_true rfl) (Nat.le_of_ble_eq_true rfl) rfl hi rfl hF ?_
      obtain ⟨rfl, rfl⟩ := am_pair h
      exact am_iret d_X12_many_62 hF hB
    · refine am_ite h (fun hc h => ?_) (fun hc h => ?_)
      · refine am_tswIn (y := nI 9) (o := 27) (t := 40) d_X12_many_13 hc (by decide) (by decide) rfl (by decide) hF ?_
        refine am_seg s_M_many_3 (y := (44, [(0, .ref 140), (1, .int a1)], [.int (x1.2.1 140 28)], am_D x1.2)) hF t_s_M_many_3 rfl rfl ?_
        obtain ⟨rfl, rfl⟩ := am_pair h
        exact am_iret d_X12_many_44 hF hB
      · refine am_ite h (fun hc h => ?_) (fun hc h => ?_)
        · refine am_tswIn (y := nI 10) (o := 32) (t := 45) d_X12_many_13 hc (by decide) (by decide) rfl (by decide) hF ?_
          refine am_seg s_M_many_4 (y := (49, [(0, .ref 140), (1, .int a1)], [.int (x1.2.1 140 4)], am_D x1.2)) hF t_s_M_many_4 rfl rfl ?_
          obtain ⟨rfl, rfl⟩ := am_pair h
          exact am_iret d_X12_many_49 hF hB
        · refine am_ite h (fun hc h => ?_) (fun hc h => ?_)
          · refine am_tswIn (y := nI 11) (o := 37) (t := 50) d_X12_many_13 hc (by decide) (by decide) rfl (by decide) hF ?_
            refine am_seg s_M_many_5 (y := (52, [(0, .ref 140), (1, .int a1)], [.int (nI 1), .ref 140], am_D x1.2)) hF t_s_M_many_5 rfl rfl ?_
            refine am_bd h (fun x2 hx h => ?_)
            refine am_callV (As := [.int (nI 1)]) (r := (some (.int x2.1))) (st := []) (σ' := am_D x2.2) (ci := 12) hF hR d_X12_many_52 (c_M_together (τ' := x2.2) hx) (Nat.le_refl _) (Nat.le_refl _) wl_M_195 wi_yX12_together we_yX12_together wn_ShareHouseModel wc_yX12_together (Nat.le_of_ble_eq_true rfl) (Nat.le_of_ble_eq_true rfl) rfl rfl wy_yX12_together rfl ⟨by decide, by decide⟩ (Nat.le_of_ble_eq_true rfl) ?_
            obtain ⟨rfl, rfl⟩ := am_pair h
            exact am_iret d_X12_many_55 hF hB
          · cases h
theorem c_M_many {a1 : Int32} {v : Int32} {τ τ' : am_T} (h : M_many τ a1 = some (v, τ')) : am_C yX12_many cX12_many 2 (some .int) 2 45 [.ref 140, .int a1] (am_D τ) (some (.int v)) (am_D τ') :=
  am_enter (by decide +kernel) (Nat.le_of_ble_eq_true rfl) ⟨Nat.le_refl _, Nat.le_refl _⟩ (fun X hF hR hB => ok_M_many hF hR hB h)
def s_M_keep_0 : List am_Q := [(0, .iconst 0, 0, 0, 0, .int (nI 0)), (1, .istore_n 1, 0, 0, 0, .null)]
theorem t_s_M_keep_0 : s_M_keep_0.all (am_ok 12 cX12_keep) = true := by decide +kernel
def s_M_keep_1 : List am_Q := [(2, .iload_n 1, 0, 0, 0, .null), (3, .sipush 1060, 0, 0, 0, .int (nI 1060))]
theorem t_s_M_keep_1 : s_M_keep_1.all (am_ok 12 cX12_keep) = true := by decide +kernel
theorem d_X12_keep_6 : decode cX12_keep 6 = .ok (.if_icmp .ge 21, 3) := by decide +kernel
def s_M_keep_2 : List am_Q := [(27, .aload_n 0, 0, 0, 0, .null), (28, .iconst 1, 0, 0, 0, .int (nI 1))]
theorem t_s_M_keep_2 : s_M_keep_2.all (am_ok 12 cX12_keep) = true := by decide +kernel
theorem d_X12_keep_29 : decode cX12_keep 29 = .ok (.putfield 318, 3) := by decide +kernel
def s_M_keep_3 : List am_Q := [(32, .iconst 1, 0, 0, 0, .int (nI 1))]
theorem t_s_M_keep_3 : s_M_keep_3.all (am_ok 12 cX12_keep) = true := by decide +kernel
theorem d_X12_keep_33 : decode cX12_keep 33 = .ok (.ireturn, 1) := by decide +kernel
def s_M_keep_4 : List am_Q := [(9, .aload_n 0, 0, 0, 0, .null), (10, .getfield 13, 12, 1, 153, .null), (13, .iload_n 1, 0, 0, 0, .null), (14, .aload_n 0, 0, 0, 0, .null), (15, .getfield 7, 12, 0, 152, .null), (18, .iload_n 1, 0, 0, 0, .null)]
theorem t_s_M_keep_4 : s_M_keep_4.all (am_ok 12 cX12_keep) = true := by decide +kernel
theorem d_X12_keep_19 : decode cX12_keep 19 = .ok (.iaload, 1) := by decide +kernel
theorem d_X12_keep_20 : decode cX12_keep 20 = .ok (.iastore, 1) := by decide +kernel
def s_M_keep_5 : List am_Q := [(21, .iinc 1 1, 0, 0, 0, .int (nI 1)), (24, .goto (-22), 2, 0, 0, .null)]
theorem t_s_M_keep_5 : s_M_keep_5.all (am_ok 12 cX12_keep) = true := by decide +kernel
def M_keep_2 : Nat → am_T → Int32 → Option (Int32 × am_T)
  | 0, _, _ => none
  | n + 1, τ, a1 =>
    if (nI 1060) ≤ a1 then
  (some ((nI 1), (am_si τ 140 2 (nI 1))))
else
  (am_g (am_in a1 1060) (am_g (am_in a1 1060) ((M_keep_2 n) (am_si τ 142 (a1.toNatClampNeg) (τ.1 141 (a1.toNatClampNeg))) (a1 + (nI 1)))))
set_option maxRecDepth 20000 in
theorem ok_M_keep_2 {X : am_X} {v : Int32} {τ' : am_T} (hF : am_F X "ShareHouseModel" cX12_keep 2) (hR : am_R X 0 0) (hB : am_B X (some .int) (some (.int v)) (am_D τ')) : ∀ (n : Nat) (τ : am_T) (a1 : Int32), M_keep_2 n τ a1 = some (v, τ') → am_W X 2 (2, [(0, .ref 140), (1, .int a1)], [], am_D τ) := by
  intro n
  induction n with
  | zero => intro τ a1 h; unfold M_keep_2 at h; cases h
  | succ n ih =>
    intro τ a1 h
    unfold M_keep_2 at h
    refine am_seg s_M_keep_1 (y := (6, [(0, .ref 140), (1, .int a1)], [.int (nI 1060), .int a1], am_D τ)) hF t_s_M_keep_1 rfl rfl ?_
    refine am_ite h (fun hc h => ?_) (fun hc h => ?_)
    · refine am_icmp_ge_t (t := 27) d_X12_keep_6 (by decide) hc hF ?_
      refine am_seg s_M_keep_2 (y := (29, [(0, .ref 140), (1, .int a1)], [.int (nI 1), .ref 140], am_D τ)) hF t_s_M_keep_2 rfl rfl ?_
      refine am_putZ (ci := 12) (b := 2) d_X12_keep_29 (Nat.le_of_ble_eq_true rfl) (Nat.le_of_ble_eq_true rfl) rfl rfl (Nat.le_of_ble_eq_true rfl) am_fl154 rfl rfl (by decide) hF ?_
      refine am_seg s_M_keep_3 (y := (33, [(0, .ref 140), (1, .int a1)], [.int (nI 1)], am_D (am_si τ 140 2 (nI 1)))) hF t_s_M_keep_3 rfl rfl ?_
      obtain ⟨rfl, rfl⟩ := am_pair h
      exact am_iret d_X12_keep_33 hF hB
    · refine am_icmp_ge_f (t := 27) d_X12_keep_6 (by decide) hc hF ?_
      refine am_seg s_M_keep_4 (y := (19, [(0, .ref 140), (1, .int a1)], [.int a1, .ref 141, .int a1, .ref 142], am_D τ)) hF t_s_M_keep_4 rfl rfl ?_
      refine am_gd h (fun hi h => ?_)
      refine am_iald (n := 1060) (j := (a1.toNatClampNeg)) d_X12_keep_19 (Nat.le_of_ble_eq_true rfl) (Nat.le_of_ble_eq_true rfl) rfl hi rfl hF ?_
      refine am_gd h (fun hi h => ?_)
      refine am_iast (n := 1060) (j := (a1.toNatClampNeg)) d_X12_keep_20 (Nat.le_of_ble_eq_true rfl) (Nat.le_of_ble_eq_true rfl) rfl hi rfl hF ?_
      refine am_seg s_M_keep_5 (y := (2, [(1, .int (a1 + (nI 1))), (0, .ref 140)], [], am_D (am_si τ 142 (a1.toNatClampNeg) (τ.1 141 (a1.toNatClampNeg))))) hF t_s_M_keep_5 rfl rfl ?_
      refine am_pick [1, 0] rfl ?_
      exact ih _ _ h
def M_keep (τ : am_T) : Option (Int32 × am_T) :=
  M_keep_2 5000 τ (nI 0)
set_option maxRecDepth 20000 in
theorem ok_M_keep {X : am_X} {v : Int32} {τ τ' : am_T} (hF : am_F X "ShareHouseModel" cX12_keep 2) (hR : am_R X 0 0) (hB : am_B X (some .int) (some (.int v)) (am_D τ')) (h : M_keep τ = some (v, τ')) : am_W X 2 (0, [(0, .ref 140)], [], am_D τ) := by
  unfold M_keep at h
  refine am_seg s_M_keep_0 (y := (2, [(1, .int (nI 0)), (0, .ref 140)], [], am_D τ)) hF t_s_M_keep_0 rfl rfl ?_
  refine am_pick [1, 0] rfl ?_
  exact ok_M_keep_2 hF hR hB _ _ _ h
theorem c_M_keep {v : Int32} {τ τ' : am_T} (h : M_keep τ = some (v, τ')) : am_C yX12_keep cX12_keep 2 (some .int) 0 0 [.ref 140] (am_D τ) (some (.int v)) (am_D τ') :=
  am_enter (by decide +kernel) (Nat.le_of_ble_eq_true rfl) ⟨Nat.le_refl _, Nat.le_refl _⟩ (fun X hF hR hB => ok_M_keep hF hR hB h)
def s_M_back_0 : List am_Q := [(0, .aload_n 0, 0, 0, 0, .null), (1, .getfield 318, 12, 2, 154, .null)]
theorem t_s_M_back_0 : s_M_back_0.all (am_ok 12 cX12_back) = true := by decide +kernel
theorem d_X12_back_4 : decode cX12_back 4 = .ok (.ifCond .ne 6, 3) := by decide +kernel
def s_M_back_1 : List am_Q := [(10, .iconst 0, 0, 0, 0, .int (nI 0)), (11, .istore_n 1, 0, 0, 0, .null)]
theorem t_s_M_back_1 : s_M_back_1.all (am_ok 12 cX12_back) = true := by decide +kernel
def s_M_back_2 : List am_Q := [(12, .iload_n 1, 0, 0, 0, .null), (13, .sipush 1060, 0, 0, 0, .int (nI 1060))]
theorem t_s_M_back_2 : s_M_back_2.all (am_ok 12 cX12_back) = true := by decide +kernel
theorem d_X12_back_16 : decode cX12_back 16 = .ok (.if_icmp .ge 21, 3) := by decide +kernel
def s_M_back_3 : List am_Q := [(37, .iconst 1, 0, 0, 0, .int (nI 1))]
theorem t_s_M_back_3 : s_M_back_3.all (am_ok 12 cX12_back) = true := by decide +kernel
theorem d_X12_back_38 : decode cX12_back 38 = .ok (.ireturn, 1) := by decide +kernel
def s_M_back_4 : List am_Q := [(19, .aload_n 0, 0, 0, 0, .null), (20, .getfield 7, 12, 0, 152, .null), (23, .iload_n 1, 0, 0, 0, .null), (24, .aload_n 0, 0, 0, 0, .null), (25, .getfield 13, 12, 1, 153, .null), (28, .iload_n 1, 0, 0, 0, .null)]
theorem t_s_M_back_4 : s_M_back_4.all (am_ok 12 cX12_back) = true := by decide +kernel
theorem d_X12_back_29 : decode cX12_back 29 = .ok (.iaload, 1) := by decide +kernel
theorem d_X12_back_30 : decode cX12_back 30 = .ok (.iastore, 1) := by decide +kernel
def s_M_back_5 : List am_Q := [(31, .iinc 1 1, 0, 0, 0, .int (nI 1)), (34, .goto (-22), 12, 0, 0, .null)]
theorem t_s_M_back_5 : s_M_back_5.all (am_ok 12 cX12_back) = true := by decide +kernel
def s_M_back_6 : List am_Q := [(7, .bipush (-3), 0, 0, 0, .int (-3 : Int32))]
theorem t_s_M_back_6 : s_M_back_6.all (am_ok 12 cX12_back) = true := by decide +kernel
theorem d_X12_back_9 : decode cX12_back 9 = .ok (.ireturn, 1) := by decide +kernel
def M_back_12 : Nat → am_T → Int32 → Option (Int32 × am_T)
  | 0, _, _ => none
  | n + 1, τ, a1 =>
    if (nI 1060) ≤ a1 then
  (some ((nI 1), τ))
else
  (am_g (am_in a1 1060) (am_g (am_in a1 1060) ((M_back_12 n) (am_si τ 141 (a1.toNatClampNeg) (τ.1 142 (a1.toNatClampNeg))) (a1 + (nI 1)))))
set_option maxRecDepth 20000 in
theorem ok_M_back_12 {X : am_X} {v : Int32} {τ' : am_T} (hF : am_F X "ShareHouseModel" cX12_back 2) (hR : am_R X 0 0) (hB : am_B X (some .int) (some (.int v)) (am_D τ')) : ∀ (n : Nat) (τ : am_T) (a1 : Int32), M_back_12 n τ a1 = some (v, τ') → am_W X 2 (12, [(0, .ref 140), (1, .int a1)], [], am_D τ) := by
  intro n
  induction n with
  | zero => intro τ a1 h; unfold M_back_12 at h; cases h
  | succ n ih =>
    intro τ a1 h
    unfold M_back_12 at h
    refine am_seg s_M_back_2 (y := (16, [(0, .ref 140), (1, .int a1)], [.int (nI 1060), .int a1], am_D τ)) hF t_s_M_back_2 rfl rfl ?_
    refine am_ite h (fun hc h => ?_) (fun hc h => ?_)
    · refine am_icmp_ge_t (t := 37) d_X12_back_16 (by decide) hc hF ?_
      refine am_seg s_M_back_3 (y := (38, [(0, .ref 140), (1, .int a1)], [.int (nI 1)], am_D τ)) hF t_s_M_back_3 rfl rfl ?_
      obtain ⟨rfl, rfl⟩ := am_pair h
      exact am_iret d_X12_back_38 hF hB
    · refine am_icmp_ge_f (t := 37) d_X12_back_16 (by decide) hc hF ?_
      refine am_seg s_M_back_4 (y := (29, [(0, .ref 140), (1, .int a1)], [.int a1, .ref 142, .int a1, .ref 141], am_D τ)) hF t_s_M_back_4 rfl rfl ?_
      refine am_gd h (fun hi h => ?_)
      refine am_iald (n := 1060) (j := (a1.toNatClampNeg)) d_X12_back_29 (Nat.le_of_ble_eq_true rfl) (Nat.le_of_ble_eq_true rfl) rfl hi rfl hF ?_
      refine am_gd h (fun hi h => ?_)
      refine am_iast (n := 1060) (j := (a1.toNatClampNeg)) d_X12_back_30 (Nat.le_of_ble_eq_true rfl) (Nat.le_of_ble_eq_true rfl) rfl hi rfl hF ?_
      refine am_seg s_M_back_5 (y := (12, [(1, .int (a1 + (nI 1))), (0, .ref 140)], [], am_D (am_si τ 141 (a1.toNatClampNeg) (τ.1 142 (a1.toNatClampNeg))))) hF t_s_M_back_5 rfl rfl ?_
      refine am_pick [1, 0] rfl ?_
      exact ih _ _ h
def M_back (τ : am_T) : Option (Int32 × am_T) :=
  if (τ.1 140 2) = 0 then
  (some ((-3 : Int32), τ))
else
  (M_back_12 5000 τ (nI 0))
set_option maxRecDepth 20000 in
theorem ok_M_back {X : am_X} {v : Int32} {τ τ' : am_T} (hF : am_F X "ShareHouseModel" cX12_back 2) (hR : am_R X 0 0) (hB : am_B X (some .int) (some (.int v)) (am_D τ')) (h : M_back τ = some (v, τ')) : am_W X 2 (0, [(0, .ref 140)], [], am_D τ) := by
  unfold M_back at h
  refine am_seg s_M_back_0 (y := (4, [(0, .ref 140)], [.int (τ.1 140 2)], am_D τ)) hF t_s_M_back_0 rfl rfl ?_
  refine am_ite h (fun hc h => ?_) (fun hc h => ?_)
  · refine am_if_ne_f (t := 10) d_X12_back_4 (by decide) hc hF ?_
    refine am_seg s_M_back_6 (y := (9, [(0, .ref 140)], [.int (-3 : Int32)], am_D τ)) hF t_s_M_back_6 rfl rfl ?_
    obtain ⟨rfl, rfl⟩ := am_pair h
    exact am_iret d_X12_back_9 hF hB
  · refine am_if_ne_t (t := 10) d_X12_back_4 (by decide) hc hF ?_
    refine am_seg s_M_back_1 (y := (12, [(1, .int (nI 0)), (0, .ref 140)], [], am_D τ)) hF t_s_M_back_1 rfl rfl ?_
    refine am_pick [1, 0] rfl ?_
    exact ok_M_back_12 hF hR hB _ _ _ h
theorem c_M_back {v : Int32} {τ τ' : am_T} (h : M_back τ = some (v, τ')) : am_C yX12_back cX12_back 2 (some .int) 0 0 [.ref 140] (am_D τ) (some (.int v)) (am_D τ') :=
  am_enter (by decide +kernel) (Nat.le_of_ble_eq_true rfl) ⟨Nat.le_refl _, Nat.le_refl _⟩ (fun X hF hR hB => ok_M_back hF hR hB h)

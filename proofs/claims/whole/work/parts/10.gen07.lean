def s_X_like_0 : List am_Q := [(0, .iload_n 1, 0, 0, 0, .null)]
theorem t_s_X_like_0 : s_X_like_0.all (am_ok 11 cX11_like) = true := by decide +kernel
theorem d_X11_like_1 : decode cX11_like 1 = .ok (.invokestatic 112, 3) := by decide +kernel
theorem d_X11_like_4 : decode cX11_like 4 = .ok (.ifCond .eq 14, 3) := by decide +kernel
def s_X_like_1 : List am_Q := [(18, .iconst (-1), 0, 0, 0, .int (-1 : Int32))]
theorem t_s_X_like_1 : s_X_like_1.all (am_ok 11 cX11_like) = true := by decide +kernel
theorem d_X11_like_19 : decode cX11_like 19 = .ok (.ireturn, 1) := by decide +kernel
def s_X_like_2 : List am_Q := [(7, .iload_n 2, 0, 0, 0, .null), (8, .iconst 0, 0, 0, 0, .int (nI 0)), (9, .sipush 9999, 0, 0, 0, .int (nI 9999))]
theorem t_s_X_like_2 : s_X_like_2.all (am_ok 11 cX11_like) = true := by decide +kernel
theorem d_X11_like_12 : decode cX11_like 12 = .ok (.invokestatic 47, 3) := by decide +kernel
theorem d_X11_like_15 : decode cX11_like 15 = .ok (.ifCond .ne 5, 3) := by decide +kernel
def s_X_like_3 : List am_Q := [(20, .aload_n 0, 0, 0, 0, .null), (21, .getfield 10, 11, 0, 145, .null), (24, .getfield 249, 3, 6, 106, .null), (27, .iload_n 1, 0, 0, 0, .null), (28, .iload_n 2, 0, 0, 0, .null)]
theorem t_s_X_like_3 : s_X_like_3.all (am_ok 11 cX11_like) = true := by decide +kernel
theorem d_X11_like_29 : decode cX11_like 29 = .ok (.invokevirtual 272, 3) := by decide +kernel
theorem d_X11_like_32 : decode cX11_like 32 = .ok (.ireturn, 1) := by decide +kernel
def s_X_like_4 : List am_Q := [(18, .iconst (-1), 0, 0, 0, .int (-1 : Int32))]
theorem t_s_X_like_4 : s_X_like_4.all (am_ok 11 cX11_like) = true := by decide +kernel
def X_like (τ : am_T) (a1 : Int32) (a2 : Int32) : Option (Int32 × am_T) :=
  (X_isHead τ a1).bind (fun x1 =>
  if x1.1 = 0 then
  (some ((-1 : Int32), x1.2))
else
  ((X_within x1.2 a2 (nI 0) (nI 9999)).bind (fun x2 =>
  if x2.1 = 0 then
  (some ((-1 : Int32), x2.2))
else
  ((Wo_addLike x2.2 a1 a2).bind (fun x3 =>
  some (x3.1, x3.2))))))
set_option maxRecDepth 20000 in
theorem ok_X_like {X : am_X} {a1 : Int32} {a2 : Int32} {v : Int32} {τ τ' : am_T} (hF : am_F X "ShareHouse" cX11_like 3) (hR : am_R X 2 42) (hB : am_B X (some .int) (some (.int v)) (am_D τ')) (h : X_like τ a1 a2 = some (v, τ')) : am_W X 3 (0, [(0, .ref 0), (1, .int a1), (2, .int a2)], [], am_D τ) := by
  unfold X_like at h
  refine am_seg s_X_like_0 (y := (1, [(0, .ref 0), (1, .int a1), (2, .int a2)], [.int a1], am_D τ)) hF t_s_X_like_0 rfl rfl ?_
  refine am_bd h (fun x1 hx h => ?_)
  refine am_callS (As := [.int a1]) (r := (some (.int x1.1))) (st := []) (σ' := am_D x1.2) hF hR d_X11_like_1 (c_X_isHead (τ' := x1.2) hx) (Nat.le_refl _) (Nat.le_refl _) wl_X_112 ws_yX11_isHead wn_ShareHouse wc_yX11_isHead wy_yX11_isHead rfl ⟨by decide, by decide⟩ (Nat.le_of_ble_eq_true rfl) ?_
  refine am_ite h (fun hc h => ?_) (fun hc h => ?_)
  · refine am_if_eq_t (t := 18) d_X11_like_4 (by decide) hc hF ?_
    refine am_seg s_X_like_1 (y := (19, [(0, .ref 0), (1, .int a1), (2, .int a2)], [.int (-1 : Int32)], am_D x1.2)) hF t_s_X_like_1 rfl rfl ?_
    obtain ⟨rfl, rfl⟩ := am_pair h
    exact am_iret d_X11_like_19 hF hB
  · refine am_if_eq_f (t := 18) d_X11_like_4 (by decide) hc hF ?_
    refine am_seg s_X_like_2 (y := (12, [(0, .ref 0), (1, .int a1), (2, .int a2)], [.int (nI 9999), .int (nI 0), .int a2], am_D x1.2)) hF t_s_X_like_2 rfl rfl ?_
    refine am_bd h (fun x2 hx h => ?_)
    refine am_callS (As := [.int a2, .int (nI 0), .int (nI 9999)]) (r := (some (.int x2.1))) (st := []) (σ' := am_D x2.2) hF hR d_X11_like_12 (c_X_within (τ' := x2.2) hx) (Nat.le_refl _) (Nat.le_refl _) wl_X_47 ws_yX11_within wn_ShareHouse wc_yX11_within wy_yX11_within rfl ⟨by decide, by decide⟩ (Nat.le_of_ble_eq_true rfl) ?_
    refine am_ite h (fun hc h => ?_) (fun hc h => ?_)
    · refine am_if_ne_f (t := 20) d_X11_like_15 (by decide) hc hF ?_
      refine am_seg s_X_like_4 (y := (19, [(0, .ref 0), (1, .int a1), (2, .int a2)], [.int (-1 : Int32)], am_D x2.2)) hF t_s_X_like_4 rfl rfl ?_
      obtain ⟨rfl, rfl⟩ := am_pair h
      exact am_iret d_X11_like_19 hF hB
    · refine am_if_ne_t (t := 20) d_X11_like_15 (by decide) hc hF ?_
      refine am_seg s_X_like_3 (y := (29, [(0, .ref 0), (1, .int a1), (2, .int a2)], [.int a2, .int a1, .ref 41], am_D x2.2)) hF t_s_X_like_3 rfl rfl ?_
      refine am_bd h (fun x3 hx h => ?_)
      refine am_callV (As := [.int a1, .int a2]) (r := (some (.int x3.1))) (st := []) (σ' := am_D x3.2) (ci := 10) hF hR d_X11_like_29 (c_Wo_addLike (τ' := x3.2) hx) (Nat.le_refl _) (Nat.le_refl _) wl_X_272 wi_yX10_addLike we_yX10_addLike wn_ShareHouse_Works wc_yX10_addLike (Nat.le_of_ble_eq_true rfl) (Nat.le_of_ble_eq_true rfl) rfl rfl wy_yX10_addLike rfl ⟨by decide, by decide⟩ (Nat.le_of_ble_eq_true rfl) ?_
      obtain ⟨rfl, rfl⟩ := am_pair h
      exact am_iret d_X11_like_32 hF hB
theorem c_X_like {a1 : Int32} {a2 : Int32} {v : Int32} {τ τ' : am_T} (h : X_like τ a1 a2 = some (v, τ')) : am_C yX11_like cX11_like 3 (some .int) 2 42 [.ref 0, .int a1, .int a2] (am_D τ) (some (.int v)) (am_D τ') :=
  am_enter (by decide +kernel) (Nat.le_of_ble_eq_true rfl) ⟨Nat.le_refl _, Nat.le_refl _⟩ (fun X hF hR hB => ok_X_like hF hR hB h)
def s_Wo_placeOf_0 : List am_Q := [(0, .iconst 0, 0, 0, 0, .int (nI 0)), (1, .istore_n 2, 0, 0, 0, .null), (2, .iconst 0, 0, 0, 0, .int (nI 0)), (3, .istore_n 3, 0, 0, 0, .null)]
theorem t_s_Wo_placeOf_0 : s_Wo_placeOf_0.all (am_ok 10 cX10_placeOf) = true := by decide +kernel
def s_Wo_placeOf_1 : List am_Q := [(4, .iload_n 3, 0, 0, 0, .null), (5, .aload_n 0, 0, 0, 0, .null), (6, .getfield 54, 10, 11, 69, .null)]
theorem t_s_Wo_placeOf_1 : s_Wo_placeOf_1.all (am_ok 10 cX10_placeOf) = true := by decide +kernel
theorem d_X10_placeOf_9 : decode cX10_placeOf 9 = .ok (.if_icmp .ge 74, 3) := by decide +kernel
def s_Wo_placeOf_2 : List am_Q := [(83, .iload_n 2, 0, 0, 0, .null)]
theorem t_s_Wo_placeOf_2 : s_Wo_placeOf_2.all (am_ok 10 cX10_placeOf) = true := by decide +kernel
theorem d_X10_placeOf_84 : decode cX10_placeOf 84 = .ok (.ireturn, 1) := by decide +kernel
def s_Wo_placeOf_3 : List am_Q := [(12, .aload_n 0, 0, 0, 0, .null), (13, .getfield 40, 10, 10, 68, .null), (16, .iload_n 3, 0, 0, 0, .null)]
theorem t_s_Wo_placeOf_3 : s_Wo_placeOf_3.all (am_ok 10 cX10_placeOf) = true := by decide +kernel
theorem d_X10_placeOf_17 : decode cX10_placeOf 17 = .ok (.iaload, 1) := by decide +kernel
def s_Wo_placeOf_4 : List am_Q := [(18, .aload_n 0, 0, 0, 0, .null), (19, .getfield 40, 10, 10, 68, .null), (22, .iload_n 1, 0, 0, 0, .null)]
theorem t_s_Wo_placeOf_4 : s_Wo_placeOf_4.all (am_ok 10 cX10_placeOf) = true := by decide +kernel
theorem d_X10_placeOf_23 : decode cX10_placeOf 23 = .ok (.iaload, 1) := by decide +kernel
theorem d_X10_placeOf_24 : decode cX10_placeOf 24 = .ok (.if_icmp .lt 23, 3) := by decide +kernel
def s_Wo_placeOf_5 : List am_Q := [(47, .iconst 1, 0, 0, 0, .int (nI 1)), (48, .goto 4, 52, 0, 0, .null)]
theorem t_s_Wo_placeOf_5 : s_Wo_placeOf_5.all (am_ok 10 cX10_placeOf) = true := by decide +kernel
def s_Wo_placeOf_6 : List am_Q := [(52, .istore 4, 0, 0, 0, .null), (54, .aload_n 0, 0, 0, 0, .null), (55, .getfield 37, 10, 9, 67, .null), (58, .iload_n 3, 0, 0, 0, .null)]
theorem t_s_Wo_placeOf_6 : s_Wo_placeOf_6.all (am_ok 10 cX10_placeOf) = true := by decide +kernel
theorem d_X10_placeOf_59 : decode cX10_placeOf 59 = .ok (.iaload, 1) := by decide +kernel
def s_Wo_placeOf_7 : List am_Q := [(60, .aload_n 0, 0, 0, 0, .null), (61, .getfield 37, 10, 9, 67, .null), (64, .iload_n 1, 0, 0, 0, .null)]
theorem t_s_Wo_placeOf_7 : s_Wo_placeOf_7.all (am_ok 10 cX10_placeOf) = true := by decide +kernel
theorem d_X10_placeOf_65 : decode cX10_placeOf 65 = .ok (.iaload, 1) := by decide +kernel
theorem d_X10_placeOf_66 : decode cX10_placeOf 66 = .ok (.if_icmp .ne 11, 3) := by decide +kernel
def s_Wo_placeOf_8 : List am_Q := [(77, .iinc 3 1, 0, 0, 0, .int (nI 1)), (80, .goto (-76), 4, 0, 0, .null)]
theorem t_s_Wo_placeOf_8 : s_Wo_placeOf_8.all (am_ok 10 cX10_placeOf) = true := by decide +kernel
def s_Wo_placeOf_9 : List am_Q := [(69, .iload 4, 0, 0, 0, .null)]
theorem t_s_Wo_placeOf_9 : s_Wo_placeOf_9.all (am_ok 10 cX10_placeOf) = true := by decide +kernel
theorem d_X10_placeOf_71 : decode cX10_placeOf 71 = .ok (.ifCond .eq 6, 3) := by decide +kernel
def s_Wo_placeOf_10 : List am_Q := [(77, .iinc 3 1, 0, 0, 0, .int (nI 1)), (80, .goto (-76), 4, 0, 0, .null)]
theorem t_s_Wo_placeOf_10 : s_Wo_placeOf_10.all (am_ok 10 cX10_placeOf) = true := by decide +kernel
def s_Wo_placeOf_11 : List am_Q := [(74, .iinc 2 1, 0, 0, 0, .int (nI 1)), (77, .iinc 3 1, 0, 0, 0, .int (nI 1)), (80, .goto (-76), 4, 0, 0, .null)]
theorem t_s_Wo_placeOf_11 : s_Wo_placeOf_11.all (am_ok 10 cX10_placeOf) = true := by decide +kernel
def s_Wo_placeOf_12 : List am_Q := [(27, .aload_n 0, 0, 0, 0, .null), (28, .getfield 40, 10, 10, 68, .null), (31, .iload_n 3, 0, 0, 0, .null)]
theorem t_s_Wo_placeOf_12 : s_Wo_placeOf_12.all (am_ok 10 cX10_placeOf) = true := by decide +kernel
theorem d_X10_placeOf_32 : decode cX10_placeOf 32 = .ok (.iaload, 1) := by decide +kernel
def s_Wo_placeOf_13 : List am_Q := [(33, .aload_n 0, 0, 0, 0, .null), (34, .getfield 40, 10, 10, 68, .null), (37, .iload_n 1, 0, 0, 0, .null)]
theorem t_s_Wo_placeOf_13 : s_Wo_placeOf_13.all (am_ok 10 cX10_placeOf) = true := by decide +kernel
theorem d_X10_placeOf_38 : decode cX10_placeOf 38 = .ok (.iaload, 1) := by decide +kernel
theorem d_X10_placeOf_39 : decode cX10_placeOf 39 = .ok (.if_icmp .ne 12, 3) := by decide +kernel
def s_Wo_placeOf_14 : List am_Q := [(51, .iconst 0, 0, 0, 0, .int (nI 0))]
theorem t_s_Wo_placeOf_14 : s_Wo_placeOf_14.all (am_ok 10 cX10_placeOf) = true := by decide +kernel
def s_Wo_placeOf_15 : List am_Q := [(42, .iload_n 3, 0, 0, 0, .null), (43, .iload_n 1, 0, 0, 0, .null)]
theorem t_s_Wo_placeOf_15 : s_Wo_placeOf_15.all (am_ok 10 cX10_placeOf) = true := by decide +kernel
theorem d_X10_placeOf_44 : decode cX10_placeOf 44 = .ok (.if_icmp .ge 7, 3) := by decide +kernel
def s_Wo_placeOf_16 : List am_Q := [(51, .iconst 0, 0, 0, 0, .int (nI 0))]
theorem t_s_Wo_placeOf_16 : s_Wo_placeOf_16.all (am_ok 10 cX10_placeOf) = true := by decide +kernel
def s_Wo_placeOf_17 : List am_Q := [(47, .iconst 1, 0, 0, 0, .int (nI 1)), (48, .goto 4, 52, 0, 0, .null)]
theorem t_s_Wo_placeOf_17 : s_Wo_placeOf_17.all (am_ok 10 cX10_placeOf) = true := by decide +kernel
def Wo_placeOf_52 (k4 : am_T → Int32 → Int32 → Int32 → Option (Int32 × am_T)) (τ : am_T) (a1 : Int32) (a2 : Int32) (a3 : Int32) (s0 : Int32) : Option (Int32 × am_T) :=
  am_g (am_in a3 16) (am_g (am_in a1 16) (if (τ.1 50 (a3.toNatClampNeg)) = (τ.1 50 (a1.toNatClampNeg)) then
  (if s0 = 0 then
  (k4 τ a1 a2 (a3 + (nI 1)))
else
  (k4 τ a1 (a2 + (nI 1)) (a3 + (nI 1))))
else
  (k4 τ a1 a2 (a3 + (nI 1)))))
set_option maxRecDepth 20000 in
theorem ok_Wo_placeOf_52 {X : am_X} {v : Int32} {τ' : am_T} (hF : am_F X "ShareHouse$Works" cX10_placeOf 5) (hR : am_R X 0 0) (hB : am_B X (some .int) (some (.int v)) (am_D τ')) {k4 : am_T → Int32 → Int32 → Int32 → Option (Int32 × am_T)} (hk4 : ∀ (τ : am_T) (a1 : Int32) (a2 : Int32) (a3 : Int32), k4 τ a1 a2 a3 = some (v, τ') → am_W X 5 (4, [(0, .ref 41), (1, .int a1), (2, .int a2), (3, .int a3)], [], am_D τ)) {τ : am_T} {a1 : Int32} {a2 : Int32} {a3 : Int32} {s0 : Int32} (h : Wo_placeOf_52 k4 τ a1 a2 a3 s0 = some (v, τ')) : am_W X 5 (52, [(0, .ref 41), (1, .int a1), (2, .int a2), (3, .int a3)], [.int s0], am_D τ) := by
  unfold Wo_placeOf_52 at h
  refine am_seg s_Wo_placeOf_6 (y := (59, [(4, .int s0), (0, .ref 41), (1, .int a1), (2, .int a2), (3, .int a3)], [.int a3, .ref 50], am_D τ)) hF t_s_Wo_placeOf_6 rfl rfl ?_
  refine am_gd h (fun hi h => ?_)
  refine am_iald (n := 16) (j := (a3.toNatClampNeg)) d_X10_placeOf_59 (Nat.le_of_ble_eq_true rfl) (Nat.le_of_ble_eq_true rfl) rfl hi rfl hF ?_
  refine am_seg s_Wo_placeOf_7 (y := (65, [(4, .int s0), (0, .ref 41), (1, .int a1), (2, .int a2), (3, .int a3)], [.int a1, .ref 50, .int (τ.1 50 (a3.toNatClampNeg))], am_D τ)) hF t_s_Wo_placeOf_7 rfl rfl ?_
  refine am_gd h (fun hi h => ?_)
  refine am_iald (n := 16) (j := (a1.toNatClampNeg)) d_X10_placeOf_65 (Nat.le_of_ble_eq_true rfl) (Nat.le_of_ble_eq_true rfl) rfl hi rfl hF ?_
  refine am_ite h (fun hc h => ?_) (fun hc h => ?_)
  · refine am_icmp_ne_f (t := 77) d_X10_placeOf_66 (by decide) hc hF ?_
    refine am_seg s_Wo_placeOf_9 (y := (71, [(4, .int s0), (0, .ref 41), (1, .int a1), (2, .int a2), (3, .int a3)], [.int s0], am_D τ)) hF t_s_Wo_placeOf_9 rfl rfl ?_
    refine am_ite h (fun hc h => ?_) (fun hc h => ?_)
    · refine am_if_eq_t (t := 77) d_X10_placeOf_71 (by decide) hc hF ?_
      refine am_seg s_Wo_placeOf_10 (y := (4, [(3, .int (a3 + (nI 1))), (4, .int s0), (0, .ref 41), (1, .int a1), (2, .int a2)], [], am_D τ)) hF t_s_Wo_placeOf_10 rfl rfl ?_
      refine am_pick [2, 3, 4, 0] rfl ?_
      exact hk4 _ _ _ _ h
    · refine am_if_eq_f (t := 77) d_X10_placeOf_71 (by decide) hc hF ?_
      refine am_seg s_Wo_placeOf_11 (y := (4, [(3, .int (a3 + (nI 1))), (2, .int (a2 + (nI 1))), (4, .int s0), (0, .ref 41), (1, .int a1)], [], am_D τ)) hF t_s_Wo_placeOf_11 rfl rfl ?_
      refine am_pick [3, 4, 1, 0] rfl ?_
      exact hk4 _ _ _ _ h
  · refine am_icmp_ne_t (t := 77) d_X10_placeOf_66 (by decide) hc hF ?_
    refine am_seg s_Wo_placeOf_8 (y := (4, [(3, .int (a3 + (nI 1))), (4, .int s0), (0, .ref 41), (1, .int a1), (2, .int a2)], [], am_D τ)) hF t_s_Wo_placeOf_8 rfl rfl ?_
    refine am_pick [2, 3, 4, 0] rfl ?_
    exact hk4 _ _ _ _ h
def Wo_placeOf_4 : Nat → am_T → Int32 → Int32 → Int32 → Option (Int32 × am_T)
  | 0, _, _, _, _ => none
  | n + 1, τ, a1, a2, a3 =>
    if (τ.1 41 11) ≤ a3 then
  (some (a2, τ))
else
  (am_g (am_in a3 16) (am_g (am_in a1 16) (if (τ.1 51 (a3.toNatClampNeg)) < (τ.1 51 (a1.toNatClampNeg)) then
  (Wo_placeOf_52 (Wo_placeOf_4 n) τ a1 a2 a3 (nI 1))
else
  (am_g (am_in a3 16) (am_g (am_in a1 16) (if (τ.1 51 (a3.toNatClampNeg)) = (τ.1 51 (a1.toNatClampNeg)) then
  (if a1 ≤ a3 then
  (Wo_placeOf_52 (Wo_placeOf_4 n) τ a1 a2 a3 (nI 0))
else
  (Wo_placeOf_52 (Wo_placeOf_4 n) τ a1 a2 a3 (nI 1)))
else
  (Wo_placeOf_52 (Wo_placeOf_4 n) τ a1 a2 a3 (nI 0))))))))
set_option maxRecDepth 20000 in
theorem ok_Wo_placeOf_4 {X : am_X} {v : Int32} {τ' : am_T} (hF : am_F X "ShareHouse$Works" cX10_placeOf 5) (hR : am_R X 0 0) (hB : am_B X (some .int) (some (.int v)) (am_D τ')) : ∀ (n : Nat) (τ : am_T) (a1 : Int32) (a2 : Int32) (a3 : Int32), Wo_placeOf_4 n τ a1 a2 a3 = some (v, τ') → am_W X 5 (4, [(0, .ref 41), (1, .int a1), (2, .int a2), (3, .int a3)], [], am_D τ) := by
  intro n
  induction n with
  | zero => intro τ a1 a2 a3 h; unfold Wo_placeOf_4 at h; cases h
  | succ n ih =>
    intro τ a1 a2 a3 h
    unfold Wo_placeOf_4 at h
    refine am_seg s_Wo_placeOf_1 (y := (9, [(0, .ref 41), (1, .int a1), (2, .int a2), (3, .int a3)], [.int (τ.1 41 11), .int a3], am_D τ)) hF t_s_Wo_placeOf_1 rfl rfl ?_
    refine am_ite h (fun hc h => ?_) (fun hc h => ?_)
    · refine am_icmp_ge_t (t := 83) d_X10_placeOf_9 (by decide) hc hF ?_
      refine am_seg s_Wo_placeOf_2 (y := (84, [(0, .ref 41), (1, .int a1), (2, .int a2), (3, .int a3)], [.int a2], am_D τ)) hF t_s_Wo_placeOf_2 rfl rfl ?_
      obtain ⟨rfl, rfl⟩ := am_pair h
      exact am_iret d_X10_placeOf_84 hF hB
    · refine am_icmp_ge_f (t := 83) d_X10_placeOf_9 (by decide) hc hF ?_
      refine am_seg s_Wo_placeOf_3 (y := (17, [(0, .ref 41), (1, .int a1), (2, .int a2), (3, .int a3)], [.int a3, .ref 51], am_D τ)) hF t_s_Wo_placeOf_3 rfl rfl ?_
      refine am_gd h (fun hi h => ?_)
      refine am_iald (n := 16) (j := (a3.toNatClampNeg)) d_X10_placeOf_17 (Nat.le_of_ble_eq_true rfl) (Nat.le_of_ble_eq_true rfl) rfl hi rfl hF ?_
      refine am_seg s_Wo_placeOf_4 (y := (23, [(0, .ref 41), (1, .int a1), (2, .int a2), (3, .int a3)], [.int a1, .ref 51, .int (τ.1 51 (a3.toNatClampNeg))], am_D τ)) hF t_s_Wo_placeOf_4 rfl rfl ?_
      refine am_gd h (fun hi h => ?_)
      refine am_iald (n := 16) (j := (a1.toNatClampNeg)) d_X10_placeOf_23 (Nat.le_of_ble_eq_true rfl) (Nat.le_of_ble_eq_true rfl) rfl hi rfl hF ?_
      refine am_ite h (fun hc h => ?_) (fun hc h => ?_)
      · refine am_icmp_lt_t (t := 47) d_X10_placeOf_24 (by decide) hc hF ?_
        refine am_seg s_Wo_placeOf_5 (y := (52, [(0, .ref 41), (1, .int a1), (2, .int a2), (3, .int a3)], [.int (nI 1)], am_D τ)) hF t_s_Wo_placeOf_5 rfl rfl ?_
        exact ok_Wo_placeOf_52 hF hR hB ih h
      · refine am_icmp_lt_f (t := 47) d_X10_placeOf_24 (by decide) hc hF ?_
        refine am_seg s_Wo_placeOf_12 (y := (32, [(0, .ref 41), (1, .int a1), (2, .int a2), (3, .int a3)], [.int a3, .ref 51], am_D τ)) hF t_s_Wo_placeOf_12 rfl rfl ?_
        refine am_gd h (fun hi h => ?_)
        refine am_iald (n := 16) (j := (a3.toNatClampNeg)) d_X10_placeOf_32 (Nat.le_of_ble_eq_true rfl) (Nat.le_of_ble_eq_true rfl) rfl hi rfl hF ?_
        refine am_seg s_Wo_placeOf_13 (y := (38, [(0, .ref 41), (1, .int a1), (2, .int a2), (3, .int a3)], [.int a1, .ref 51, .int (τ.1 51 (a3.toNatClampNeg))], am_D τ)) hF t_s_Wo_placeOf_13 rfl rfl ?_
        refine am_gd h (fun hi h => ?_)
        refine am_iald (n := 16) (j := (a1.toNatClampNeg)) d_X10_placeOf_38 (Nat.le_of_ble_eq_true rfl) (Nat.le_of_ble_eq_true rfl) rfl hi rfl hF ?_
        refine am_ite h (fun hc h => ?_) (fun hc h => ?_)
        · refine am_icmp_ne_f (t := 51) d_X10_placeOf_39 (by decide) hc hF ?_
          refine am_seg s_Wo_placeOf_15 (y := (44, [(0, .ref 41), (1, .int a1), (2, .int a2), (3, .int a3)], [.int a1, .int a3], am_D τ)) hF t_s_Wo_placeOf_15 rfl rfl ?_
          refine am_ite h (fun hc h => ?_) (fun hc h => ?_)
          · refine am_icmp_ge_t (t := 51) d_X10_placeOf_44 (by decide) hc hF ?_
            refine am_seg s_Wo_placeOf_16 (y := (52, [(0, .ref 41), (1, .int a1), (2, .int a2), (3, .int a3)], [.int (nI 0)], am_D τ)) hF t_s_Wo_placeOf_16 rfl rfl ?_
            exact ok_Wo_placeOf_52 hF hR hB ih h
          · refine am_icmp_ge_f (t := 51) d_X10_placeOf_44 (by decide) hc hF ?_
            refine am_seg s_Wo_placeOf_17 (y := (52, [(0, .ref 41), (1, .int a1), (2, .int a2), (3, .int a3)], [.int (nI 1)], am_D τ)) hF t_s_Wo_placeOf_17 rfl rfl ?_
            exact ok_Wo_placeOf_52 hF hR hB ih h
        · refine am_icmp_ne_t (t := 51) d_X10_placeOf_39 (by decide) hc hF ?_
          refine am_seg s_Wo_placeOf_14 (y := (52, [(0, .ref 41), (1, .int a1), (2, .int a2), (3, .int a3)], [.int (nI 0)], am_D τ)) hF t_s_Wo_placeOf_14 rfl rfl ?_
          exact ok_Wo_placeOf_52 hF hR hB ih h
def Wo_placeOf (τ : am_T) (a1 : Int32) : Option (Int32 × am_T) :=
  Wo_placeOf_4 5000 τ a1 (nI 0) (nI 0)
set_option maxRecDepth 20000 in
theorem ok_Wo_placeOf {X : am_X} {a1 : Int32} {v : Int32} {τ τ' : am_T} (hF : am_F X "ShareHouse$Works" cX10_placeOf 5) (hR : am_R X 0 0) (hB : am_B X (some .int) (some (.int v)) (am_D τ')) (h : Wo_placeOf τ a1 = some (v, τ')) : am_W X 5 (0, [(0, .ref 41), (1, .int a1)], [], am_D τ) := by
  unfold Wo_placeOf at h
  refine am_seg s_Wo_placeOf_0 (y := (4, [(3, .int (nI 0)), (2, .int (nI 0)), (0, .ref 41), (1, .int a1)], [], am_D τ)) hF t_s_Wo_placeOf_0 rfl rfl ?_
  refine am_pick [2, 3, 1, 0] rfl ?_
  exact ok_Wo_placeOf_4 hF hR hB _ _ _ _ _ h
theorem c_Wo_placeOf {a1 : Int32} {v : Int32} {τ τ' : am_T} (h : Wo_placeOf τ a1 = some (v, τ')) : am_C yX10_placeOf cX10_placeOf 5 (some .int) 0 0 [.ref 41, .int a1] (am_D τ) (some (.int v)) (am_D τ') :=
  am_enter (by decide +kernel) (Nat.le_of_ble_eq_true rfl) ⟨Nat.le_refl _, Nat.le_refl _⟩ (fun X hF hR hB => ok_Wo_placeOf hF hR hB h)
def s_Wo_fairOf_0 : List am_Q := [(0, .iconst 0, 0, 0, 0, .int (nI 0)), (1, .istore_n 2, 0, 0, 0, .null), (2, .iconst 0, 0, 0, 0, .int (nI 0)), (3, .istore_n 3, 0, 0, 0, .null)]
theorem t_s_Wo_fairOf_0 : s_Wo_fairOf_0.all (am_ok 10 cX10_fairOf) = true := by decide +kernel
def s_Wo_fairOf_1 : List am_Q := [(4, .iload_n 3, 0, 0, 0, .null), (5, .aload_n 0, 0, 0, 0, .null), (6, .getfield 54, 10, 11, 69, .null)]
theorem t_s_Wo_fairOf_1 : s_Wo_fairOf_1.all (am_ok 10 cX10_fairOf) = true := by decide +kernel
theorem d_X10_fairOf_9 : decode cX10_fairOf 9 = .ok (.if_icmp .ge 22, 3) := by decide +kernel
def s_Wo_fairOf_2 : List am_Q := [(31, .bipush (-3), 0, 0, 0, .int (-3 : Int32)), (33, .istore_n 3, 0, 0, 0, .null), (34, .iconst 0, 0, 0, 0, .int (nI 0)), (35, .istore 4, 0, 0, 0, .null)]
theorem t_s_Wo_fairOf_2 : s_Wo_fairOf_2.all (am_ok 10 cX10_fairOf) = true := by decide +kernel
def s_Wo_fairOf_3 : List am_Q := [(37, .iload 4, 0, 0, 0, .null), (39, .aload_n 0, 0, 0, 0, .null), (40, .getfield 54, 10, 11, 69, .null)]
theorem t_s_Wo_fairOf_3 : s_Wo_fairOf_3.all (am_ok 10 cX10_fairOf) = true := by decide +kernel
theorem d_X10_fairOf_43 : decode cX10_fairOf 43 = .ok (.if_icmp .ge 47, 3) := by decide +kernel
def s_Wo_fairOf_4 : List am_Q := [(90, .iload_n 3, 0, 0, 0, .null)]
theorem t_s_Wo_fairOf_4 : s_Wo_fairOf_4.all (am_ok 10 cX10_fairOf) = true := by decide +kernel
theorem d_X10_fairOf_91 : decode cX10_fairOf 91 = .ok (.ireturn, 1) := by decide +kernel
def s_Wo_fairOf_5 : List am_Q := [(46, .iload_n 2, 0, 0, 0, .null), (47, .iconst 3, 0, 0, 0, .int (nI 3))]
theorem t_s_Wo_fairOf_5 : s_Wo_fairOf_5.all (am_ok 10 cX10_fairOf) = true := by decide +kernel
theorem d_X10_fairOf_48 : decode cX10_fairOf 48 = .ok (.if_icmp .lt 42, 3) := by decide +kernel
def s_Wo_fairOf_6 : List am_Q := [(90, .iload_n 3, 0, 0, 0, .null)]
theorem t_s_Wo_fairOf_6 : s_Wo_fairOf_6.all (am_ok 10 cX10_fairOf) = true := by decide +kernel
def s_Wo_fairOf_7 : List am_Q := [(51, .aload_n 0, 0, 0, 0, .null), (52, .getfield 37, 10, 9, 67, .null), (55, .iload 4, 0, 0, 0, .null)]
theorem t_s_Wo_fairOf_7 : s_Wo_fairOf_7.all (am_ok 10 cX10_fairOf) = true := by decide +kernel
theorem d_X10_fairOf_57 : decode cX10_fairOf 57 = .ok (.iaload, 1) := by decide +kernel
def s_Wo_fairOf_8 : List am_Q := [(58, .iload_n 1, 0, 0, 0, .null)]
theorem t_s_Wo_fairOf_8 : s_Wo_fairOf_8.all (am_ok 10 cX10_fairOf) = true := by decide +kernel
theorem d_X10_fairOf_59 : decode cX10_fairOf 59 = .ok (.if_icmp .ne 25, 3) := by decide +kernel
def s_Wo_fairOf_9 : List am_Q := [(84, .iinc 4 1, 0, 0, 0, .int (nI 1)), (87, .goto (-50), 37, 0, 0, .null)]
theorem t_s_Wo_fairOf_9 : s_Wo_fairOf_9.all (am_ok 10 cX10_fairOf) = true := by decide +kernel
def s_Wo_fairOf_10 : List am_Q := [(62, .aload_n 0, 0, 0, 0, .null), (63, .iload 4, 0, 0, 0, .null)]
theorem t_s_Wo_fairOf_10 : s_Wo_fairOf_10.all (am_ok 10 cX10_fairOf) = true := by decide +kernel
theorem d_X10_fairOf_65 : decode cX10_fairOf 65 = .ok (.invokevirtual 67, 3) := by decide +kernel
def s_Wo_fairOf_11 : List am_Q := [(68, .iconst 3, 0, 0, 0, .int (nI 3)), (69, .iload_n 2, 0, 0, 0, .null), (70, .imul, 0, 0, 0, .null), (71, .iconst 4, 0, 0, 0, .int (nI 4))]
theorem t_s_Wo_fairOf_11 : s_Wo_fairOf_11.all (am_ok 10 cX10_fairOf) = true := by decide +kernel
theorem d_X10_fairOf_72 : decode cX10_fairOf 72 = .ok (.idiv, 1) := by decide +kernel
theorem d_X10_fairOf_73 : decode cX10_fairOf 73 = .ok (.if_icmp .ne 11, 3) := by decide +kernel
def s_Wo_fairOf_12 : List am_Q := [(84, .iinc 4 1, 0, 0, 0, .int (nI 1)), (87, .goto (-50), 37, 0, 0, .null)]
theorem t_s_Wo_fairOf_12 : s_Wo_fairOf_12.all (am_ok 10 cX10_fairOf) = true := by decide +kernel
def s_Wo_fairOf_13 : List am_Q := [(76, .aload_n 0, 0, 0, 0, .null), (77, .getfield 40, 10, 10, 68, .null), (80, .iload 4, 0, 0, 0, .null)]
theorem t_s_Wo_fairOf_13 : s_Wo_fairOf_13.all (am_ok 10 cX10_fairOf) = true := by decide +kernel
theorem d_X10_fairOf_82 : decode cX10_fairOf 82 = .ok (.iaload, 1) := by decide +kernel
def s_Wo_fairOf_14 : List am_Q := [(83, .istore_n 3, 0, 0, 0, .null), (84, .iinc 4 1, 0, 0, 0, .int (nI 1)), (87, .goto (-50), 37, 0, 0, .null)]
theorem t_s_Wo_fairOf_14 : s_Wo_fairOf_14.all (am_ok 10 cX10_fairOf) = true := by decide +kernel
def s_Wo_fairOf_15 : List am_Q := [(12, .aload_n 0, 0, 0, 0, .null), (13, .getfield 37, 10, 9, 67, .null), (16, .iload_n 3, 0, 0, 0, .null)]
theorem t_s_Wo_fairOf_15 : s_Wo_fairOf_15.all (am_ok 10 cX10_fairOf) = true := by decide +kernel
theorem d_X10_fairOf_17 : decode cX10_fairOf 17 = .ok (.iaload, 1) := by decide +kernel
def s_Wo_fairOf_16 : List am_Q := [(18, .iload_n 1, 0, 0, 0, .null)]
theorem t_s_Wo_fairOf_16 : s_Wo_fairOf_16.all (am_ok 10 cX10_fairOf) = true := by decide +kernel
theorem d_X10_fairOf_19 : decode cX10_fairOf 19 = .ok (.if_icmp .ne 6, 3) := by decide +kernel
def s_Wo_fairOf_17 : List am_Q := [(25, .iinc 3 1, 0, 0, 0, .int (nI 1)), (28, .goto (-24), 4, 0, 0, .null)]
theorem t_s_Wo_fairOf_17 : s_Wo_fairOf_17.all (am_ok 10 cX10_fairOf) = true := by decide +kernel
def s_Wo_fairOf_18 : List am_Q := [(22, .iinc 2 1, 0, 0, 0, .int (nI 1)), (25, .iinc 3 1, 0, 0, 0, .int (nI 1)), (28, .goto (-24), 4, 0, 0, .null)]
theorem t_s_Wo_fairOf_18 : s_Wo_fairOf_18.all (am_ok 10 cX10_fairOf) = true := by decide +kernel
def Wo_fairOf_37 : Nat → am_T → Int32 → Int32 → Int32 → Int32 → Option (Int32 × am_T)
  | 0, _, _, _, _, _ => none
  | n + 1, τ, a1, a2, a3, a4 =>
    if (τ.1 41 11) ≤ a4 then
  (some (a3, τ))
else
  (if a2 < (nI 3) then
  (some (a3, τ))
else
  (am_g (am_in a4 16) (if (τ.1 50 (a4.toNatClampNeg)) = a1 then
  ((Wo_placeOf τ a4).bind (fun x1 =>
  if x1.1 = (((nI 3) * a2) / (nI 4)) then
  (am_g (am_in a4 16) ((Wo_fairOf_37 n) x1.2 a1 a2 (x1.2.1 51 (a4.toNatClampNeg)) (a4 + (nI 1))))
else
  ((Wo_fairOf_37 n) x1.2 a1 a2 a3 (a4 + (nI 1)))))
else
  ((Wo_fairOf_37 n) τ a1 a2 a3 (a4 + (nI 1))))))
set_option maxRecDepth 20000 in
theorem ok_Wo_fairOf_37 {X : am_X} {v : Int32} {τ' : am_T} (hF : am_F X "ShareHouse$Works" cX10_fairOf 5) (hR : am_R X 1 24) (hB : am_B X (some .int) (some (.int v)) (am_D τ')) : ∀ (n : Nat) (τ : am_T) (a1 : Int32) (a2 : Int32) (a3 : Int32) (a4 : Int32), Wo_fairOf_37 n τ a1 a2 a3 a4 = some (v, τ') → am_W X 5 (37, [(0, .ref 41), (1, .int a1), (2, .int a2), (3, .int a3), (4, .int a4)], [], am_D τ) := by
  intro n
  induction n with
  | zero => intro τ a1 a2 a3 a4 h; unfold Wo_fairOf_37 at h; cases h
  | succ n ih =>
    intro τ a1 a2 a3 a4 h
    unfold Wo_fairOf_37 at h
    refine am_seg s_Wo_fairOf_3 (y := (43, [(0, .ref 41), (1, .int a1), (2, .int a2), (3, .int a3), (4, .int a4)], [.int (τ.1 41 11), .int a4], am_D τ)) hF t_s_Wo_fairOf_3 rfl rfl ?_
    refine am_ite h (fun hc h => ?_) (fun hc h => ?_)
    · refine am_icmp_ge_t (t := 90) d_X10_fairOf_43 (by decide) hc hF ?_
      refine am_seg s_Wo_fairOf_4 (y := (91, [(0, .ref 41), (1, .int a1), (2, .int a2), (3, .int a3), (4, .int a4)], [.int a3], am_D τ)) hF t_s_Wo_fairOf_4 rfl rfl ?_
      obtain ⟨rfl, rfl⟩ := am_pair h
      exact am_iret d_X10_fairOf_91 hF hB
    · refine am_icmp_ge_f (t := 90) d_X10_fairOf_43 (by decide) hc hF ?_
      refine am_seg s_Wo_fairOf_5 (y := (48, [(0, .ref 41), (1, .int a1), (2, .int a2), (3, .int a3), (4, .int a4)], [.int (nI 3), .int a2], am_D τ)) hF t_s_Wo_fairOf_5 rfl rfl ?_
      refine am_ite h (fun hc h => ?_) (fun hc h => ?_)
      · refine am_icmp_lt_t (t := 90) d_X10_fairOf_48 (by decide) hc hF ?_
        refine am_seg s_Wo_fairOf_6 (y := (91, [(0, .ref 41), (1, .int a1), (2, .int a2), (3, .int a3), (4, .int a4)], [.int a3], am_D τ)) hF t_s_Wo_fairOf_6 rfl rfl ?_
        obtain ⟨rfl, rfl⟩ := am_pair h
        exact am_iret d_X10_fairOf_91 hF hB
      · refine am_icmp_lt_f (t := 90) d_X10_fairOf_48 (by decide) hc hF ?_
        refine am_seg s_Wo_fairOf_7 (y := (57, [(0, .ref 41), (1, .int a1), (2, .int a2), (3, .int a3), (4, .int a4)], [.int a4, .ref 50], am_D τ)) hF t_s_Wo_fairOf_7 rfl rfl ?_
        refine am_gd h (fun hi h => ?_)
        refine am_iald (n := 16) (j := (a4.toNatClampNeg)) d_X10_fairOf_57 (Nat.le_of_ble_eq_true rfl) (Nat.le_of_ble_eq_true rfl) rfl hi rfl hF ?_
        refine am_seg s_Wo_fairOf_8 (y := (59, [(0, .ref 41), (1, .int a1), (2, .int a2), (3, .int a3), (4, .int a4)], [.int a1, .int (τ.1 50 (a4.toNatClampNeg))], am_D τ)) hF t_s_Wo_fairOf_8 rfl rfl ?_
        refine am_ite h (fun hc h => ?_) (fun hc h => ?_)
        · refine am_icmp_ne_f (t := 84) d_X10_fairOf_59 (by decide) hc hF ?_
          refine am_seg s_Wo_fairOf_10 (y := (65, [(0, .ref 41), (1, .int a1), (2, .int a2), (3, .int a3), (4, .int a4)], [.int a4, .ref 41], am_D τ)) hF t_s_Wo_fairOf_10 rfl rfl ?_
          refine am_bd h (fun x1 hx h => ?_)
          refine am_callV (As := [.int a4]) (r := (some (.int x1.1))) (st := []) (σ' := am_D x1.2) (ci := 10) hF hR d_X10_fairOf_65 (c_Wo_placeOf (τ' := x1.2) hx) (Nat.le_refl _) (Nat.le_refl _) wl_Wo_67 wi_yX10_placeOf we_yX10_placeOf wn_ShareHouse_Works wc_yX10_placeOf (Nat.le_of_ble_eq_true rfl) (Nat.le_of_ble_eq_true rfl) rfl rfl wy_yX10_placeOf rfl ⟨by decide, by decide⟩ (Nat.le_of_ble_eq_true rfl) ?_
          refine am_seg s_Wo_fairOf_11 (y := (72, [(0, .ref 41), (1, .int a1), (2, .int a2), (3, .int a3), (4, .int a4)], [.int (nI 4), .int ((nI 3) * a2), .int x1.1], am_D x1.2)) hF t_s_Wo_fairOf_11 rfl rfl ?_
          refine am_idiv d_X10_fairOf_72 (by decide) hF ?_
          refine am_ite h (fun hc h => ?_) (fun hc h => ?_)
          · refine am_icmp_ne_f (t := 84) d_X10_fairOf_73 (by decide) hc hF ?_
            refine am_seg s_Wo_fairOf_13 (y := (82, [(0, .ref 41), (1, .int a1), (2, .int a2), (3, .int a3), (4, .int a4)], [.int a4, .ref 51], am_D x1.2)) hF t_s_Wo_fairOf_13 rfl rfl ?_
            refine am_gd h (fun hi h => ?_)
            refine am_iald (n := 16) (j := (a4.toNatClampNeg)) d_X10_fairOf_82 (Nat.le_of_ble_eq_true rfl) (Nat.le_of_ble_eq_true rfl) rfl hi rfl hF ?_
            refine am_seg s_Wo_fairOf_14 (y := (37, [(4, .int (a4 + (nI 1))), (3, .int (x1.2.1 51 (a4.toNatClampNeg))), (0, .ref 41), (1, .int a1), (2, .int a2)], [], am_D x1.2)) hF t_s_Wo_fairOf_14 rfl rfl ?_
            refine am_pick [2, 3, 4, 1, 0] rfl ?_
            exact ih _ _ _ _ _ h
          · refine am_icmp_ne_t (t := 84) d_X10_fairOf_73 (by decide) hc hF ?_
            refine am_seg s_Wo_fairOf_12 (y := (37, [(4, .int (a4 + (nI 1))), (0, .ref 41), (1, .int a1), (2, .int a2), (3, .int a3)], [], am_D x1.2)) hF t_s_Wo_fairOf_12 rfl rfl ?_
            refine am_pick [1, 2, 3, 4, 0] rfl ?_
            exact ih _ _ _ _ _ h
        · refine am_icmp_ne_t (t := 84) d_X10_fairOf_59 (by decide) hc hF ?_
          refine am_seg s_Wo_fairOf_9 (y := (37, [(4, .int (a4 + (nI 1))), (0, .ref 41), (1, .int a1), (2, .int a2), (3, .int a3)], [], am_D τ)) hF t_s_Wo_fairOf_9 rfl rfl ?_
          refine am_pick [1, 2, 3, 4, 0] rfl ?_
          exact ih _ _ _ _ _ h
def Wo_fairOf_4 : Nat → am_T → Int32 → Int32 → Int32 → Option (Int32 × am_T)
  | 0, _, _, _, _ => none
  | n + 1, τ, a1, a2, a3 =>
    if (τ.1 41 11) ≤ a3 then
  (Wo_fairOf_37 5000 τ a1 a2 (-3 : Int32) (nI 0))
else
  (am_g (am_in a3 16) (if (τ.1 50 (a3.toNatClampNeg)) = a1 then
  ((Wo_fairOf_4 n) τ a1 (a2 + (nI 1)) (a3 + (nI 1)))
else
  ((Wo_fairOf_4 n) τ a1 a2 (a3 + (nI 1)))))
set_option maxRecDepth 20000 in
theorem ok_Wo_fairOf_4 {X : am_X} {v : Int32} {τ' : am_T} (hF : am_F X "ShareHouse$Works" cX10_fairOf 5) (hR : am_R X 1 24) (hB : am_B X (some .int) (some (.int v)) (am_D τ')) : ∀ (n : Nat) (τ : am_T) (a1 : Int32) (a2 : Int32) (a3 : Int32), Wo_fairOf_4 n τ a1 a2 a3 = some (v, τ') → am_W X 5 (4, [(0, .ref 41), (1, .int a1), (2, .int a2), (3, .int a3)], [], am_D τ) := by
  intro n
  induction n with
  | zero => intro τ a1 a2 a3 h; unfold Wo_fairOf_4 at h; cases h
  | succ n ih =>
    intro τ a1 a2 a3 h
    unfold Wo_fairOf_4 at h
    refine am_seg s_Wo_fairOf_1 (y := (9, [(0, .ref 41), (1, .int a1), (2, .int a2), (3, .int a3)], [.int (τ.1 41 11), .int a3], am_D τ)) hF t_s_Wo_fairOf_1 rfl rfl ?_
    refine am_ite h (fun hc h => ?_) (fun hc h => ?_)
    · refine am_icmp_ge_t (t := 31) d_X10_fairOf_9 (by decide) hc hF ?_
      refine am_seg s_Wo_fairOf_2 (y := (37, [(4, .int (nI 0)), (3, .int (-3 : Int32)), (0, .ref 41), (1, .int a1), (2, .int a2)], [], am_D τ)) hF t_s_Wo_fairOf_2 rfl rfl ?_
      refine am_pick [2, 3, 4, 1, 0] rfl ?_
      exact ok_Wo_fairOf_37 hF hR hB _ _ _ _ _ _ h
    · refine am_icmp_ge_f (t := 31) d_X10_fairOf_9 (by decide) hc hF ?_
      refine am_seg s_Wo_fairOf_15 (y := (17, [(0, .ref 41), (1, .int a1), (2, .int a2), (3, .int a3)], [.int a3, .ref 50], am_D τ)) hF t_s_Wo_fairOf_15 rfl rfl ?_
      refine am_gd h (fun hi h => ?_)
      refine am_iald (n := 16) (j := (a3.toNatClampNeg)) d_X10_fairOf_17 (Nat.le_of_ble_eq_true rfl) (Nat.le_of_ble_eq_true rfl) rfl hi rfl hF ?_
      refine am_seg s_Wo_fairOf_16 (y := (19, [(0, .ref 41), (1, .int a1), (2, .int a2), (3, .int a3)], [.int a1, .int (τ.1 50 (a3.toNatClampNeg))], am_D τ)) hF t_s_Wo_fairOf_16 rfl rfl ?_
      refine am_ite h (fun hc h => ?_) (fun hc h => ?_)
      · refine am_icmp_ne_f (t := 25) d_X10_fairOf_19 (by decide) hc hF ?_
        refine am_seg s_Wo_fairOf_18 (y := (4, [(3, .int (a3 + (nI 1))), (2, .int (a2 + (nI 1))), (0, .ref 41), (1, .int a1)], [], am_D τ)) hF t_s_Wo_fairOf_18 rfl rfl ?_
        refine am_pick [2, 3, 1, 0] rfl ?_
        exact ih _ _ _ _ h
      · refine am_icmp_ne_t (t := 25) d_X10_fairOf_19 (by decide) hc hF ?_
        refine am_seg s_Wo_fairOf_17 (y := (4, [(3, .int (a3 + (nI 1))), (0, .ref 41), (1, .int a1), (2, .int a2)], [], am_D τ)) hF t_s_Wo_fairOf_17 rfl rfl ?_
        refine am_pick [1, 2, 3, 0] rfl ?_
        exact ih _ _ _ _ h
def Wo_fairOf (τ : am_T) (a1 : Int32) : Option (Int32 × am_T) :=
  Wo_fairOf_4 5000 τ a1 (nI 0) (nI 0)
set_option maxRecDepth 20000 in
theorem ok_Wo_fairOf {X : am_X} {a1 : Int32} {v : Int32} {τ τ' : am_T} (hF : am_F X "ShareHouse$Works" cX10_fairOf 5) (hR : am_R X 1 24) (hB : am_B X (some .int) (some (.int v)) (am_D τ')) (h : Wo_fairOf τ a1 = some (v, τ')) : am_W X 5 (0, [(0, .ref 41), (1, .int a1)], [], am_D τ) := by
  unfold Wo_fairOf at h
  refine am_seg s_Wo_fairOf_0 (y := (4, [(3, .int (nI 0)), (2, .int (nI 0)), (0, .ref 41), (1, .int a1)], [], am_D τ)) hF t_s_Wo_fairOf_0 rfl rfl ?_
  refine am_pick [2, 3, 1, 0] rfl ?_
  exact ok_Wo_fairOf_4 hF hR hB _ _ _ _ _ h
theorem c_Wo_fairOf {a1 : Int32} {v : Int32} {τ τ' : am_T} (h : Wo_fairOf τ a1 = some (v, τ')) : am_C yX10_fairOf cX10_fairOf 5 (some .int) 1 24 [.ref 41, .int a1] (am_D τ) (some (.int v)) (am_D τ') :=
  am_enter (by decide +kernel) (Nat.le_of_ble_eq_true rfl) ⟨Nat.le_refl _, Nat.le_refl _⟩ (fun X hF hR hB => ok_Wo_fairOf hF hR hB h)
def s_X_fair_0 : List am_Q := [(0, .iload_n 1, 0, 0, 0, .null)]
theorem t_s_X_fair_0 : s_X_fair_0.all (am_ok 11 cX11_fair) = true := by decide +kernel
theorem d_X11_fair_1 : decode cX11_fair 1 = .ok (.invokestatic 112, 3) := by decide +kernel
theorem d_X11_fair_4 : decode cX11_fair 4 = .ok (.ifCond .eq 17, 3) := by decide +kernel
def s_X_fair_1 : List am_Q := [(21, .iconst (-1), 0, 0, 0, .int (-1 : Int32))]
theorem t_s_X_fair_1 : s_X_fair_1.all (am_ok 11 cX11_fair) = true := by decide +kernel
theorem d_X11_fair_22 : decode cX11_fair 22 = .ok (.ireturn, 1) := by decide +kernel
def s_X_fair_2 : List am_Q := [(7, .aload_n 0, 0, 0, 0, .null), (8, .getfield 10, 11, 0, 145, .null), (11, .getfield 249, 3, 6, 106, .null), (14, .iload_n 1, 0, 0, 0, .null)]
theorem t_s_X_fair_2 : s_X_fair_2.all (am_ok 11 cX11_fair) = true := by decide +kernel
theorem d_X11_fair_15 : decode cX11_fair 15 = .ok (.invokevirtual 275, 3) := by decide +kernel
def s_X_fair_3 : List am_Q := [(18, .goto 4, 22, 0, 0, .null)]
theorem t_s_X_fair_3 : s_X_fair_3.all (am_ok 11 cX11_fair) = true := by decide +kernel
def X_fair (τ : am_T) (a1 : Int32) : Option (Int32 × am_T) :=
  (X_isHead τ a1).bind (fun x1 =>
  if x1.1 = 0 then
  (some ((-1 : Int32), x1.2))
else
  ((Wo_fairOf x1.2 a1).bind (fun x2 =>
  some (x2.1, x2.2))))
set_option maxRecDepth 20000 in
theorem ok_X_fair {X : am_X} {a1 : Int32} {v : Int32} {τ τ' : am_T} (hF : am_F X "ShareHouse" cX11_fair 2) (hR : am_R X 2 48) (hB : am_B X (some .int) (some (.int v)) (am_D τ')) (h : X_fair τ a1 = some (v, τ')) : am_W X 2 (0, [(0, .ref 0), (1, .int a1)], [], am_D τ) := by
  unfold X_fair at h
  refine am_seg s_X_fair_0 (y := (1, [(0, .ref 0), (1, .int a1)], [.int a1], am_D τ)) hF t_s_X_fair_0 rfl rfl ?_
  refine am_bd h (fun x1 hx h => ?_)
  refine am_callS (As := [.int a1]) (r := (some (.int x1.1))) (st := []) (σ' := am_D x1.2) hF hR d_X11_fair_1 (c_X_isHead (τ' := x1.2) hx) (Nat.le_refl _) (Nat.le_refl _) wl_X_112 ws_yX11_isHead wn_ShareHouse wc_yX11_isHead wy_yX11_isHead rfl ⟨by decide, by decide⟩ (Nat.le_of_ble_eq_true rfl) ?_
  refine am_ite h (fun hc h => ?_) (fun hc h => ?_)
  · refine am_if_eq_t (t := 21) d_X11_fair_4 (by decide) hc hF ?_
    refine am_seg s_X_fair_1 (y := (22, [(0, .ref 0), (1, .int a1)], [.int (-1 : Int32)], am_D x1.2)) hF t_s_X_fair_1 rfl rfl ?_
    obtain ⟨rfl, rfl⟩ := am_pair h
    exact am_iret d_X11_fair_22 hF hB
  · refine am_if_eq_f (t := 21) d_X11_fair_4 (by decide) hc hF ?_
    refine am_seg s_X_fair_2 (y := (15, [(0, .ref 0), (1, .int a1)], [.int a1, .ref 41], am_D x1.2)) hF t_s_X_fair_2 rfl rfl ?_
    refine am_bd h (fun x2 hx h => ?_)
    refine am_callV (As := [.int a1]) (r := (some (.int x2.1))) (st := []) (σ' := am_D x2.2) (ci := 10) hF hR d_X11_fair_15 (c_Wo_fairOf (τ' := x2.2) hx) (Nat.le_refl _) (Nat.le_refl _) wl_X_275 wi_yX10_fairOf we_yX10_fairOf wn_ShareHouse_Works wc_yX10_fairOf (Nat.le_of_ble_eq_true rfl) (Nat.le_of_ble_eq_true rfl) rfl rfl wy_yX10_fairOf rfl ⟨by decide, by decide⟩ (Nat.le_of_ble_eq_true rfl) ?_
    refine am_seg s_X_fair_3 (y := (22, [(0, .ref 0), (1, .int a1)], [.int x2.1], am_D x2.2)) hF t_s_X_fair_3 rfl rfl ?_
    obtain ⟨rfl, rfl⟩ := am_pair h
    exact am_iret d_X11_fair_22 hF hB
theorem c_X_fair {a1 : Int32} {v : Int32} {τ τ' : am_T} (h : X_fair τ a1 = some (v, τ')) : am_C yX11_fair cX11_fair 2 (some .int) 2 48 [.ref 0, .int a1] (am_D τ) (some (.int v)) (am_D τ') :=
  am_enter (by decide +kernel) (Nat.le_of_ble_eq_true rfl) ⟨Nat.le_refl _, Nat.le_refl _⟩ (fun X hF hR hB => ok_X_fair hF hR hB h)
def s_X_cut_0 : List am_Q := [(0, .aload_n 0, 0, 0, 0, .null), (1, .getfield 10, 11, 0, 145, .null), (4, .getfield 157, 3, 4, 101, .null), (7, .iload_n 1, 0, 0, 0, .null)]
theorem t_s_X_cut_0 : s_X_cut_0.all (am_ok 11 cX11_cut) = true := by decide +kernel
theorem d_X11_cut_8 : decode cX11_cut 8 = .ok (.invokevirtual 166, 3) := by decide +kernel
theorem d_X11_cut_11 : decode cX11_cut 11 = .ok (.ifCond .ne 5, 3) := by decide +kernel
def s_X_cut_1 : List am_Q := [(16, .aload_n 0, 0, 0, 0, .null), (17, .getfield 10, 11, 0, 145, .null), (20, .iload_n 1, 0, 0, 0, .null)]
theorem t_s_X_cut_1 : s_X_cut_1.all (am_ok 11 cX11_cut) = true := by decide +kernel
theorem d_X11_cut_21 : decode cX11_cut 21 = .ok (.invokevirtual 191, 3) := by decide +kernel
def s_X_cut_2 : List am_Q := [(24, .istore_n 2, 0, 0, 0, .null), (25, .aload_n 0, 0, 0, 0, .null), (26, .getfield 10, 11, 0, 145, .null), (29, .getfield 249, 3, 6, 106, .null), (32, .aload_n 0, 0, 0, 0, .null), (33, .getfield 10, 11, 0, 145, .null), (36, .getfield 157, 3, 4, 101, .null), (39, .getfield 173, 1, 0, 21, .null), (42, .iload_n 1, 0, 0, 0, .null)]
theorem t_s_X_cut_2 : s_X_cut_2.all (am_ok 11 cX11_cut) = true := by decide +kernel
theorem d_X11_cut_43 : decode cX11_cut 43 = .ok (.iaload, 1) := by decide +kernel
theorem d_X11_cut_44 : decode cX11_cut 44 = .ok (.invokevirtual 275, 3) := by decide +kernel
def s_X_cut_3 : List am_Q := [(47, .istore_n 3, 0, 0, 0, .null), (48, .iload_n 2, 0, 0, 0, .null)]
theorem t_s_X_cut_3 : s_X_cut_3.all (am_ok 11 cX11_cut) = true := by decide +kernel
theorem d_X11_cut_49 : decode cX11_cut 49 = .ok (.ifCond .lt 7, 3) := by decide +kernel
def s_X_cut_4 : List am_Q := [(56, .bipush (-3), 0, 0, 0, .int (-3 : Int32))]
theorem t_s_X_cut_4 : s_X_cut_4.all (am_ok 11 cX11_cut) = true := by decide +kernel
theorem d_X11_cut_58 : decode cX11_cut 58 = .ok (.ireturn, 1) := by decide +kernel
def s_X_cut_5 : List am_Q := [(52, .iload_n 3, 0, 0, 0, .null)]
theorem t_s_X_cut_5 : s_X_cut_5.all (am_ok 11 cX11_cut) = true := by decide +kernel
theorem d_X11_cut_53 : decode cX11_cut 53 = .ok (.ifCond .ge 6, 3) := by decide +kernel
def s_X_cut_6 : List am_Q := [(59, .iload_n 2, 0, 0, 0, .null), (60, .iload_n 3, 0, 0, 0, .null)]
theorem t_s_X_cut_6 : s_X_cut_6.all (am_ok 11 cX11_cut) = true := by decide +kernel
theorem d_X11_cut_61 : decode cX11_cut 61 = .ok (.if_icmp .gt 6, 3) := by decide +kernel
def s_X_cut_7 : List am_Q := [(67, .iload_n 3, 0, 0, 0, .null), (68, .aload_n 0, 0, 0, 0, .null), (69, .getfield 10, 11, 0, 145, .null), (72, .getfield 51, 3, 3, 95, .null)]
theorem t_s_X_cut_7 : s_X_cut_7.all (am_ok 11 cX11_cut) = true := by decide +kernel
theorem d_X11_cut_75 : decode cX11_cut 75 = .ok (.invokevirtual 278, 3) := by decide +kernel
def s_X_cut_8 : List am_Q := [(78, .imul, 0, 0, 0, .null), (79, .bipush 100, 0, 0, 0, .int (nI 100))]
theorem t_s_X_cut_8 : s_X_cut_8.all (am_ok 11 cX11_cut) = true := by decide +kernel
theorem d_X11_cut_81 : decode cX11_cut 81 = .ok (.idiv, 1) := by decide +kernel
def s_X_cut_9 : List am_Q := [(82, .istore 4, 0, 0, 0, .null), (84, .aload_n 0, 0, 0, 0, .null), (85, .getfield 10, 11, 0, 145, .null), (88, .iload_n 1, 0, 0, 0, .null), (89, .iload 4, 0, 0, 0, .null)]
theorem t_s_X_cut_9 : s_X_cut_9.all (am_ok 11 cX11_cut) = true := by decide +kernel
theorem d_X11_cut_91 : decode cX11_cut 91 = .ok (.invokevirtual 170, 3) := by decide +kernel
def s_X_cut_10 : List am_Q := [(94, .istore 5, 0, 0, 0, .null), (96, .iload 5, 0, 0, 0, .null)]
theorem t_s_X_cut_10 : s_X_cut_10.all (am_ok 11 cX11_cut) = true := by decide +kernel
theorem d_X11_cut_98 : decode cX11_cut 98 = .ok (.ifCond .ge 8, 3) := by decide +kernel
def s_X_cut_11 : List am_Q := [(106, .iload 4, 0, 0, 0, .null)]
theorem t_s_X_cut_11 : s_X_cut_11.all (am_ok 11 cX11_cut) = true := by decide +kernel
theorem d_X11_cut_108 : decode cX11_cut 108 = .ok (.ireturn, 1) := by decide +kernel
def s_X_cut_12 : List am_Q := [(101, .iload 5, 0, 0, 0, .null), (103, .goto 5, 108, 0, 0, .null)]
theorem t_s_X_cut_12 : s_X_cut_12.all (am_ok 11 cX11_cut) = true := by decide +kernel
def s_X_cut_13 : List am_Q := [(64, .bipush (-4), 0, 0, 0, .int (-4 : Int32))]
theorem t_s_X_cut_13 : s_X_cut_13.all (am_ok 11 cX11_cut) = true := by decide +kernel
theorem d_X11_cut_66 : decode cX11_cut 66 = .ok (.ireturn, 1) := by decide +kernel
def s_X_cut_14 : List am_Q := [(56, .bipush (-3), 0, 0, 0, .int (-3 : Int32))]
theorem t_s_X_cut_14 : s_X_cut_14.all (am_ok 11 cX11_cut) = true := by decide +kernel
def s_X_cut_15 : List am_Q := [(14, .iconst (-1), 0, 0, 0, .int (-1 : Int32))]
theorem t_s_X_cut_15 : s_X_cut_15.all (am_ok 11 cX11_cut) = true := by decide +kernel
theorem d_X11_cut_15 : decode cX11_cut 15 = .ok (.ireturn, 1) := by decide +kernel
def X_cut (τ : am_T) (a1 : Int32) : Option (Int32 × am_T) :=
  (Co_has τ a1).bind (fun x1 =>
  if x1.1 = 0 then
  (some ((-1 : Int32), x1.2))
else
  ((Ho_levelOf x1.2 a1).bind (fun x2 =>
  am_g (am_in a1 20) ((Wo_fairOf x2.2 (x2.2.1 26 (a1.toNatClampNeg))).bind (fun x3 =>
  if x2.1 < 0 then
  (some ((-3 : Int32), x3.2))
else
  (if 0 ≤ x3.1 then
  (if x3.1 < x2.1 then
  ((Fl_allAreas x3.2).bind (fun x4 =>
  (Ho_putRight x4.2 a1 ((x3.1 * x4.1) / (nI 100))).bind (fun x5 =>
  if 0 ≤ x5.1 then
  (some (((x3.1 * x4.1) / (nI 100)), x5.2))
else
  (some (x5.1, x5.2)))))
else
  (some ((-4 : Int32), x3.2)))
else
  (some ((-3 : Int32), x3.2))))))))
set_option maxRecDepth 20000 in
theorem ok_X_cut {X : am_X} {a1 : Int32} {v : Int32} {τ τ' : am_T} (hF : am_F X "ShareHouse" cX11_cut 6) (hR : am_R X 2 48) (hB : am_B X (some .int) (some (.int v)) (am_D τ')) (h : X_cut τ a1 = some (v, τ')) : am_W X 6 (0, [(0, .ref 0), (1, .int a1)], [], am_D τ) := by
  unfold X_cut at h
  refine am_seg s_X_cut_0 (y := (8, [(0, .ref 0), (1, .int a1)], [.int a1, .ref 25], am_D τ)) hF t_s_X_cut_0 rfl rfl ?_
  refine am_bd h (fun x1 hx h => ?_)
  refine am_callV (As := [.int a1]) (r := (some (.int x1.1))) (st := []) (σ' := am_D x1.2) (ci := 1) hF hR d_X11_cut_8 (c_Co_has (τ' := x1.2) hx) (Nat.le_refl _) (Nat.le_refl _) wl_X_166 wi_yX1_has we_yX1_has wn_ShareHouse_Costs wc_yX1_has (Nat.le_of_ble_eq_true rfl) (Nat.le_of_ble_eq_true rfl) rfl rfl wy_yX1_has rfl ⟨by decide, by decide⟩ (Nat.le_of_ble_eq_true rfl) ?_
  refine am_ite h (fun hc h => ?_) (fun hc h => ?_)
  · refine am_if_ne_f (t := 16) d_X11_cut_11 (by decide) hc hF ?_
    refine am_seg s_X_cut_15 (y := (15, [(0, .ref 0), (1, .int a1)], [.int (-1 : Int32)], am_D x1.2)) hF t_s_X_cut_15 rfl rfl ?_
    obtain ⟨rfl, rfl⟩ := am_pair h
    exact am_iret d_X11_cut_15 hF hB
  · refine am_if_ne_t (t := 16) d_X11_cut_11 (by decide) hc hF ?_
    refine am_seg s_X_cut_1 (y := (21, [(0, .ref 0), (1, .int a1)], [.int a1, .ref 1], am_D x1.2)) hF t_s_X_cut_1 rfl rfl ?_
    refine am_bd h (fun x2 hx h => ?_)
    refine am_callV (As := [.int a1]) (r := (some (.int x2.1))) (st := []) (σ' := am_D x2.2) (ci := 3) hF hR d_X11_cut_21 (c_Ho_levelOf (τ' := x2.2) hx) (Nat.le_refl _) (Nat.le_refl _) wl_X_191 wi_yX3_levelOf we_yX3_levelOf wn_ShareHouse_House wc_yX3_levelOf (Nat.le_of_ble_eq_true rfl) (Nat.le_of_ble_eq_true rfl) rfl rfl wy_yX3_levelOf rfl ⟨by decide, by decide⟩ (Nat.le_of_ble_eq_true rfl) ?_
    refine am_seg s_X_cut_2 (y := (43, [(2, .int x2.1), (0, .ref 0), (1, .int a1)], [.int a1, .ref 26, .ref 41], am_D x2.2)) hF t_s_X_cut_2 rfl rfl ?_
    refine am_gd h (fun hi h => ?_)
    refine am_iald (n := 20) (j := (a1.toNatClampNeg)) d_X11_cut_43 (Nat.le_of_ble_eq_true rfl) (Nat.le_of_ble_eq_true rfl) rfl hi rfl hF ?_
    refine am_bd h (fun x3 hx h => ?_)
    refine am_callV (As := [.int (x2.2.1 26 (a1.toNatClampNeg))]) (r := (some (.int x3.1))) (st := []) (σ' := am_D x3.2) (ci := 10) hF hR d_X11_cut_44 (c_Wo_fairOf (τ' := x3.2) hx) (Nat.le_refl _) (Nat.le_refl _) wl_X_275 wi_yX10_fairOf we_yX10_fairOf wn_ShareHouse_Works wc_yX10_fairOf (Nat.le_of_ble_eq_true rfl) (Nat.le_of_ble_eq_true rfl) rfl rfl wy_yX10_fairOf rfl ⟨by decide, by decide⟩ (Nat.le_of_ble_eq_true rfl) ?_
    refine am_seg s_X_cut_3 (y := (49, [(3, .int x3.1), (2, .int x2.1), (0, .ref 0), (1, .int a1)], [.int x2.1], am_D x3.2)) hF t_s_X_cut_3 rfl rfl ?_
    refine am_ite h (fun hc h => ?_) (fun hc h => ?_)
    · refine am_if_lt_t (t := 56) d_X11_cut_49 (by decide) hc hF ?_
      refine am_seg s_X_cut_4 (y := (58, [(3, .int x3.1), (2, .int x2.1), (0, .ref 0), (1, .int a1)], [.int (-3 : Int32)], am_D x3.2)) hF t_s_X_cut_4 rfl rfl ?_
      obtain ⟨rfl, rfl⟩ := am_pair h
      exact am_iret d_X11_cut_58 hF hB
    · refine am_if_lt_f (t := 56) d_X11_cut_49 (by decide) hc hF ?_
      refine am_seg s_X_cut_5 (y := (53, [(3, .int x3.1), (2, .int x2.1), (0, .ref 0), (1, .int a1)], [.int x3.1], am_D x3.2)) hF t_s_X_cut_5 rfl rfl ?_
      refine am_ite h (fun hc h => ?_) (fun hc h => ?_)
      · refine am_if_ge_t (t := 59) d_X11_cut_53 (by decide) hc hF ?_
        refine am_seg s_X_cut_6 (y := (61, [(3, .int x3.1), (2, .int x2.1), (0, .ref 0), (1, .int a1)], [.int x3.1, .int x2.1], am_D x3.2)) hF t_s_X_cut_6 rfl rfl ?_
        refine am_ite h (fun hc h => ?_) (fun hc h => ?_)
        · refine am_icmp_gt_t (t := 67) d_X11_cut_61 (by decide) hc hF ?_
          refine am_seg s_X_cut_7 (y := (75, [(3, .int x3.1), (2, .int x2.1), (0, .ref 0), (1, .int a1)], [.ref 4, .int x3.1], am_D x3.2)) hF t_s_X_cut_7 rfl rfl ?_
          refine am_bd h (fun x4 hx h => ?_)
          refine am_callV (As := []) (r := (some (.int x4.1))) (st := [.int x3.1]) (σ' := am_D x4.2) (ci := 2) hF hR d_X11_cut_75 (c_Fl_allAreas (τ' := x4.2) hx) (Nat.le_refl _) (Nat.le_refl _) wl_X_278 wi_yX2_allAreas we_yX2_allAreas wn_ShareHouse_Flats wc_yX2_allAreas (Nat.le_of_ble_eq_true rfl) (Nat.le_of_ble_eq_true rfl) rfl rfl wy_yX2_allAreas rfl ⟨by decide, by decide⟩ (Nat.le_of_ble_eq_true rfl) ?_
          refine am_seg s_X_cut_8 (y := (81, [(3, .int x3.1), (2, .int x2.1), (0, .ref 0), (1, .int a1)], [.int (nI 100), .int (x3.1 * x4.1)], am_D x4.2)) hF t_s_X_cut_8 rfl rfl ?_
          refine am_idiv d_X11_cut_81 (by decide) hF ?_
          refine am_seg s_X_cut_9 (y := (91, [(4, .int ((x3.1 * x4.1) / (nI 100))), (3, .int x3.1), (2, .int x2.1), (0, .ref 0), (1, .int a1)], [.int ((x3.1 * x4.1) / (nI 100)), .int a1, .ref 1], am_D x4.2)) hF t_s_X_cut_9 rfl rfl ?_
          refine am_bd h (fun x5 hx h => ?_)
          refine am_callV (As := [.int a1, .int ((x3.1 * x4.1) / (nI 100))]) (r := (some (.int x5.1))) (st := []) (σ' := am_D x5.2) (ci := 3) hF hR d_X11_cut_91 (c_Ho_putRight (τ' := x5.2) hx) (Nat.le_refl _) (Nat.le_refl _) wl_X_170 wi_yX3_putRight we_yX3_putRight wn_ShareHouse_House wc_yX3_putRight (Nat.le_of_ble_eq_true rfl) (Nat.le_of_ble_eq_true rfl) rfl rfl wy_yX3_putRight rfl ⟨by decide, by decide⟩ (Nat.le_of_ble_eq_true rfl) ?_
          refine am_seg s_X_cut_10 (y := (98, [(5, .int x5.1), (4, .int ((x3.1 * x4.1) / (nI 100))), (3, .int x3.1), (2, .int x2.1), (0, .ref 0), (1, .int a1)], [.int x5.1], am_D x5.2)) hF t_s_X_cut_10 rfl rfl ?_
          refine am_ite h (fun hc h => ?_) (fun hc h => ?_)
          · refine am_if_ge_t (t := 106) d_X11_cut_98 (by decide) hc hF ?_
            refine am_seg s_X_cut_11 (y := (108, [(5, .int x5.1), (4, .int ((x3.1 * x4.1) / (nI 100))), (3, .int x3.1), (2, .int x2.1), (0, .ref 0), (1, .int a1)], [.int ((x3.1 * x4.1) / (nI 100))], am_D x5.2)) hF t_s_X_cut_11 rfl rfl ?_
            obtain ⟨rfl, rfl⟩ := am_pair h
            exact am_iret d_X11_cut_108 hF hB
          · refine am_if_ge_f (t := 106) d_X11_cut_98 (by decide) hc hF ?_
            refine am_seg s_X_cut_12 (y := (108, [(5, .int x5.1), (4, .int ((x3.1 * x4.1) / (nI 100))), (3, .int x3.1), (2, .int x2.1), (0, .ref 0), (1, .int a1)], [.int x5.1], am_D x5.2)) hF t_s_X_cut_12 rfl rfl ?_
            obtain ⟨rfl, rfl⟩ := am_pair h
            exact am_iret d_X11_cut_108 hF hB
        · refine am_icmp_gt_f (t := 67) d_X11_cut_61 (by decide) hc hF ?_
          refine am_seg s_X_cut_13 (y := (66, [(3, .int x3.1), (2, .int x2.1), (0, .ref 0), (1, .int a1)], [.int (-4 : Int32)], am_D x3.2)) hF t_s_X_cut_13 rfl rfl ?_
          obtain ⟨rfl, rfl⟩ := am_pair h
          exact am_iret d_X11_cut_66 hF hB
      · refine am_if_ge_f (t := 59) d_X11_cut_53 (by decide) hc hF ?_
        refine am_seg s_X_cut_14 (y := (58, [(3, .int x3.1), (2, .int x2.1), (0, .ref 0), (1, .int a1)], [.int (-3 : Int32)], am_D x3.2)) hF t_s_X_cut_14 rfl rfl ?_
        obtain ⟨rfl, rfl⟩ := am_pair h
        exact am_iret d_X11_cut_58 hF hB
theorem c_X_cut {a1 : Int32} {v : Int32} {τ τ' : am_T} (h : X_cut τ a1 = some (v, τ')) : am_C yX11_cut cX11_cut 6 (some .int) 2 48 [.ref 0, .int a1] (am_D τ) (some (.int v)) (am_D τ') :=
  am_enter (by decide +kernel) (Nat.le_of_ble_eq_true rfl) ⟨Nat.le_refl _, Nat.le_refl _⟩ (fun X hF hR hB => ok_X_cut hF hR hB h)
def s_Re_add_0 : List am_Q := [(0, .aload_n 0, 0, 0, 0, .null), (1, .getfield 28, 8, 3, 74, .null), (4, .bipush 7, 0, 0, 0, .int (nI 7))]
theorem t_s_Re_add_0 : s_Re_add_0.all (am_ok 8 cX8_add) = true := by decide +kernel
theorem d_X8_add_6 : decode cX8_add 6 = .ok (.if_icmp .lt 6, 3) := by decide +kernel
def s_Re_add_1 : List am_Q := [(12, .aload_n 0, 0, 0, 0, .null), (13, .getfield 9, 8, 0, 71, .null), (16, .aload_n 0, 0, 0, 0, .null), (17, .getfield 28, 8, 3, 74, .null), (20, .iload_n 1, 0, 0, 0, .null)]
theorem t_s_Re_add_1 : s_Re_add_1.all (am_ok 8 cX8_add) = true := by decide +kernel
theorem d_X8_add_21 : decode cX8_add 21 = .ok (.iastore, 1) := by decide +kernel
def s_Re_add_2 : List am_Q := [(22, .aload_n 0, 0, 0, 0, .null), (23, .getfield 15, 8, 1, 72, .null), (26, .aload_n 0, 0, 0, 0, .null), (27, .getfield 28, 8, 3, 74, .null), (30, .iload_n 2, 0, 0, 0, .null)]
theorem t_s_Re_add_2 : s_Re_add_2.all (am_ok 8 cX8_add) = true := by decide +kernel
theorem d_X8_add_31 : decode cX8_add 31 = .ok (.iastore, 1) := by decide +kernel
def s_Re_add_3 : List am_Q := [(32, .aload_n 0, 0, 0, 0, .null), (33, .getfield 18, 8, 2, 73, .null), (36, .aload_n 0, 0, 0, 0, .null), (37, .getfield 28, 8, 3, 74, .null), (40, .iload_n 3, 0, 0, 0, .null)]
theorem t_s_Re_add_3 : s_Re_add_3.all (am_ok 8 cX8_add) = true := by decide +kernel
theorem d_X8_add_41 : decode cX8_add 41 = .ok (.iastore, 1) := by decide +kernel
def s_Re_add_4 : List am_Q := [(42, .aload_n 0, 0, 0, 0, .null), (43, .dup, 0, 0, 0, .null), (44, .getfield 28, 8, 3, 74, .null), (47, .iconst 1, 0, 0, 0, .int (nI 1)), (48, .iadd, 0, 0, 0, .null), (49, .putfield 28, 8, 3, 74, .null), (52, .aload_n 0, 0, 0, 0, .null), (53, .getfield 28, 8, 3, 74, .null), (56, .iconst 1, 0, 0, 0, .int (nI 1)), (57, .isub, 0, 0, 0, .null)]
theorem t_s_Re_add_4 : s_Re_add_4.all (am_ok 8 cX8_add) = true := by decide +kernel
theorem d_X8_add_58 : decode cX8_add 58 = .ok (.ireturn, 1) := by decide +kernel
def s_Re_add_5 : List am_Q := [(9, .bipush (-2), 0, 0, 0, .int (-2 : Int32))]
theorem t_s_Re_add_5 : s_Re_add_5.all (am_ok 8 cX8_add) = true := by decide +kernel
theorem d_X8_add_11 : decode cX8_add 11 = .ok (.ireturn, 1) := by decide +kernel
def Re_add (τ : am_T) (a1 : Int32) (a2 : Int32) (a3 : Int32) : Option (Int32 × am_T) :=
  if (τ.1 52 3) < (nI 7) then
  (am_g (am_in (τ.1 52 3) 7) (am_g (am_in ((am_si τ 53 ((τ.1 52 3).toNatClampNeg) a1).1 52 3) 7) (am_g (am_in ((am_si (am_si τ 53 ((τ.1 52 3).toNatClampNeg) a1) 54 (((am_si τ 53 ((τ.1 52 3).toNatClampNeg) a1).1 52 3).toNatClampNeg) a2).1 52 3) 7) (some ((((am_si (am_si (am_si (am_si τ 53 ((τ.1 52 3).toNatClampNeg) a1) 54 (((am_si τ 53 ((τ.1 52 3).toNatClampNeg) a1).1 52 3).toNatClampNeg) a2) 55 (((am_si (am_si τ 53 ((τ.1 52 3).toNatClampNeg) a1) 54 (((am_si τ 53 ((τ.1 52 3).toNatClampNeg) a1).1 52 3).toNatClampNeg) a2).1 52 3).toNatClampNeg) a3) 52 3 (((am_si (am_si (am_si τ 53 ((τ.1 52 3).toNatClampNeg) a1) 54 (((am_si τ 53 ((τ.1 52 3).toNatClampNeg) a1).1 52 3).toNatClampNeg) a2) 55 (((am_si (am_si τ 53 ((τ.1 52 3).toNatClampNeg) a1) 54 (((am_si τ 53 ((τ.1 52 3).toNatClampNeg) a1).1 52 3).toNatClampNeg) a2).1 52 3).toNatClampNeg) a3).1 52 3) + (nI 1))).1 52 3) - (nI 1)), (am_si (am_si (am_si (am_si τ 53 ((τ.1 52 3).toNatClampNeg) a1) 54 (((am_si τ 53 ((τ.1 52 3).toNatClampNeg) a1).1 52 3).toNatClampNeg) a2) 55 (((am_si (am_si τ 53 ((τ.1 52 3).toNatClampNeg) a1) 54 (((am_si τ 53 ((τ.1 52 3).toNatClampNeg) a1).1 52 3).toNatClampNeg) a2).1 52 3).toNatClampNeg) a3) 52 3 (((am_si (am_si (am_si τ 53 ((τ.1 52 3).toNatClampNeg) a1) 54 (((am_si τ 53 ((τ.1 52 3).toNatClampNeg) a1).1 52 3).toNatClampNeg) a2) 55 (((am_si (am_si τ 53 ((τ.1 52 3).toNatClampNeg) a1) 54 (((am_si τ 53 ((τ.1 52 3).toNatClampNeg) a1).1 52 3).toNatClampNeg) a2).1 52 3).toNatClampNeg) a3).1 52 3) + (nI 1))))))))
else
  (some ((-2 : Int32), τ))
set_option maxRecDepth 20000 in
theorem ok_Re_add {X : am_X} {a1 : Int32} {a2 : Int32} {a3 : Int32} {v : Int32} {τ τ' : am_T} (hF : am_F X "ShareHouse$Reserve" cX8_add 4) (hR : am_R X 0 0) (hB : am_B X (some .int) (some (.int v)) (am_D τ')) (h : Re_add τ a1 a2 a3 = some (v, τ')) : am_W X 4 (0, [(0, .ref 52), (1, .int a1), (2, .int a2), (3, .int a3)], [], am_D τ) := by
  unfold Re_add at h
  refine am_seg s_Re_add_0 (y := (6, [(0, .ref 52), (1, .int a1), (2, .int a2), (3, .int a3)], [.int (nI 7), .int (τ.1 52 3)], am_D τ)) hF t_s_Re_add_0 rfl rfl ?_
  refine am_ite h (fun hc h => ?_) (fun hc h => ?_)
  · refine am_icmp_lt_t (t := 12) d_X8_add_6 (by decide) hc hF ?_
    refine am_seg s_Re_add_1 (y := (21, [(0, .ref 52), (1, .int a1), (2, .int a2), (3, .int a3)], [.int a1, .int (τ.1 52 3), .ref 53], am_D τ)) hF t_s_Re_add_1 rfl rfl ?_
    refine am_gd h (fun hi h => ?_)
    refine am_iast (n := 7) (j := ((τ.1 52 3).toNatClampNeg)) d_X8_add_21 (Nat.le_of_ble_eq_true rfl) (Nat.le_of_ble_eq_true rfl) rfl hi rfl hF ?_
    refine am_seg s_Re_add_2 (y := (31, [(0, .ref 52), (1, .int a1), (2, .int a2), (3, .int a3)], [.int a2, .int ((am_si τ 53 ((τ.1 52 3).toNatClampNeg) a1).1 52 3), .ref 54], am_D (am_si τ 53 ((τ.1 52 3).toNatClampNeg) a1))) hF t_s_Re_add_2 rfl rfl ?_
    refine am_gd h (fun hi h => ?_)
    refine am_iast (n := 7) (j := (((am_si τ 53 ((τ.1 52 3).toNatClampNeg) a1).1 52 3).toNatClampNeg)) d_X8_add_31 (Nat.le_of_ble_eq_true rfl) (Nat.le_of_ble_eq_true rfl) rfl hi rfl hF ?_
    refine am_seg s_Re_add_3 (y := (41, [(0, .ref 52), (1, .int a1), (2, .int a2), (3, .int a3)], [.int a3, .int ((am_si (am_si τ 53 ((τ.1 52 3).toNatClampNeg) a1) 54 (((am_si τ 53 ((τ.1 52 3).toNatClampNeg) a1).1 52 3).toNatClampNeg) a2).1 52 3), .ref 55], am_D (am_si (am_si τ 53 ((τ.1 52 3).toNatClampNeg) a1) 54 (((am_si τ 53 ((τ.1 52 3).toNatClampNeg) a1).1 52 3).toNatClampNeg) a2))) hF t_s_Re_add_3 rfl rfl ?_
    refine am_gd h (fun hi h => ?_)
    refine am_iast (n := 7) (j := (((am_si (am_si τ 53 ((τ.1 52 3).toNatClampNeg) a1) 54 (((am_si τ 53 ((τ.1 52 3).toNatClampNeg) a1).1 52 3).toNatClampNeg) a2).1 52 3).toNatClampNeg)) d_X8_add_41 (Nat.le_of_ble_eq_true rfl) (Nat.le_of_ble_eq_true rfl) rfl hi rfl hF ?_
    refine am_seg s_Re_add_4 (y := (58, [(0, .ref 52), (1, .int a1), (2, .int a2), (3, .int a3)], [.int (((am_si (am_si (am_si (am_si τ 53 ((τ.1 52 3).toNatClampNeg) a1) 54 (((am_si τ 53 ((τ.1 52 3).toNatClampNeg) a1).1 52 3).toNatClampNeg) a2) 55 (((am_si (am_si τ 53 ((τ.1 52 3).toNatClampNeg) a1) 54 (((am_si τ 53 ((τ.1 52 3).toNatClampNeg) a1).1 52 3).toNatClampNeg) a2).1 52 3).toNatClampNeg) a3) 52 3 (((am_si (am_si (am_si τ 53 ((τ.1 52 3).toNatClampNeg) a1) 54 (((am_si τ 53 ((τ.1 52 3).toNatClampNeg) a1).1 52 3).toNatClampNeg) a2) 55 (((am_si (am_si τ 53 ((τ.1 52 3).toNatClampNeg) a1) 54 (((am_si τ 53 ((τ.1 52 3).toNatClampNeg) a1).1 52 3).toNatClampNeg) a2).1 52 3).toNatClampNeg) a3).1 52 3) + (nI 1))).1 52 3) - (nI 1))], am_D (am_si (am_si (am_si (am_si τ 53 ((τ.1 52 3).toNatClampNeg) a1) 54 (((am_si τ 53 ((τ.1 52 3).toNatClampNeg) a1).1 52 3).toNatClampNeg) a2) 55 (((am_si (am_si τ 53 ((τ.1 52 3).toNatClampNeg) a1) 54 (((am_si τ 53 ((τ.1 52 3).toNatClampNeg) a1).1 52 3).toNatClampNeg) a2).1 52 3).toNatClampNeg) a3) 52 3 (((am_si (am_si (am_si τ 53 ((τ.1 52 3).toNatClampNeg) a1) 54 (((am_si τ 53 ((τ.1 52 3).toNatClampNeg) a1).1 52 3).toNatClampNeg) a2) 55 (((am_si (am_si τ 53 ((τ.1 52 3).toNatClampNeg) a1) 54 (((am_si τ 53 ((τ.1 52 3).toNatClampNeg) a1).1 52 3).toNatClampNeg) a2).1 52 3).toNatClampNeg) a3).1 52 3) + (nI 1))))) hF t_s_Re_add_4 rfl rfl ?_
    obtain ⟨rfl, rfl⟩ := am_pair h
    exact am_iret d_X8_add_58 hF hB
  · refine am_icmp_lt_f (t := 12) d_X8_add_6 (by decide) hc hF ?_
    refine am_seg s_Re_add_5 (y := (11, [(0, .ref 52), (1, .int a1), (2, .int a2), (3, .int a3)], [.int (-2 : Int32)], am_D τ)) hF t_s_Re_add_5 rfl rfl ?_
    obtain ⟨rfl, rfl⟩ := am_pair h
    exact am_iret d_X8_add_11 hF hB
theorem c_Re_add {a1 : Int32} {a2 : Int32} {a3 : Int32} {v : Int32} {τ τ' : am_T} (h : Re_add τ a1 a2 a3 = some (v, τ')) : am_C yX8_add cX8_add 4 (some .int) 0 0 [.ref 52, .int a1, .int a2, .int a3] (am_D τ) (some (.int v)) (am_D τ') :=
  am_enter (by decide +kernel) (Nat.le_of_ble_eq_true rfl) ⟨Nat.le_refl _, Nat.le_refl _⟩ (fun X hF hR hB => ok_Re_add hF hR hB h)
def s_X_piece_0 : List am_Q := [(0, .iload_n 1, 0, 0, 0, .null), (1, .iconst 2, 0, 0, 0, .int (nI 2)), (2, .bipush 20, 0, 0, 0, .int (nI 20))]
theorem t_s_X_piece_0 : s_X_piece_0.all (am_ok 11 cX11_piece) = true := by decide +kernel
theorem d_X11_piece_4 : decode cX11_piece 4 = .ok (.invokestatic 47, 3) := by decide +kernel
theorem d_X11_piece_7 : decode cX11_piece 7 = .ok (.ifCond .eq 22, 3) := by decide +kernel
def s_X_piece_1 : List am_Q := [(29, .iconst (-1), 0, 0, 0, .int (-1 : Int32))]
theorem t_s_X_piece_1 : s_X_piece_1.all (am_ok 11 cX11_piece) = true := by decide +kernel
theorem d_X11_piece_30 : decode cX11_piece 30 = .ok (.ireturn, 1) := by decide +kernel
def s_X_piece_2 : List am_Q := [(10, .iload_n 2, 0, 0, 0, .null), (11, .iconst 1, 0, 0, 0, .int (nI 1)), (12, .ldc 156, 0, 0, 1, .int (nI 99999))]
theorem t_s_X_piece_2 : s_X_piece_2.all (am_ok 11 cX11_piece) = true := by decide +kernel
theorem d_X11_piece_14 : decode cX11_piece 14 = .ok (.invokestatic 47, 3) := by decide +kernel
theorem d_X11_piece_17 : decode cX11_piece 17 = .ok (.ifCond .eq 12, 3) := by decide +kernel
def s_X_piece_3 : List am_Q := [(29, .iconst (-1), 0, 0, 0, .int (-1 : Int32))]
theorem t_s_X_piece_3 : s_X_piece_3.all (am_ok 11 cX11_piece) = true := by decide +kernel
def s_X_piece_4 : List am_Q := [(20, .iload_n 3, 0, 0, 0, .null), (21, .iconst 0, 0, 0, 0, .int (nI 0)), (22, .iload_n 1, 0, 0, 0, .null)]
theorem t_s_X_piece_4 : s_X_piece_4.all (am_ok 11 cX11_piece) = true := by decide +kernel
theorem d_X11_piece_23 : decode cX11_piece 23 = .ok (.invokestatic 47, 3) := by decide +kernel
theorem d_X11_piece_26 : decode cX11_piece 26 = .ok (.ifCond .ne 5, 3) := by decide +kernel
def s_X_piece_5 : List am_Q := [(31, .aload_n 0, 0, 0, 0, .null), (32, .getfield 10, 11, 0, 145, .null), (35, .getfield 282, 3, 7, 108, .null), (38, .iload_n 1, 0, 0, 0, .null), (39, .iload_n 2, 0, 0, 0, .null), (40, .iload_n 3, 0, 0, 0, .null)]
theorem t_s_X_piece_5 : s_X_piece_5.all (am_ok 11 cX11_piece) = true := by decide +kernel
theorem d_X11_piece_41 : decode cX11_piece 41 = .ok (.invokevirtual 286, 3) := by decide +kernel
theorem d_X11_piece_44 : decode cX11_piece 44 = .ok (.ireturn, 1) := by decide +kernel
def s_X_piece_6 : List am_Q := [(29, .iconst (-1), 0, 0, 0, .int (-1 : Int32))]
theorem t_s_X_piece_6 : s_X_piece_6.all (am_ok 11 cX11_piece) = true := by decide +kernel
def X_piece (τ : am_T) (a1 : Int32) (a2 : Int32) (a3 : Int32) : Option (Int32 × am_T) :=
  (X_within τ a1 (nI 2) (nI 20)).bind (fun x1 =>
  if x1.1 = 0 then
  (some ((-1 : Int32), x1.2))
else
  ((X_within x1.2 a2 (nI 1) (nI 99999)).bind (fun x2 =>
  if x2.1 = 0 then
  (some ((-1 : Int32), x2.2))
else
  ((X_within x2.2 a3 (nI 0) a1).bind (fun x3 =>
  if x3.1 = 0 then
  (some ((-1 : Int32), x3.2))
else
  ((Re_add x3.2 a1 a2 a3).bind (fun x4 =>
  some (x4.1, x4.2))))))))
set_option maxRecDepth 20000 in
theorem ok_X_piece {X : am_X} {a1 : Int32} {a2 : Int32} {a3 : Int32} {v : Int32} {τ τ' : am_T} (hF : am_F X "ShareHouse" cX11_piece 4) (hR : am_R X 1 23) (hB : am_B X (some .int) (some (.int v)) (am_D τ')) (h : X_piece τ a1 a2 a3 = some (v, τ')) : am_W X 4 (0, [(0, .ref 0), (1, .int a1), (2, .int a2), (3, .int a3)], [], am_D τ) := by
  unfold X_piece at h
  refine am_seg s_X_piece_0 (y := (4, [(0, .ref 0), (1, .int a1), (2, .int a2), (3, .int a3)], [.int (nI 20), .int (nI 2), .int a1], am_D τ)) hF t_s_X_piece_0 rfl rfl ?_
  refine am_bd h (fun x1 hx h => ?_)
  refine am_callS (As := [.int a1, .int (nI 2), .int (nI 20)]) (r := (some (.int x1.1))) (st := []) (σ' := am_D x1.2) hF hR d_X11_piece_4 (c_X_within (τ' := x1.2) hx) (Nat.le_refl _) (Nat.le_refl _) wl_X_47 ws_yX11_within wn_ShareHouse wc_yX11_within wy_yX11_within rfl ⟨by decide, by decide⟩ (Nat.le_of_ble_eq_true rfl) ?_
  refine am_ite h (fun hc h => ?_) (fun hc h => ?_)
  · refine am_if_eq_t (t := 29) d_X11_piece_7 (by decide) hc hF ?_
    refine am_seg s_X_piece_1 (y := (30, [(0, .ref 0), (1, .int a1), (2, .int a2), (3, .int a3)], [.int (-1 : Int32)], am_D x1.2)) hF t_s_X_piece_1 rfl rfl ?_
    obtain ⟨rfl, rfl⟩ := am_pair h
    exact am_iret d_X11_piece_30 hF hB
  · refine am_if_eq_f (t := 29) d_X11_piece_7 (by decide) hc hF ?_
    refine am_seg s_X_piece_2 (y := (14, [(0, .ref 0), (1, .int a1), (2, .int a2), (3, .int a3)], [.int (nI 99999), .int (nI 1), .int a2], am_D x1.2)) hF t_s_X_piece_2 rfl rfl ?_
    refine am_bd h (fun x2 hx h => ?_)
    refine am_callS (As := [.int a2, .int (nI 1), .int (nI 99999)]) (r := (some (.int x2.1))) (st := []) (σ' := am_D x2.2) hF hR d_X11_piece_14 (c_X_within (τ' := x2.2) hx) (Nat.le_refl _) (Nat.le_refl _) wl_X_47 ws_yX11_within wn_ShareHouse wc_yX11_within wy_yX11_within rfl ⟨by decide, by decide⟩ (Nat.le_of_ble_eq_true rfl) ?_
    refine am_ite h (fun hc h => ?_) (fun hc h => ?_)
    · refine am_if_eq_t (t := 29) d_X11_piece_17 (by decide) hc hF ?_
      refine am_seg s_X_piece_3 (y := (30, [(0, .ref 0), (1, .int a1), (2, .int a2), (3, .int a3)], [.int (-1 : Int32)], am_D x2.2)) hF t_s_X_piece_3 rfl rfl ?_
      obtain ⟨rfl, rfl⟩ := am_pair h
      exact am_iret d_X11_piece_30 hF hB
    · refine am_if_eq_f (t := 29) d_X11_piece_17 (by decide) hc hF ?_
      refine am_seg s_X_piece_4 (y := (23, [(0, .ref 0), (1, .int a1), (2, .int a2), (3, .int a3)], [.int a1, .int (nI 0), .int a3], am_D x2.2)) hF t_s_X_piece_4 rfl rfl ?_
      refine am_bd h (fun x3 hx h => ?_)
      refine am_callS (As := [.int a3, .int (nI 0), .int a1]) (r := (some (.int x3.1))) (st := []) (σ' := am_D x3.2) hF hR d_X11_piece_23 (c_X_within (τ' := x3.2) hx) (Nat.le_refl _) (Nat.le_refl _) wl_X_47 ws_yX11_within wn_ShareHouse wc_yX11_within wy_yX11_within rfl ⟨by decide, by decide⟩ (Nat.le_of_ble_eq_true rfl) ?_
      refine am_ite h (fun hc h => ?_) (fun hc h => ?_)
      · refine am_if_ne_f (t := 31) d_X11_piece_26 (by decide) hc hF ?_
        refine am_seg s_X_piece_6 (y := (30, [(0, .ref 0), (1, .int a1), (2, .int a2), (3, .int a3)], [.int (-1 : Int32)], am_D x3.2)) hF t_s_X_piece_6 rfl rfl ?_
        obtain ⟨rfl, rfl⟩ := am_pair h
        exact am_iret d_X11_piece_30 hF hB
      · refine am_if_ne_t (t := 31) d_X11_piece_26 (by decide) hc hF ?_
        refine am_seg s_X_piece_5 (y := (41, [(0, .ref 0), (1, .int a1), (2, .int a2), (3, .int a3)], [.int a3, .int a2, .int a1, .ref 52], am_D x3.2)) hF t_s_X_piece_5 rfl rfl ?_
        refine am_bd h (fun x4 hx h => ?_)
        refine am_callV (As := [.int a1, .int a2, .int a3]) (r := (some (.int x4.1))) (st := []) (σ' := am_D x4.2) (ci := 8) hF hR d_X11_piece_41 (c_Re_add (τ' := x4.2) hx) (Nat.le_refl _) (Nat.le_refl _) wl_X_286 wi_yX8_add we_yX8_add wn_ShareHouse_Reserve wc_yX8_add (Nat.le_of_ble_eq_true rfl) (Nat.le_of_ble_eq_true rfl) rfl rfl wy_yX8_add rfl ⟨by decide, by decide⟩ (Nat.le_of_ble_eq_true rfl) ?_
        obtain ⟨rfl, rfl⟩ := am_pair h
        exact am_iret d_X11_piece_44 hF hB
theorem c_X_piece {a1 : Int32} {a2 : Int32} {a3 : Int32} {v : Int32} {τ τ' : am_T} (h : X_piece τ a1 a2 a3 = some (v, τ')) : am_C yX11_piece cX11_piece 4 (some .int) 1 23 [.ref 0, .int a1, .int a2, .int a3] (am_D τ) (some (.int v)) (am_D τ') :=
  am_enter (by decide +kernel) (Nat.le_of_ble_eq_true rfl) ⟨Nat.le_refl _, Nat.le_refl _⟩ (fun X hF hR hB => ok_X_piece hF hR hB h)
def s_Re_hasAll_0 : List am_Q := [(0, .iload_n 1, 0, 0, 0, .null), (1, .iconst 0, 0, 0, 0, .int (nI 0)), (2, .iconst 1, 0, 0, 0, .int (nI 1)), (3, .aload_n 0, 0, 0, 0, .null), (4, .getfield 28, 8, 3, 74, .null), (7, .ishl, 0, 0, 0, .null), (8, .iconst 1, 0, 0, 0, .int (nI 1)), (9, .isub, 0, 0, 0, .null)]
theorem t_s_Re_hasAll_0 : s_Re_hasAll_0.all (am_ok 8 cX8_hasAll) = true := by decide +kernel
theorem d_X8_hasAll_10 : decode cX8_hasAll 10 = .ok (.invokestatic 32, 3) := by decide +kernel
theorem d_X8_hasAll_13 : decode cX8_hasAll 13 = .ok (.ireturn, 1) := by decide +kernel
def Re_hasAll (τ : am_T) (a1 : Int32) : Option (Int32 × am_T) :=
  (X_within τ a1 (nI 0) (((nI 1) <<< ((τ.1 52 3) &&& 31)) - (nI 1))).bind (fun x1 =>
  am_g (am_z01 x1.1) (some (x1.1, x1.2)))
set_option maxRecDepth 20000 in
theorem ok_Re_hasAll {X : am_X} {a1 : Int32} {v : Int32} {τ τ' : am_T} (hF : am_F X "ShareHouse$Reserve" cX8_hasAll 2) (hR : am_R X 1 22) (hB : am_B X (some .boolean) (some (.int v)) (am_D τ')) (h : Re_hasAll τ a1 = some (v, τ')) : am_W X 2 (0, [(0, .ref 52), (1, .int a1)], [], am_D τ) := by
  unfold Re_hasAll at h
  refine am_seg s_Re_hasAll_0 (y := (10, [(0, .ref 52), (1, .int a1)], [.int (((nI 1) <<< ((τ.1 52 3) &&& 31)) - (nI 1)), .int (nI 0), .int a1], am_D τ)) hF t_s_Re_hasAll_0 rfl rfl ?_
  refine am_bd h (fun x1 hx h => ?_)
  refine am_callSN (As := [.int a1, .int (nI 0), .int (((nI 1) <<< ((τ.1 52 3) &&& 31)) - (nI 1))]) (r := (some (.int x1.1))) (st := []) (σ' := am_D x1.2) (host := "ShareHouse") hF hR d_X8_hasAll_10 (c_X_within (τ' := x1.2) hx) (Nat.le_refl _) (Nat.le_refl _) wk_Re_32 ws_yX11_within wn_ShareHouse wc_yX11_within wy_yX11_within rfl ⟨by decide, by decide⟩ (Nat.le_of_ble_eq_true rfl) ?_
  refine am_gd h (fun hz h => ?_)
  obtain ⟨rfl, rfl⟩ := am_pair h
  exact am_zret d_X8_hasAll_13 (am_z01_n hz) hF hB
theorem c_Re_hasAll {a1 : Int32} {v : Int32} {τ τ' : am_T} (h : Re_hasAll τ a1 = some (v, τ')) : am_C yX8_hasAll cX8_hasAll 2 (some .boolean) 1 22 [.ref 52, .int a1] (am_D τ) (some (.int v)) (am_D τ') :=
  am_enter (by decide +kernel) (Nat.le_of_ble_eq_true rfl) ⟨Nat.le_refl _, Nat.le_refl _⟩ (fun X hF hR hB => ok_Re_hasAll hF hR hB h)
def s_Ho_lack_0 : List am_Q := [(0, .aload_n 0, 0, 0, 0, .null), (1, .getfield 18, 3, 1, 87, .null), (4, .iconst 5, 0, 0, 0, .int (nI 5))]
theorem t_s_Ho_lack_0 : s_Ho_lack_0.all (am_ok 3 cX3_lack) = true := by decide +kernel
theorem d_X3_lack_5 : decode cX3_lack 5 = .ok (.iaload, 1) := by decide +kernel
def s_Ho_lack_1 : List am_Q := [(6, .aload_n 0, 0, 0, 0, .null), (7, .getfield 18, 3, 1, 87, .null), (10, .iconst 4, 0, 0, 0, .int (nI 4))]
theorem t_s_Ho_lack_1 : s_Ho_lack_1.all (am_ok 3 cX3_lack) = true := by decide +kernel
theorem d_X3_lack_11 : decode cX3_lack 11 = .ok (.iaload, 1) := by decide +kernel
def s_Ho_lack_2 : List am_Q := [(12, .isub, 0, 0, 0, .null)]
theorem t_s_Ho_lack_2 : s_Ho_lack_2.all (am_ok 3 cX3_lack) = true := by decide +kernel
theorem d_X3_lack_13 : decode cX3_lack 13 = .ok (.ireturn, 1) := by decide +kernel
def Ho_lack (τ : am_T) : Option (Int32 × am_T) :=
  some (((τ.1 2 5) - (τ.1 2 4)), τ)
set_option maxRecDepth 20000 in
theorem ok_Ho_lack {X : am_X} {v : Int32} {τ τ' : am_T} (hF : am_F X "ShareHouse$House" cX3_lack 1) (hR : am_R X 0 0) (hB : am_B X (some .int) (some (.int v)) (am_D τ')) (h : Ho_lack τ = some (v, τ')) : am_W X 1 (0, [(0, .ref 1)], [], am_D τ) := by
  unfold Ho_lack at h
  refine am_seg s_Ho_lack_0 (y := (5, [(0, .ref 1)], [.int (nI 5), .ref 2], am_D τ)) hF t_s_Ho_lack_0 rfl rfl ?_
  refine am_iald (n := 6) (j := 5) d_X3_lack_5 (Nat.le_of_ble_eq_true rfl) (Nat.le_of_ble_eq_true rfl) rfl (by decide) rfl hF ?_
  refine am_seg s_Ho_lack_1 (y := (11, [(0, .ref 1)], [.int (nI 4), .ref 2, .int (τ.1 2 5)], am_D τ)) hF t_s_Ho_lack_1 rfl rfl ?_
  refine am_iald (n := 6) (j := 4) d_X3_lack_11 (Nat.le_of_ble_eq_true rfl) (Nat.le_of_ble_eq_true rfl) rfl (by decide) rfl hF ?_
  refine am_seg s_Ho_lack_2 (y := (13, [(0, .ref 1)], [.int ((τ.1 2 5) - (τ.1 2 4))], am_D τ)) hF t_s_Ho_lack_2 rfl rfl ?_
  obtain ⟨rfl, rfl⟩ := am_pair h
  exact am_iret d_X3_lack_13 hF hB
theorem c_Ho_lack {v : Int32} {τ τ' : am_T} (h : Ho_lack τ = some (v, τ')) : am_C yX3_lack cX3_lack 1 (some .int) 0 0 [.ref 1] (am_D τ) (some (.int v)) (am_D τ') :=
  am_enter (by decide +kernel) (Nat.le_of_ble_eq_true rfl) ⟨Nat.le_refl _, Nat.le_refl _⟩ (fun X hF hR hB => ok_Ho_lack hF hR hB h)
def s_Re_leastPayFor_0 : List am_Q := [(0, .iconst 0, 0, 0, 0, .int (nI 0)), (1, .aload_n 0, 0, 0, 0, .null), (2, .getfield 21, 8, 4, 76, .null), (5, .iload_n 1, 0, 0, 0, .null)]
theorem t_s_Re_leastPayFor_0 : s_Re_leastPayFor_0.all (am_ok 8 cX8_leastPayFor) = true := by decide +kernel
theorem d_X8_leastPayFor_6 : decode cX8_leastPayFor 6 = .ok (.iaload, 1) := by decide +kernel
def s_Re_leastPayFor_1 : List am_Q := [(7, .iload_n 2, 0, 0, 0, .null), (8, .iadd, 0, 0, 0, .null)]
theorem t_s_Re_leastPayFor_1 : s_Re_leastPayFor_1.all (am_ok 8 cX8_leastPayFor) = true := by decide +kernel
theorem d_X8_leastPayFor_9 : decode cX8_leastPayFor 9 = .ok (.invokestatic 56, 3) := by decide +kernel
def s_Re_leastPayFor_2 : List am_Q := [(12, .istore_n 3, 0, 0, 0, .null), (13, .iload_n 3, 0, 0, 0, .null), (14, .iload_n 1, 0, 0, 0, .null), (15, .iadd, 0, 0, 0, .null), (16, .iload_n 1, 0, 0, 0, .null), (17, .iconst 1, 0, 0, 0, .int (nI 1)), (18, .iadd, 0, 0, 0, .null)]
theorem t_s_Re_leastPayFor_2 : s_Re_leastPayFor_2.all (am_ok 8 cX8_leastPayFor) = true := by decide +kernel
theorem d_X8_leastPayFor_19 : decode cX8_leastPayFor 19 = .ok (.idiv, 1) := by decide +kernel
theorem d_X8_leastPayFor_20 : decode cX8_leastPayFor 20 = .ok (.ireturn, 1) := by decide +kernel
def Re_leastPayFor (τ : am_T) (a1 : Int32) (a2 : Int32) : Option (Int32 × am_T) :=
  am_g (am_in a1 30) (if (a1 + (nI 1)) = 0 then none else
  some ((((if (nI 0) < ((τ.1 56 (a1.toNatClampNeg)) + a2) then ((τ.1 56 (a1.toNatClampNeg)) + a2) else (nI 0)) + a1) / (a1 + (nI 1))), τ))
set_option maxRecDepth 20000 in
theorem ok_Re_leastPayFor {X : am_X} {a1 : Int32} {a2 : Int32} {v : Int32} {τ τ' : am_T} (hF : am_F X "ShareHouse$Reserve" cX8_leastPayFor 4) (hR : am_R X 1 23) (hB : am_B X (some .int) (some (.int v)) (am_D τ')) (h : Re_leastPayFor τ a1 a2 = some (v, τ')) : am_W X 4 (0, [(0, .ref 52), (1, .int a1), (2, .int a2)], [], am_D τ) := by
  unfold Re_leastPayFor at h
  refine am_seg s_Re_leastPayFor_0 (y := (6, [(0, .ref 52), (1, .int a1), (2, .int a2)], [.int a1, .ref 56, .int (nI 0)], am_D τ)) hF t_s_Re_leastPayFor_0 rfl rfl ?_
  refine am_gd h (fun hi h => ?_)
  refine am_iald (n := 30) (j := (a1.toNatClampNeg)) d_X8_leastPayFor_6 (Nat.le_of_ble_eq_true rfl) (Nat.le_of_ble_eq_true rfl) rfl hi rfl hF ?_
  refine am_seg s_Re_leastPayFor_1 (y := (9, [(0, .ref 52), (1, .int a1), (2, .int a2)], [.int ((τ.1 56 (a1.toNatClampNeg)) + a2), .int (nI 0)], am_D τ)) hF t_s_Re_leastPayFor_1 rfl rfl ?_
  refine am_mmax d_X8_leastPayFor_9 wq_max_8_56 wq_max_s wq_math wq_max_c ⟨by decide, Nat.le_of_ble_eq_true rfl⟩ (Nat.le_refl _) hF hR ?_
  refine am_seg s_Re_leastPayFor_2 (y := (19, [(3, .int (if (nI 0) < ((τ.1 56 (a1.toNatClampNeg)) + a2) then ((τ.1 56 (a1.toNatClampNeg)) + a2) else (nI 0))), (0, .ref 52), (1, .int a1), (2, .int a2)], [.int (a1 + (nI 1)), .int ((if (nI 0) < ((τ.1 56 (a1.toNatClampNeg)) + a2) then ((τ.1 56 (a1.toNatClampNeg)) + a2) else (nI 0)) + a1)], am_D τ)) hF t_s_Re_leastPayFor_2 rfl rfl ?_
  refine am_ite h (fun _ h => by cases h) (fun hc h => ?_)
  refine am_idiv d_X8_leastPayFor_19 hc hF ?_
  obtain ⟨rfl, rfl⟩ := am_pair h
  exact am_iret d_X8_leastPayFor_20 hF hB
theorem c_Re_leastPayFor {a1 : Int32} {a2 : Int32} {v : Int32} {τ τ' : am_T} (h : Re_leastPayFor τ a1 a2 = some (v, τ')) : am_C yX8_leastPayFor cX8_leastPayFor 4 (some .int) 1 23 [.ref 52, .int a1, .int a2] (am_D τ) (some (.int v)) (am_D τ') :=
  am_enter (by decide +kernel) (Nat.le_of_ble_eq_true rfl) ⟨Nat.le_refl _, Nat.le_refl _⟩ (fun X hF hR hB => ok_Re_leastPayFor hF hR hB h)
def s_Re_addRenewals_0 : List am_Q := [(0, .iconst 1, 0, 0, 0, .int (nI 1)), (1, .aload_n 0, 0, 0, 0, .null), (2, .getfield 9, 8, 0, 71, .null), (5, .iload_n 1, 0, 0, 0, .null)]
theorem t_s_Re_addRenewals_0 : s_Re_addRenewals_0.all (am_ok 8 cX8_addRenewals) = true := by decide +kernel
theorem d_X8_addRenewals_6 : decode cX8_addRenewals 6 = .ok (.iaload, 1) := by decide +kernel
theorem d_X8_addRenewals_7 : decode cX8_addRenewals 7 = .ok (.invokestatic 56, 3) := by decide +kernel
def s_Re_addRenewals_1 : List am_Q := [(10, .istore_n 3, 0, 0, 0, .null), (11, .aload_n 0, 0, 0, 0, .null), (12, .getfield 18, 8, 2, 73, .null), (15, .iload_n 1, 0, 0, 0, .null)]
theorem t_s_Re_addRenewals_1 : s_Re_addRenewals_1.all (am_ok 8 cX8_addRenewals) = true := by decide +kernel
theorem d_X8_addRenewals_16 : decode cX8_addRenewals 16 = .ok (.iaload, 1) := by decide +kernel
def s_Re_addRenewals_2 : List am_Q := [(17, .istore 4, 0, 0, 0, .null)]
theorem t_s_Re_addRenewals_2 : s_Re_addRenewals_2.all (am_ok 8 cX8_addRenewals) = true := by decide +kernel
def s_Re_addRenewals_3 : List am_Q := [(19, .iload 4, 0, 0, 0, .null), (21, .bipush 30, 0, 0, 0, .int (nI 30))]
theorem t_s_Re_addRenewals_3 : s_Re_addRenewals_3.all (am_ok 8 cX8_addRenewals) = true := by decide +kernel
theorem d_X8_addRenewals_23 : decode cX8_addRenewals 23 = .ok (.if_icmp .gt 45, 3) := by decide +kernel
theorem d_X8_addRenewals_68 : decode cX8_addRenewals 68 = .ok (.return_, 1) := by decide +kernel
def s_Re_addRenewals_4 : List am_Q := [(26, .iconst 0, 0, 0, 0, .int (nI 0)), (27, .iload 4, 0, 0, 0, .null), (29, .iload_n 2, 0, 0, 0, .null), (30, .isub, 0, 0, 0, .null)]
theorem t_s_Re_addRenewals_4 : s_Re_addRenewals_4.all (am_ok 8 cX8_addRenewals) = true := by decide +kernel
theorem d_X8_addRenewals_31 : decode cX8_addRenewals 31 = .ok (.invokestatic 56, 3) := by decide +kernel
def s_Re_addRenewals_5 : List am_Q := [(34, .istore 5, 0, 0, 0, .null), (36, .iload 5, 0, 0, 0, .null), (38, .bipush 30, 0, 0, 0, .int (nI 30))]
theorem t_s_Re_addRenewals_5 : s_Re_addRenewals_5.all (am_ok 8 cX8_addRenewals) = true := by decide +kernel
theorem d_X8_addRenewals_40 : decode cX8_addRenewals 40 = .ok (.if_icmp .ge 19, 3) := by decide +kernel
def s_Re_addRenewals_6 : List am_Q := [(59, .iload 4, 0, 0, 0, .null), (61, .iload_n 3, 0, 0, 0, .null), (62, .iadd, 0, 0, 0, .null), (63, .istore 4, 0, 0, 0, .null), (65, .goto (-46), 19, 0, 0, .null)]
theorem t_s_Re_addRenewals_6 : s_Re_addRenewals_6.all (am_ok 8 cX8_addRenewals) = true := by decide +kernel
def s_Re_addRenewals_7 : List am_Q := [(43, .aload_n 0, 0, 0, 0, .null), (44, .getfield 21, 8, 4, 76, .null), (47, .iload 5, 0, 0, 0, .null), (49, .dup2, 0, 0, 0, .null)]
theorem t_s_Re_addRenewals_7 : s_Re_addRenewals_7.all (am_ok 8 cX8_addRenewals) = true := by decide +kernel
theorem d_X8_addRenewals_50 : decode cX8_addRenewals 50 = .ok (.iaload, 1) := by decide +kernel
def s_Re_addRenewals_8 : List am_Q := [(51, .aload_n 0, 0, 0, 0, .null), (52, .getfield 15, 8, 1, 72, .null), (55, .iload_n 1, 0, 0, 0, .null)]
theorem t_s_Re_addRenewals_8 : s_Re_addRenewals_8.all (am_ok 8 cX8_addRenewals) = true := by decide +kernel
theorem d_X8_addRenewals_56 : decode cX8_addRenewals 56 = .ok (.iaload, 1) := by decide +kernel
def s_Re_addRenewals_9 : List am_Q := [(57, .iadd, 0, 0, 0, .null)]
theorem t_s_Re_addRenewals_9 : s_Re_addRenewals_9.all (am_ok 8 cX8_addRenewals) = true := by decide +kernel
theorem d_X8_addRenewals_58 : decode cX8_addRenewals 58 = .ok (.iastore, 1) := by decide +kernel
def s_Re_addRenewals_10 : List am_Q := [(59, .iload 4, 0, 0, 0, .null), (61, .iload_n 3, 0, 0, 0, .null), (62, .iadd, 0, 0, 0, .null), (63, .istore 4, 0, 0, 0, .null), (65, .goto (-46), 19, 0, 0, .null)]
theorem t_s_Re_addRenewals_10 : s_Re_addRenewals_10.all (am_ok 8 cX8_addRenewals) = true := by decide +kernel
def Re_addRenewals_19 : Nat → am_T → Int32 → Int32 → Int32 → Int32 → Option (am_T)
  | 0, _, _, _, _, _ => none
  | n + 1, τ, a1, a2, a3, a4 =>
    if (nI 30) < a4 then
  (some τ)
else
  (if (nI 30) ≤ (if (nI 0) < (a4 - a2) then (a4 - a2) else (nI 0)) then
  ((Re_addRenewals_19 n) τ a1 a2 a3 (a4 + a3))
else
  (am_g (am_in (if (nI 0) < (a4 - a2) then (a4 - a2) else (nI 0)) 30) (am_g (am_in a1 7) (am_g (am_in (if (nI 0) < (a4 - a2) then (a4 - a2) else (nI 0)) 30) ((Re_addRenewals_19 n) (am_si τ 56 ((if (nI 0) < (a4 - a2) then (a4 - a2) else (nI 0)).toNatClampNeg) ((τ.1 56 ((if (nI 0) < (a4 - a2) then (a4 - a2) else (nI 0)).toNatClampNeg)) + (τ.1 54 (a1.toNatClampNeg)))) a1 a2 a3 (a4 + a3))))))
set_option maxRecDepth 20000 in
theorem ok_Re_addRenewals_19 {X : am_X} {τ' : am_T} (hF : am_F X "ShareHouse$Reserve" cX8_addRenewals 6) (hR : am_R X 1 23) (hB : am_B X none none (am_D τ')) : ∀ (n : Nat) (τ : am_T) (a1 : Int32) (a2 : Int32) (a3 : Int32) (a4 : Int32), Re_addRenewals_19 n τ a1 a2 a3 a4 = some τ' → am_W X 6 (19, [(0, .ref 52), (1, .int a1), (2, .int a2), (3, .int a3), (4, .int a4)], [], am_D τ) := by
  intro n
  induction n with
  | zero => intro τ a1 a2 a3 a4 h; unfold Re_addRenewals_19 at h; cases h
  | succ n ih =>
    intro τ a1 a2 a3 a4 h
    unfold Re_addRenewals_19 at h
    refine am_seg s_Re_addRenewals_3 (y := (23, [(0, .ref 52), (1, .int a1), (2, .int a2), (3, .int a3), (4, .int a4)], [.int (nI 30), .int a4], am_D τ)) hF t_s_Re_addRenewals_3 rfl rfl ?_
    refine am_ite h (fun hc h => ?_) (fun hc h => ?_)
    · refine am_icmp_gt_t (t := 68) d_X8_addRenewals_23 (by decide) hc hF ?_
      obtain rfl := am_one h
      exact am_vret d_X8_addRenewals_68 hF hB
    · refine am_icmp_gt_f (t := 68) d_X8_addRenewals_23 (by decide) hc hF ?_
      refine am_seg s_Re_addRenewals_4 (y := (31, [(0, .ref 52), (1, .int a1), (2, .int a2), (3, .int a3), (4, .int a4)], [.int (a4 - a2), .int (nI 0)], am_D τ)) hF t_s_Re_addRenewals_4 rfl rfl ?_
      refine am_mmax d_X8_addRenewals_31 wq_max_8_56 wq_max_s wq_math wq_max_c ⟨by decide, Nat.le_of_ble_eq_true rfl⟩ (Nat.le_refl _) hF hR ?_
      refine am_seg s_Re_addRenewals_5 (y := (40, [(5, .int (if (nI 0) < (a4 - a2) then (a4 - a2) else (nI 0))), (0, .ref 52), (1, .int a1), (2, .int a2), (3, .int a3), (4, .int a4)], [.int (nI 30), .int (if (nI 0) < (a4 - a2) then (a4 - a2) else (nI 0))], am_D τ)) hF t_s_Re_addRenewals_5 rfl rfl ?_
      refine am_ite h (fun hc h => ?_) (fun hc h => ?_)
      · refine am_icmp_ge_t (t := 59) d_X8_addRenewals_40 (by decide) hc hF ?_
        refine am_seg s_Re_addRenewals_6 (y := (19, [(4, .int (a4 + a3)), (5, .int (if (nI 0) < (a4 - a2) then (a4 - a2) else (nI 0))), (0, .ref 52), (1, .int a1), (2, .int a2), (3, .int a3)], [], am_D τ)) hF t_s_Re_addRenewals_6 rfl rfl ?_
        refine am_pick [2, 3, 4, 5, 0] rfl ?_
        exact ih _ _ _ _ _ h
      · refine am_icmp_ge_f (t := 59) d_X8_addRenewals_40 (by decide) hc hF ?_
        refine am_seg s_Re_addRenewals_7 (y := (50, [(5, .int (if (nI 0) < (a4 - a2) then (a4 - a2) else (nI 0))), (0, .ref 52), (1, .int a1), (2, .int a2), (3, .int a3), (4, .int a4)], [.int (if (nI 0) < (a4 - a2) then (a4 - a2) else (nI 0)), .ref 56, .int (if (nI 0) < (a4 - a2) then (a4 - a2) else (nI 0)), .ref 56], am_D τ)) hF t_s_Re_addRenewals_7 rfl rfl ?_
        refine am_gd h (fun hi h => ?_)
        refine am_iald (n := 30) (j := ((if (nI 0) < (a4 - a2) then (a4 - a2) else (nI 0)).toNatClampNeg)) d_X8_addRenewals_50 (Nat.le_of_ble_eq_true rfl) (Nat.le_of_ble_eq_true rfl) rfl hi rfl hF ?_
        refine am_seg s_Re_addRenewals_8 (y := (56, [(5, .int (if (nI 0) < (a4 - a2) then (a4 - a2) else (nI 0))), (0, .ref 52), (1, .int a1), (2, .int a2), (3, .int a3), (4, .int a4)], [.int a1, .ref 54, .int (τ.1 56 ((if (nI 0) < (a4 - a2) then (a4 - a2) else (nI 0)).toNatClampNeg)), .int (if (nI 0) < (a4 - a2) then (a4 - a2) else (nI 0)), .ref 56], am_D τ)) hF t_s_Re_addRenewals_8 rfl rfl ?_
        refine am_gd h (fun hi h => ?_)
        refine am_iald (n := 7) (j := (a1.toNatClampNeg)) d_X8_addRenewals_56 (Nat.le_of_ble_eq_true rfl) (Nat.le_of_ble_eq_true rfl) rfl hi rfl hF ?_
        refine am_seg s_Re_addRenewals_9 (y := (58, [(5, .int (if (nI 0) < (a4 - a2) then (a4 - a2) else (nI 0))), (0, .ref 52), (1, .int a1), (2, .int a2), (3, .int a3), (4, .int a4)], [.int ((τ.1 56 ((if (nI 0) < (a4 - a2) then (a4 - a2) else (nI 0)).toNatClampNeg)) + (τ.1 54 (a1.toNatClampNeg))), .int (if (nI 0) < (a4 - a2) then (a4 - a2) else (nI 0)), .ref 56], am_D τ)) hF t_s_Re_addRenewals_9 rfl rfl ?_
        refine am_gd h (fun hi h => ?_)
        refine am_iast (n := 30) (j := ((if (nI 0) < (a4 - a2) then (a4 - a2) else (nI 0)).toNatClampNeg)) d_X8_addRenewals_58 (Nat.le_of_ble_eq_true rfl) (Nat.le_of_ble_eq_true rfl) rfl hi rfl hF ?_
        refine am_seg s_Re_addRenewals_10 (y := (19, [(4, .int (a4 + a3)), (5, .int (if (nI 0) < (a4 - a2) then (a4 - a2) else (nI 0))), (0, .ref 52), (1, .int a1), (2, .int a2), (3, .int a3)], [], am_D (am_si τ 56 ((if (nI 0) < (a4 - a2) then (a4 - a2) else (nI 0)).toNatClampNeg) ((τ.1 56 ((if (nI 0) < (a4 - a2) then (a4 - a2) else (nI 0)).toNatClampNeg)) + (τ.1 54 (a1.toNatClampNeg)))))) hF t_s_Re_addRenewals_10 rfl rfl ?_
        refine am_pick [2, 3, 4, 5, 0] rfl ?_
        exact ih _ _ _ _ _ h
def Re_addRenewals (τ : am_T) (a1 : Int32) (a2 : Int32) : Option (am_T) :=
  am_g (am_in a1 7) (am_g (am_in a1 7) (Re_addRenewals_19 5000 τ a1 a2 (if (nI 1) < (τ.1 53 (a1.toNatClampNeg)) then (τ.1 53 (a1.toNatClampNeg)) else (nI 1)) (τ.1 55 (a1.toNatClampNeg))))
set_option maxRecDepth 20000 in
theorem ok_Re_addRenewals {X : am_X} {a1 : Int32} {a2 : Int32} {τ τ' : am_T} (hF : am_F X "ShareHouse$Reserve" cX8_addRenewals 6) (hR : am_R X 1 23) (hB : am_B X none none (am_D τ')) (h : Re_addRenewals τ a1 a2 = some τ') : am_W X 6 (0, [(0, .ref 52), (1, .int a1), (2, .int a2)], [], am_D τ) := by
  unfold Re_addRenewals at h
  refine am_seg s_Re_addRenewals_0 (y := (6, [(0, .ref 52), (1, .int a1), (2, .int a2)], [.int a1, .ref 53, .int (nI 1)], am_D τ)) hF t_s_Re_addRenewals_0 rfl rfl ?_
  refine am_gd h (fun hi h => ?_)
  refine am_iald (n := 7) (j := (a1.toNatClampNeg)) d_X8_addRenewals_6 (Nat.le_of_ble_eq_true rfl) (Nat.le_of_ble_eq_true rfl) rfl hi rfl hF ?_
  refine am_mmax d_X8_addRenewals_7 wq_max_8_56 wq_max_s wq_math wq_max_c ⟨by decide, Nat.le_of_ble_eq_true rfl⟩ (Nat.le_refl _) hF hR ?_
  refine am_seg s_Re_addRenewals_1 (y := (16, [(3, .int (if (nI 1) < (τ.1 53 (a1.toNatClampNeg)) then (τ.1 53 (a1.toNatClampNeg)) else (nI 1))), (0, .ref 52), (1, .int a1), (2, .int a2)], [.int a1, .ref 55], am_D τ)) hF t_s_Re_addRenewals_1 rfl rfl ?_
  refine am_gd h (fun hi h => ?_)
  refine am_iald (n := 7) (j := (a1.toNatClampNeg)) d_X8_addRenewals_16 (Nat.le_of_ble_eq_true rfl) (Nat.le_of_ble_eq_true rfl) rfl hi rfl hF ?_
  refine am_seg s_Re_addRenewals_2 (y := (19, [(4, .int (τ.1 55 (a1.toNatClampNeg))), (3, .int (if (nI 1) < (τ.1 53 (a1.toNatClampNeg)) then (τ.1 53 (a1.toNatClampNeg)) else (nI 1))), (0, .ref 52), (1, .int a1), (2, .int a2)], [], am_D τ)) hF t_s_Re_addRenewals_2 rfl rfl ?_
  refine am_pick [2, 3, 4, 1, 0] rfl ?_
  exact ok_Re_addRenewals_19 hF hR hB _ _ _ _ _ _ h
theorem c_Re_addRenewals {a1 : Int32} {a2 : Int32} {τ τ' : am_T} (h : Re_addRenewals τ a1 a2 = some τ') : am_C yX8_addRenewals cX8_addRenewals 6 none 1 23 [.ref 52, .int a1, .int a2] (am_D τ) none (am_D τ') :=
  am_enter (by decide +kernel) (Nat.le_of_ble_eq_true rfl) ⟨Nat.le_refl _, Nat.le_refl _⟩ (fun X hF hR hB => ok_Re_addRenewals hF hR hB h)
def s_Re_reckon_0 : List am_Q := [(0, .aload_n 0, 0, 0, 0, .null), (1, .getfield 21, 8, 4, 76, .null), (4, .iconst 0, 0, 0, 0, .int (nI 0))]
theorem t_s_Re_reckon_0 : s_Re_reckon_0.all (am_ok 8 cX8_reckon) = true := by decide +kernel
theorem d_X8_reckon_5 : decode cX8_reckon 5 = .ok (.invokestatic 36, 3) := by decide +kernel
def s_Re_reckon_1 : List am_Q := [(8, .iconst 0, 0, 0, 0, .int (nI 0)), (9, .istore_n 3, 0, 0, 0, .null)]
theorem t_s_Re_reckon_1 : s_Re_reckon_1.all (am_ok 8 cX8_reckon) = true := by decide +kernel
def s_Re_reckon_2 : List am_Q := [(10, .iload_n 3, 0, 0, 0, .null), (11, .aload_n 0, 0, 0, 0, .null), (12, .getfield 28, 8, 3, 74, .null)]
theorem t_s_Re_reckon_2 : s_Re_reckon_2.all (am_ok 8 cX8_reckon) = true := by decide +kernel
theorem d_X8_reckon_15 : decode cX8_reckon 15 = .ok (.if_icmp .ge 19, 3) := by decide +kernel
def s_Re_reckon_3 : List am_Q := [(34, .iconst 1, 0, 0, 0, .int (nI 1)), (35, .istore_n 3, 0, 0, 0, .null)]
theorem t_s_Re_reckon_3 : s_Re_reckon_3.all (am_ok 8 cX8_reckon) = true := by decide +kernel
def s_Re_reckon_4 : List am_Q := [(36, .iload_n 3, 0, 0, 0, .null), (37, .bipush 30, 0, 0, 0, .int (nI 30))]
theorem t_s_Re_reckon_4 : s_Re_reckon_4.all (am_ok 8 cX8_reckon) = true := by decide +kernel
theorem d_X8_reckon_39 : decode cX8_reckon 39 = .ok (.if_icmp .ge 26, 3) := by decide +kernel
def s_Re_reckon_5 : List am_Q := [(65, .aload_n 0, 0, 0, 0, .null), (66, .iconst 0, 0, 0, 0, .int (nI 0)), (67, .putfield 46, 8, 5, 79, .null), (70, .aload_n 0, 0, 0, 0, .null), (71, .iconst (-1), 0, 0, 0, .int (-1 : Int32)), (72, .putfield 49, 8, 6, 82, .null), (75, .iconst 0, 0, 0, 0, .int (nI 0)), (76, .istore_n 3, 0, 0, 0, .null)]
theorem t_s_Re_reckon_5 : s_Re_reckon_5.all (am_ok 8 cX8_reckon) = true := by decide +kernel
def s_Re_reckon_6 : List am_Q := [(77, .iload_n 3, 0, 0, 0, .null), (78, .bipush 30, 0, 0, 0, .int (nI 30))]
theorem t_s_Re_reckon_6 : s_Re_reckon_6.all (am_ok 8 cX8_reckon) = true := by decide +kernel
theorem d_X8_reckon_80 : decode cX8_reckon 80 = .ok (.if_icmp .ge 37, 3) := by decide +kernel
theorem d_X8_reckon_117 : decode cX8_reckon 117 = .ok (.return_, 1) := by decide +kernel
def s_Re_reckon_7 : List am_Q := [(83, .aload_n 0, 0, 0, 0, .null), (84, .iload_n 3, 0, 0, 0, .null), (85, .iload_n 2, 0, 0, 0, .null)]
theorem t_s_Re_reckon_7 : s_Re_reckon_7.all (am_ok 8 cX8_reckon) = true := by decide +kernel
theorem d_X8_reckon_86 : decode cX8_reckon 86 = .ok (.invokevirtual 52, 3) := by decide +kernel
def s_Re_reckon_8 : List am_Q := [(89, .istore 4, 0, 0, 0, .null), (91, .iload 4, 0, 0, 0, .null), (93, .aload_n 0, 0, 0, 0, .null), (94, .getfield 46, 8, 5, 79, .null)]
theorem t_s_Re_reckon_8 : s_Re_reckon_8.all (am_ok 8 cX8_reckon) = true := by decide +kernel
theorem d_X8_reckon_97 : decode cX8_reckon 97 = .ok (.if_icmp .le 14, 3) := by decide +kernel
def s_Re_reckon_9 : List am_Q := [(111, .iinc 3 1, 0, 0, 0, .int (nI 1)), (114, .goto (-37), 77, 0, 0, .null)]
theorem t_s_Re_reckon_9 : s_Re_reckon_9.all (am_ok 8 cX8_reckon) = true := by decide +kernel
def s_Re_reckon_10 : List am_Q := [(100, .aload_n 0, 0, 0, 0, .null), (101, .iload 4, 0, 0, 0, .null), (103, .putfield 46, 8, 5, 79, .null), (106, .aload_n 0, 0, 0, 0, .null), (107, .iload_n 3, 0, 0, 0, .null), (108, .putfield 49, 8, 6, 82, .null), (111, .iinc 3 1, 0, 0, 0, .int (nI 1)), (114, .goto (-37), 77, 0, 0, .null)]
theorem t_s_Re_reckon_10 : s_Re_reckon_10.all (am_ok 8 cX8_reckon) = true := by decide +kernel
def s_Re_reckon_11 : List am_Q := [(42, .aload_n 0, 0, 0, 0, .null), (43, .getfield 21, 8, 4, 76, .null), (46, .iload_n 3, 0, 0, 0, .null), (47, .dup2, 0, 0, 0, .null)]
theorem t_s_Re_reckon_11 : s_Re_reckon_11.all (am_ok 8 cX8_reckon) = true := by decide +kernel
theorem d_X8_reckon_48 : decode cX8_reckon 48 = .ok (.iaload, 1) := by decide +kernel
def s_Re_reckon_12 : List am_Q := [(49, .aload_n 0, 0, 0, 0, .null), (50, .getfield 21, 8, 4, 76, .null), (53, .iload_n 3, 0, 0, 0, .null), (54, .iconst 1, 0, 0, 0, .int (nI 1)), (55, .isub, 0, 0, 0, .null)]
theorem t_s_Re_reckon_12 : s_Re_reckon_12.all (am_ok 8 cX8_reckon) = true := by decide +kernel
theorem d_X8_reckon_56 : decode cX8_reckon 56 = .ok (.iaload, 1) := by decide +kernel
def s_Re_reckon_13 : List am_Q := [(57, .iadd, 0, 0, 0, .null)]
theorem t_s_Re_reckon_13 : s_Re_reckon_13.all (am_ok 8 cX8_reckon) = true := by decide +kernel
theorem d_X8_reckon_58 : decode cX8_reckon 58 = .ok (.iastore, 1) := by decide +kernel
def s_Re_reckon_14 : List am_Q := [(59, .iinc 3 1, 0, 0, 0, .int (nI 1)), (62, .goto (-26), 36, 0, 0, .null)]
theorem t_s_Re_reckon_14 : s_Re_reckon_14.all (am_ok 8 cX8_reckon) = true := by decide +kernel
def s_Re_reckon_15 : List am_Q := [(18, .aload_n 0, 0, 0, 0, .null), (19, .iload_n 3, 0, 0, 0, .null), (20, .iload_n 1, 0, 0, 0, .null), (21, .iload_n 3, 0, 0, 0, .null), (22, .ishr, 0, 0, 0, .null), (23, .iconst 1, 0, 0, 0, .int (nI 1)), (24, .iand, 0, 0, 0, .null)]
theorem t_s_Re_reckon_15 : s_Re_reckon_15.all (am_ok 8 cX8_reckon) = true := by decide +kernel
theorem d_X8_reckon_25 : decode cX8_reckon 25 = .ok (.invokevirtual 42, 3) := by decide +kernel
def s_Re_reckon_16 : List am_Q := [(28, .iinc 3 1, 0, 0, 0, .int (nI 1)), (31, .goto (-21), 10, 0, 0, .null)]
theorem t_s_Re_reckon_16 : s_Re_reckon_16.all (am_ok 8 cX8_reckon) = true := by decide +kernel
def Re_reckon_77 : Nat → am_T → Int32 → Int32 → Option (am_T)
  | 0, _, _, _ => none
  | n + 1, τ, a2, a3 =>
    if (nI 30) ≤ a3 then
  (some τ)
else
  ((Re_leastPayFor τ a3 a2).bind (fun x2 =>
  if x2.1 ≤ (x2.2.1 52 5) then
  ((Re_reckon_77 n) x2.2 a2 (a3 + (nI 1)))
else
  ((Re_reckon_77 n) (am_si (am_si x2.2 52 5 x2.1) 52 6 a3) a2 (a3 + (nI 1)))))
set_option maxRecDepth 20000 in
theorem ok_Re_reckon_77 {X : am_X} {τ' : am_T} (hF : am_F X "ShareHouse$Reserve" cX8_reckon 5) (hR : am_R X 2 48) (hB : am_B X none none (am_D τ')) : ∀ (n : Nat) (τ : am_T) (a2 : Int32) (a3 : Int32), Re_reckon_77 n τ a2 a3 = some τ' → am_W X 5 (77, [(0, .ref 52), (2, .int a2), (3, .int a3)], [], am_D τ) := by
  intro n
  induction n with
  | zero => intro τ a2 a3 h; unfold Re_reckon_77 at h; cases h
  | succ n ih =>
    intro τ a2 a3 h
    unfold Re_reckon_77 at h
    refine am_seg s_Re_reckon_6 (y := (80, [(0, .ref 52), (2, .int a2), (3, .int a3)], [.int (nI 30), .int a3], am_D τ)) hF t_s_Re_reckon_6 rfl rfl ?_
    refine am_ite h (fun hc h => ?_) (fun hc h => ?_)
    · refine am_icmp_ge_t (t := 117) d_X8_reckon_80 (by decide) hc hF ?_
      obtain rfl := am_one h
      exact am_vret d_X8_reckon_117 hF hB
    · refine am_icmp_ge_f (t := 117) d_X8_reckon_80 (by decide) hc hF ?_
      refine am_seg s_Re_reckon_7 (y := (86, [(0, .ref 52), (2, .int a2), (3, .int a3)], [.int a2, .int a3, .ref 52], am_D τ)) hF t_s_Re_reckon_7 rfl rfl ?_
      refine am_bd h (fun x2 hx h => ?_)
      refine am_callV (As := [.int a3, .int a2]) (r := (some (.int x2.1))) (st := []) (σ' := am_D x2.2) (ci := 8) hF hR d_X8_reckon_86 (c_Re_leastPayFor (τ' := x2.2) hx) (Nat.le_refl _) (Nat.le_refl _) wl_Re_52 wi_yX8_leastPayFor we_yX8_leastPayFor wn_ShareHouse_Reserve wc_yX8_leastPayFor (Nat.le_of_ble_eq_true rfl) (Nat.le_of_ble_eq_true rfl) rfl rfl wy_yX8_leastPayFor rfl ⟨by decide, by decide⟩ (Nat.le_of_ble_eq_true rfl) ?_
      refine am_seg s_Re_reckon_8 (y := (97, [(4, .int x2.1), (0, .ref 52), (2, .int a2), (3, .int a3)], [.int (x2.2.1 52 5), .int x2.1], am_D x2.2)) hF t_s_Re_reckon_8 rfl rfl ?_
      refine am_ite h (fun hc h => ?_) (fun hc h => ?_)
      · refine am_icmp_le_t (t := 111) d_X8_reckon_97 (by decide) hc hF ?_
        refine am_seg s_Re_reckon_9 (y := (77, [(3, .int (a3 + (nI 1))), (4, .int x2.1), (0, .ref 52), (2, .int a2)], [], am_D x2.2)) hF t_s_Re_reckon_9 rfl rfl ?_
        refine am_pick [2, 3, 0] rfl ?_
        exact ih _ _ _ h
      · refine am_icmp_le_f (t := 111) d_X8_reckon_97 (by decide) hc hF ?_
        refine am_seg s_Re_reckon_10 (y := (77, [(3, .int (a3 + (nI 1))), (4, .int x2.1), (0, .ref 52), (2, .int a2)], [], am_D (am_si (am_si x2.2 52 5 x2.1) 52 6 a3))) hF t_s_Re_reckon_10 rfl rfl ?_
        refine am_pick [2, 3, 0] rfl ?_
        exact ih _ _ _ h
def Re_reckon_36 : Nat → am_T → Int32 → Int32 → Option (am_T)
  | 0, _, _, _ => none
  | n + 1, τ, a2, a3 =>
    if (nI 30) ≤ a3 then
  (Re_reckon_77 5000 (am_si (am_si τ 52 5 (nI 0)) 52 6 (-1 : Int32)) a2 (nI 0))
else
  (am_g (am_in a3 30) (am_g (am_in (a3 - (nI 1)) 30) (am_g (am_in a3 30) ((Re_reckon_36 n) (am_si τ 56 (a3.toNatClampNeg) ((τ.1 56 (a3.toNatClampNeg)) + (τ.1 56 ((a3 - (nI 1)).toNatClampNeg)))) a2 (a3 + (nI 1))))))
set_option maxRecDepth 20000 in
theorem ok_Re_reckon_36 {X : am_X} {τ' : am_T} (hF : am_F X "ShareHouse$Reserve" cX8_reckon 5) (hR : am_R X 2 48) (hB : am_B X none none (am_D τ')) : ∀ (n : Nat) (τ : am_T) (a2 : Int32) (a3 : Int32), Re_reckon_36 n τ a2 a3 = some τ' → am_W X 5 (36, [(0, .ref 52), (2, .int a2), (3, .int a3)], [], am_D τ) := by
  intro n
  induction n with
  | zero => intro τ a2 a3 h; unfold Re_reckon_36 at h; cases h
  | succ n ih =>
    intro τ a2 a3 h
    unfold Re_reckon_36 at h
    refine am_seg s_Re_reckon_4 (y := (39, [(0, .ref 52), (2, .int a2), (3, .int a3)], [.int (nI 30), .int a3], am_D τ)) hF t_s_Re_reckon_4 rfl rfl ?_
    refine am_ite h (fun hc h => ?_) (fun hc h => ?_)
    · refine am_icmp_ge_t (t := 65) d_X8_reckon_39 (by decide) hc hF ?_
      refine am_seg s_Re_reckon_5 (y := (77, [(3, .int (nI 0)), (0, .ref 52), (2, .int a2)], [], am_D (am_si (am_si τ 52 5 (nI 0)) 52 6 (-1 : Int32)))) hF t_s_Re_reckon_5 rfl rfl ?_
      refine am_pick [1, 2, 0] rfl ?_
      exact ok_Re_reckon_77 hF hR hB _ _ _ _ h
    · refine am_icmp_ge_f (t := 65) d_X8_reckon_39 (by decide) hc hF ?_
      refine am_seg s_Re_reckon_11 (y := (48, [(0, .ref 52), (2, .int a2), (3, .int a3)], [.int a3, .ref 56, .int a3, .ref 56], am_D τ)) hF t_s_Re_reckon_11 rfl rfl ?_
      refine am_gd h (fun hi h => ?_)
      refine am_iald (n := 30) (j := (a3.toNatClampNeg)) d_X8_reckon_48 (Nat.le_of_ble_eq_true rfl) (Nat.le_of_ble_eq_true rfl) rfl hi rfl hF ?_
      refine am_seg s_Re_reckon_12 (y := (56, [(0, .ref 52), (2, .int a2), (3, .int a3)], [.int (a3 - (nI 1)), .ref 56, .int (τ.1 56 (a3.toNatClampNeg)), .int a3, .ref 56], am_D τ)) hF t_s_Re_reckon_12 rfl rfl ?_
      refine am_gd h (fun hi h => ?_)
      refine am_iald (n := 30) (j := ((a3 - (nI 1)).toNatClampNeg)) d_X8_reckon_56 (Nat.le_of_ble_eq_true rfl) (Nat.le_of_ble_eq_true rfl) rfl hi rfl hF ?_
      refine am_seg s_Re_reckon_13 (y := (58, [(0, .ref 52), (2, .int a2), (3, .int a3)], [.int ((τ.1 56 (a3.toNatClampNeg)) + (τ.1 56 ((a3 - (nI 1)).toNatClampNeg))), .int a3, .ref 56], am_D τ)) hF t_s_Re_reckon_13 rfl rfl ?_
      refine am_gd h (fun hi h => ?_)
      refine am_iast (n := 30) (j := (a3.toNatClampNeg)) d_X8_reckon_58 (Nat.le_of_ble_eq_true rfl) (Nat.le_of_ble_eq_true rfl) rfl hi rfl hF ?_
      refine am_seg s_Re_reckon_14 (y := (36, [(3, .int (a3 + (nI 1))), (0, .ref 52), (2, .int a2)], [], am_D (am_si τ 56 (a3.toNatClampNeg) ((τ.1 56 (a3.toNatClampNeg)) + (τ.1 56 ((a3 - (nI 1)).toNatClampNeg)))))) hF t_s_Re_reckon_14 rfl rfl ?_
      refine am_pick [1, 2, 0] rfl ?_
      exact ih _ _ _ h
def Re_reckon_10 : Nat → am_T → Int32 → Int32 → Int32 → Option (am_T)
  | 0, _, _, _, _ => none
  | n + 1, τ, a1, a2, a3 =>
    if (τ.1 52 3) ≤ a3 then
  (Re_reckon_36 5000 τ a2 (nI 1))
else
  ((Re_addRenewals τ a3 ((a1 >>> (a3 &&& 31)) &&& (nI 1))).bind (fun x3 =>
  (Re_reckon_10 n) x3 a1 a2 (a3 + (nI 1))))
set_option maxRecDepth 20000 in
theorem ok_Re_reckon_10 {X : am_X} {τ' : am_T} (hF : am_F X "ShareHouse$Reserve" cX8_reckon 5) (hR : am_R X 2 48) (hB : am_B X none none (am_D τ')) : ∀ (n : Nat) (τ : am_T) (a1 : Int32) (a2 : Int32) (a3 : Int32), Re_reckon_10 n τ a1 a2 a3 = some τ' → am_W X 5 (10, [(0, .ref 52), (1, .int a1), (2, .int a2), (3, .int a3)], [], am_D τ) := by
  intro n
  induction n with
  | zero => intro τ a1 a2 a3 h; unfold Re_reckon_10 at h; cases h
  | succ n ih =>
    intro τ a1 a2 a3 h
    unfold Re_reckon_10 at h
    refine am_seg s_Re_reckon_2 (y := (15, [(0, .ref 52), (1, .int a1), (2, .int a2), (3, .int a3)], [.int (τ.1 52 3), .int a3], am_D τ)) hF t_s_Re_reckon_2 rfl rfl ?_
    refine am_ite h (fun hc h => ?_) (fun hc h => ?_)
    · refine am_icmp_ge_t (t := 34) d_X8_reckon_15 (by decide) hc hF ?_
      refine am_seg s_Re_reckon_3 (y := (36, [(3, .int (nI 1)), (0, .ref 52), (1, .int a1), (2, .int a2)], [], am_D τ)) hF t_s_Re_reckon_3 rfl rfl ?_
      refine am_pick [1, 3, 0] rfl ?_
      exact ok_Re_reckon_36 hF hR hB _ _ _ _ h
    · refine am_icmp_ge_f (t := 34) d_X8_reckon_15 (by decide) hc hF ?_
      refine am_seg s_Re_reckon_15 (y := (25, [(0, .ref 52), (1, .int a1), (2, .int a2), (3, .int a3)], [.int ((a1 >>> (a3 &&& 31)) &&& (nI 1)), .int a3, .ref 52], am_D τ)) hF t_s_Re_reckon_15 rfl rfl ?_
      refine am_bd h (fun x3 hx h => ?_)
      refine am_callV (As := [.int a3, .int ((a1 >>> (a3 &&& 31)) &&& (nI 1))]) (r := none) (st := []) (σ' := am_D x3) (ci := 8) hF hR d_X8_reckon_25 (c_Re_addRenewals (τ' := x3) hx) (Nat.le_refl _) (Nat.le_refl _) wl_Re_42 wi_yX8_addRenewals we_yX8_addRenewals wn_ShareHouse_Reserve wc_yX8_addRenewals (Nat.le_of_ble_eq_true rfl) (Nat.le_of_ble_eq_true rfl) rfl rfl wy_yX8_addRenewals rfl ⟨by decide, by decide⟩ (Nat.le_of_ble_eq_true rfl) ?_
      refine am_seg s_Re_reckon_16 (y := (10, [(3, .int (a3 + (nI 1))), (0, .ref 52), (1, .int a1), (2, .int a2)], [], am_D x3)) hF t_s_Re_reckon_16 rfl rfl ?_
      refine am_pick [1, 2, 3, 0] rfl ?_
      exact ih _ _ _ _ h
def Re_reckon (τ : am_T) (a1 : Int32) (a2 : Int32) : Option (am_T) :=
  (JA_fill τ 56 (nI 0)).bind (fun x1 =>
  Re_reckon_10 5000 x1 a1 a2 (nI 0))
set_option maxRecDepth 20000 in
theorem ok_Re_reckon {X : am_X} {a1 : Int32} {a2 : Int32} {τ τ' : am_T} (hF : am_F X "ShareHouse$Reserve" cX8_reckon 5) (hR : am_R X 2 48) (hB : am_B X none none (am_D τ')) (h : Re_reckon τ a1 a2 = some τ') : am_W X 5 (0, [(0, .ref 52), (1, .int a1), (2, .int a2)], [], am_D τ) := by
  unfold Re_reckon at h
  refine am_seg s_Re_reckon_0 (y := (5, [(0, .ref 52), (1, .int a1), (2, .int a2)], [.int (nI 0), .ref 56], am_D τ)) hF t_s_Re_reckon_0 rfl rfl ?_
  refine am_bd h (fun x1 hx h => ?_)
  refine am_callS (As := [.ref 56, .int (nI 0)]) (r := none) (st := []) (σ' := am_D x1) hF hR d_X8_reckon_5 (c_JA_fill (τ' := x1) hx) (Nat.le_refl _) (Nat.le_refl _) wl_Re_36 ws_yJ7_fill_53178 wn_java_util_Arrays wc_yJ7_fill_53178 wy_yJ7_fill_53178 rfl ⟨by decide, by decide⟩ (Nat.le_of_ble_eq_true rfl) ?_
  refine am_seg s_Re_reckon_1 (y := (10, [(3, .int (nI 0)), (0, .ref 52), (1, .int a1), (2, .int a2)], [], am_D x1)) hF t_s_Re_reckon_1 rfl rfl ?_
  refine am_pick [1, 2, 3, 0] rfl ?_
  exact ok_Re_reckon_10 hF hR hB _ _ _ _ _ h
theorem c_Re_reckon {a1 : Int32} {a2 : Int32} {τ τ' : am_T} (h : Re_reckon τ a1 a2 = some τ') : am_C yX8_reckon cX8_reckon 5 none 2 48 [.ref 52, .int a1, .int a2] (am_D τ) none (am_D τ') :=
  am_enter (by decide +kernel) (Nat.le_of_ble_eq_true rfl) ⟨Nat.le_refl _, Nat.le_refl _⟩ (fun X hF hR hB => ok_Re_reckon hF hR hB h)
def s_X_level_0 : List am_Q := [(0, .aload_n 0, 0, 0, 0, .null), (1, .getfield 10, 11, 0, 145, .null), (4, .getfield 282, 3, 7, 108, .null), (7, .iload_n 1, 0, 0, 0, .null)]
theorem t_s_X_level_0 : s_X_level_0.all (am_ok 11 cX11_level) = true := by decide +kernel
theorem d_X11_level_8 : decode cX11_level 8 = .ok (.invokevirtual 290, 3) := by decide +kernel
theorem d_X11_level_11 : decode cX11_level 11 = .ok (.ifCond .eq 12, 3) := by decide +kernel
def s_X_level_1 : List am_Q := [(23, .iconst (-1), 0, 0, 0, .int (-1 : Int32))]
theorem t_s_X_level_1 : s_X_level_1.all (am_ok 11 cX11_level) = true := by decide +kernel
theorem d_X11_level_24 : decode cX11_level 24 = .ok (.ireturn, 1) := by decide +kernel
def s_X_level_2 : List am_Q := [(14, .iload_n 2, 0, 0, 0, .null), (15, .iconst 0, 0, 0, 0, .int (nI 0)), (16, .iconst 1, 0, 0, 0, .int (nI 1))]
theorem t_s_X_level_2 : s_X_level_2.all (am_ok 11 cX11_level) = true := by decide +kernel
theorem d_X11_level_17 : decode cX11_level 17 = .ok (.invokestatic 47, 3) := by decide +kernel
theorem d_X11_level_20 : decode cX11_level 20 = .ok (.ifCond .ne 5, 3) := by decide +kernel
def s_X_level_3 : List am_Q := [(25, .aload_n 0, 0, 0, 0, .null), (26, .getfield 10, 11, 0, 145, .null), (29, .getfield 282, 3, 7, 108, .null), (32, .iload_n 1, 0, 0, 0, .null), (33, .aload_n 0, 0, 0, 0, .null), (34, .getfield 10, 11, 0, 145, .null)]
theorem t_s_X_level_3 : s_X_level_3.all (am_ok 11 cX11_level) = true := by decide +kernel
theorem d_X11_level_37 : decode cX11_level 37 = .ok (.invokevirtual 293, 3) := by decide +kernel
theorem d_X11_level_40 : decode cX11_level 40 = .ok (.invokevirtual 296, 3) := by decide +kernel
def s_X_level_4 : List am_Q := [(43, .iload_n 2, 0, 0, 0, .null)]
theorem t_s_X_level_4 : s_X_level_4.all (am_ok 11 cX11_level) = true := by decide +kernel
theorem d_X11_level_44 : decode cX11_level 44 = .ok (.ifCond .ne 14, 3) := by decide +kernel
def s_X_level_5 : List am_Q := [(58, .aload_n 0, 0, 0, 0, .null), (59, .getfield 10, 11, 0, 145, .null), (62, .getfield 282, 3, 7, 108, .null), (65, .getfield 302, 8, 6, 83, .null)]
theorem t_s_X_level_5 : s_X_level_5.all (am_ok 11 cX11_level) = true := by decide +kernel
theorem d_X11_level_68 : decode cX11_level 68 = .ok (.ifCond .ge 8, 3) := by decide +kernel
def s_X_level_6 : List am_Q := [(76, .aload_n 0, 0, 0, 0, .null), (77, .getfield 10, 11, 0, 145, .null), (80, .getfield 282, 3, 7, 108, .null), (83, .getfield 302, 8, 6, 83, .null)]
theorem t_s_X_level_6 : s_X_level_6.all (am_ok 11 cX11_level) = true := by decide +kernel
theorem d_X11_level_86 : decode cX11_level 86 = .ok (.ireturn, 1) := by decide +kernel
def s_X_level_7 : List am_Q := [(71, .bipush (-3), 0, 0, 0, .int (-3 : Int32)), (73, .goto 13, 86, 0, 0, .null)]
theorem t_s_X_level_7 : s_X_level_7.all (am_ok 11 cX11_level) = true := by decide +kernel
def s_X_level_8 : List am_Q := [(47, .aload_n 0, 0, 0, 0, .null), (48, .getfield 10, 11, 0, 145, .null), (51, .getfield 282, 3, 7, 108, .null), (54, .getfield 299, 8, 5, 80, .null)]
theorem t_s_X_level_8 : s_X_level_8.all (am_ok 11 cX11_level) = true := by decide +kernel
theorem d_X11_level_57 : decode cX11_level 57 = .ok (.ireturn, 1) := by decide +kernel
def s_X_level_9 : List am_Q := [(23, .iconst (-1), 0, 0, 0, .int (-1 : Int32))]
theorem t_s_X_level_9 : s_X_level_9.all (am_ok 11 cX11_level) = true := by decide +kernel
def X_level (τ : am_T) (a1 : Int32) (a2 : Int32) : Option (Int32 × am_T) :=
  (Re_hasAll τ a1).bind (fun x1 =>
  if x1.1 = 0 then
  (some ((-1 : Int32), x1.2))
else
  ((X_within x1.2 a2 (nI 0) (nI 1)).bind (fun x2 =>
  if x2.1 = 0 then
  (some ((-1 : Int32), x2.2))
else
  ((Ho_lack x2.2).bind (fun x3 =>
  (Re_reckon x3.2 a1 x3.1).bind (fun x4 =>
  if a2 = 0 then
  (some ((x4.1 52 5), x4))
else
  (if 0 ≤ (x4.1 52 6) then
  (some ((x4.1 52 6), x4))
else
  (some ((-3 : Int32), x4)))))))))
set_option maxRecDepth 20000 in
theorem ok_X_level {X : am_X} {a1 : Int32} {a2 : Int32} {v : Int32} {τ τ' : am_T} (hF : am_F X "ShareHouse" cX11_level 3) (hR : am_R X 3 72) (hB : am_B X (some .int) (some (.int v)) (am_D τ')) (h : X_level τ a1 a2 = some (v, τ')) : am_W X 3 (0, [(0, .ref 0), (1, .int a1), (2, .int a2)], [], am_D τ) := by
  unfold X_level at h
  refine am_seg s_X_level_0 (y := (8, [(0, .ref 0), (1, .int a1), (2, .int a2)], [.int a1, .ref 52], am_D τ)) hF t_s_X_level_0 rfl rfl ?_
  refine am_bd h (fun x1 hx h => ?_)
  refine am_callV (As := [.int a1]) (r := (some (.int x1.1))) (st := []) (σ' := am_D x1.2) (ci := 8) hF hR d_X11_level_8 (c_Re_hasAll (τ' := x1.2) hx) (Nat.le_refl _) (Nat.le_refl _) wl_X_290 wi_yX8_hasAll we_yX8_hasAll wn_ShareHouse_Reserve wc_yX8_hasAll (Nat.le_of_ble_eq_true rfl) (Nat.le_of_ble_eq_true rfl) rfl rfl wy_yX8_hasAll rfl ⟨by decide, by decide⟩ (Nat.le_of_ble_eq_true rfl) ?_
  refine am_ite h (fun hc h => ?_) (fun hc h => ?_)
  · refine am_if_eq_t (t := 23) d_X11_level_11 (by decide) hc hF ?_
    refine am_seg s_X_level_1 (y := (24, [(0, .ref 0), (1, .int a1), (2, .int a2)], [.int (-1 : Int32)], am_D x1.2)) hF t_s_X_level_1 rfl rfl ?_
    obtain ⟨rfl, rfl⟩ := am_pair h
    exact am_iret d_X11_level_24 hF hB
  · refine am_if_eq_f (t := 23) d_X11_level_11 (by decide) hc hF ?_
    refine am_seg s_X_level_2 (y := (17, [(0, .ref 0), (1, .int a1), (2, .int a2)], [.int (nI 1), .int (nI 0), .int a2], am_D x1.2)) hF t_s_X_level_2 rfl rfl ?_
    refine am_bd h (fun x2 hx h => ?_)
    refine am_callS (As := [.int a2, .int (nI 0), .int (nI 1)]) (r := (some (.int x2.1))) (st := []) (σ' := am_D x2.2) hF hR d_X11_level_17 (c_X_within (τ' := x2.2) hx) (Nat.le_refl _) (Nat.le_refl _) wl_X_47 ws_yX11_within wn_ShareHouse wc_yX11_within wy_yX11_within rfl ⟨by decide, by decide⟩ (Nat.le_of_ble_eq_true rfl) ?_
    refine am_ite h (fun hc h => ?_) (fun hc h => ?_)
    · refine am_if_ne_f (t := 25) d_X11_level_20 (by decide) hc hF ?_
      refine am_seg s_X_level_9 (y := (24, [(0, .ref 0), (1, .int a1), (2, .int a2)], [.int (-1 : Int32)], am_D x2.2)) hF t_s_X_level_9 rfl rfl ?_
      obtain ⟨rfl, rfl⟩ := am_pair h
      exact am_iret d_X11_level_24 hF hB
    · refine am_if_ne_t (t := 25) d_X11_level_20 (by decide) hc hF ?_
      refine am_seg s_X_level_3 (y := (37, [(0, .ref 0), (1, .int a1), (2, .int a2)], [.ref 1, .int a1, .ref 52], am_D x2.2)) hF t_s_X_level_3 rfl rfl ?_
      refine am_bd h (fun x3 hx h => ?_)
      refine am_callV (As := []) (r := (some (.int x3.1))) (st := [.int a1, .ref 52]) (σ' := am_D x3.2) (ci := 3) hF hR d_X11_level_37 (c_Ho_lack (τ' := x3.2) hx) (Nat.le_refl _) (Nat.le_refl _) wl_X_293 wi_yX3_lack we_yX3_lack wn_ShareHouse_House wc_yX3_lack (Nat.le_of_ble_eq_true rfl) (Nat.le_of_ble_eq_true rfl) rfl rfl wy_yX3_lack rfl ⟨by decide, by decide⟩ (Nat.le_of_ble_eq_true rfl) ?_
      refine am_bd h (fun x4 hx h => ?_)
      refine am_callV (As := [.int a1, .int x3.1]) (r := none) (st := []) (σ' := am_D x4) (ci := 8) hF hR d_X11_level_40 (c_Re_reckon (τ' := x4) hx) (Nat.le_refl _) (Nat.le_refl _) wl_X_296 wi_yX8_reckon we_yX8_reckon wn_ShareHouse_Reserve wc_yX8_reckon (Nat.le_of_ble_eq_true rfl) (Nat.le_of_ble_eq_true rfl) rfl rfl wy_yX8_reckon rfl ⟨by decide, by decide⟩ (Nat.le_of_ble_eq_true rfl) ?_
      refine am_seg s_X_level_4 (y := (44, [(0, .ref 0), (1, .int a1), (2, .int a2)], [.int a2], am_D x4)) hF t_s_X_level_4 rfl rfl ?_
      refine am_ite h (fun hc h => ?_) (fun hc h => ?_)
      · refine am_if_ne_f (t := 58) d_X11_level_44 (by decide) hc hF ?_
        refine am_seg s_X_level_8 (y := (57, [(0, .ref 0), (1, .int a1), (2, .int a2)], [.int (x4.1 52 5)], am_D x4)) hF t_s_X_level_8 rfl rfl ?_
        obtain ⟨rfl, rfl⟩ := am_pair h
        exact am_iret d_X11_level_57 hF hB
      · refine am_if_ne_t (t := 58) d_X11_level_44 (by decide) hc hF ?_
        refine am_seg s_X_level_5 (y := (68, [(0, .ref 0), (1, .int a1), (2, .int a2)], [.int (x4.1 52 6)], am_D x4)) hF t_s_X_level_5 rfl rfl ?_
        refine am_ite h (fun hc h => ?_) (fun hc h => ?_)
        · refine am_if_ge_t (t := 76) d_X11_level_68 (by decide) hc hF ?_
          refine am_seg s_X_level_6 (y := (86, [(0, .ref 0), (1, .int a1), (2, .int a2)], [.int (x4.1 52 6)], am_D x4)) hF t_s_X_level_6 rfl rfl ?_
          obtain ⟨rfl, rfl⟩ := am_pair h
          exact am_iret d_X11_level_86 hF hB
        · refine am_if_ge_f (t := 76) d_X11_level_68 (by decide) hc hF ?_
          refine am_seg s_X_level_7 (y := (86, [(0, .ref 0), (1, .int a1), (2, .int a2)], [.int (-3 : Int32)], am_D x4)) hF t_s_X_level_7 rfl rfl ?_
          obtain ⟨rfl, rfl⟩ := am_pair h
          exact am_iret d_X11_level_86 hF hB
theorem c_X_level {a1 : Int32} {a2 : Int32} {v : Int32} {τ τ' : am_T} (h : X_level τ a1 a2 = some (v, τ')) : am_C yX11_level cX11_level 3 (some .int) 3 72 [.ref 0, .int a1, .int a2] (am_D τ) (some (.int v)) (am_D τ') :=
  am_enter (by decide +kernel) (Nat.le_of_ble_eq_true rfl) ⟨Nat.le_refl _, Nat.le_refl _⟩ (fun X hF hR hB => ok_X_level hF hR hB h)

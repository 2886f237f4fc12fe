def s_Ac_buyersOf_0 : List am_Q := [(0, .aload_n 0, 0, 0, 0, .null), (1, .aload_n 1, 0, 0, 0, .null)]
theorem t_s_Ac_buyersOf_0 : s_Ac_buyersOf_0.all (am_ok 0 cX0_buyersOf) = true := by decide +kernel
theorem d_X0_buyersOf_2 : decode cX0_buyersOf 2 = .ok (.invokevirtual 135, 3) := by decide +kernel
def s_Ac_buyersOf_1 : List am_Q := [(5, .aload_n 1, 0, 0, 0, .null), (6, .getfield 58, 3, 3, 96, .null)]
theorem t_s_Ac_buyersOf_1 : s_Ac_buyersOf_1.all (am_ok 0 cX0_buyersOf) = true := by decide +kernel
theorem d_X0_buyersOf_9 : decode cX0_buyersOf 9 = .ok (.invokevirtual 139, 3) := by decide +kernel
def s_Ac_buyersOf_2 : List am_Q := [(12, .istore_n 2, 0, 0, 0, .null), (13, .bipush (-3), 0, 0, 0, .int (-3 : Int32)), (15, .istore_n 3, 0, 0, 0, .null), (16, .iconst 1, 0, 0, 0, .int (nI 1)), (17, .istore 4, 0, 0, 0, .null)]
theorem t_s_Ac_buyersOf_2 : s_Ac_buyersOf_2.all (am_ok 0 cX0_buyersOf) = true := by decide +kernel
def s_Ac_buyersOf_3 : List am_Q := [(19, .iload 4, 0, 0, 0, .null), (21, .sipush 256, 0, 0, 0, .int (nI 256))]
theorem t_s_Ac_buyersOf_3 : s_Ac_buyersOf_3.all (am_ok 0 cX0_buyersOf) = true := by decide +kernel
theorem d_X0_buyersOf_24 : decode cX0_buyersOf 24 = .ok (.if_icmp .ge 52, 3) := by decide +kernel
def s_Ac_buyersOf_4 : List am_Q := [(76, .iload_n 3, 0, 0, 0, .null)]
theorem t_s_Ac_buyersOf_4 : s_Ac_buyersOf_4.all (am_ok 0 cX0_buyersOf) = true := by decide +kernel
theorem d_X0_buyersOf_77 : decode cX0_buyersOf 77 = .ok (.ireturn, 1) := by decide +kernel
def s_Ac_buyersOf_5 : List am_Q := [(27, .iload_n 3, 0, 0, 0, .null)]
theorem t_s_Ac_buyersOf_5 : s_Ac_buyersOf_5.all (am_ok 0 cX0_buyersOf) = true := by decide +kernel
theorem d_X0_buyersOf_28 : decode cX0_buyersOf 28 = .ok (.ifCond .lt 15, 3) := by decide +kernel
def s_Ac_buyersOf_6 : List am_Q := [(43, .iconst 1, 0, 0, 0, .int (nI 1)), (44, .goto 4, 48, 0, 0, .null)]
theorem t_s_Ac_buyersOf_6 : s_Ac_buyersOf_6.all (am_ok 0 cX0_buyersOf) = true := by decide +kernel
def s_Ac_buyersOf_7 : List am_Q := [(48, .istore 5, 0, 0, 0, .null), (50, .iload 5, 0, 0, 0, .null)]
theorem t_s_Ac_buyersOf_7 : s_Ac_buyersOf_7.all (am_ok 0 cX0_buyersOf) = true := by decide +kernel
theorem d_X0_buyersOf_52 : decode cX0_buyersOf 52 = .ok (.ifCond .eq 18, 3) := by decide +kernel
def s_Ac_buyersOf_8 : List am_Q := [(70, .iinc 4 1, 0, 0, 0, .int (nI 1)), (73, .goto (-54), 19, 0, 0, .null)]
theorem t_s_Ac_buyersOf_8 : s_Ac_buyersOf_8.all (am_ok 0 cX0_buyersOf) = true := by decide +kernel
def s_Ac_buyersOf_9 : List am_Q := [(55, .iconst 2, 0, 0, 0, .int (nI 2)), (56, .aload_n 0, 0, 0, 0, .null), (57, .iload 4, 0, 0, 0, .null)]
theorem t_s_Ac_buyersOf_9 : s_Ac_buyersOf_9.all (am_ok 0 cX0_buyersOf) = true := by decide +kernel
theorem d_X0_buyersOf_59 : decode cX0_buyersOf 59 = .ok (.invokevirtual 148, 3) := by decide +kernel
def s_Ac_buyersOf_10 : List am_Q := [(62, .imul, 0, 0, 0, .null), (63, .iload_n 2, 0, 0, 0, .null)]
theorem t_s_Ac_buyersOf_10 : s_Ac_buyersOf_10.all (am_ok 0 cX0_buyersOf) = true := by decide +kernel
theorem d_X0_buyersOf_64 : decode cX0_buyersOf 64 = .ok (.if_icmp .le 6, 3) := by decide +kernel
def s_Ac_buyersOf_11 : List am_Q := [(70, .iinc 4 1, 0, 0, 0, .int (nI 1)), (73, .goto (-54), 19, 0, 0, .null)]
theorem t_s_Ac_buyersOf_11 : s_Ac_buyersOf_11.all (am_ok 0 cX0_buyersOf) = true := by decide +kernel
def s_Ac_buyersOf_12 : List am_Q := [(67, .iload 4, 0, 0, 0, .null), (69, .istore_n 3, 0, 0, 0, .null), (70, .iinc 4 1, 0, 0, 0, .int (nI 1)), (73, .goto (-54), 19, 0, 0, .null)]
theorem t_s_Ac_buyersOf_12 : s_Ac_buyersOf_12.all (am_ok 0 cX0_buyersOf) = true := by decide +kernel
def s_Ac_buyersOf_13 : List am_Q := [(31, .iload 4, 0, 0, 0, .null)]
theorem t_s_Ac_buyersOf_13 : s_Ac_buyersOf_13.all (am_ok 0 cX0_buyersOf) = true := by decide +kernel
theorem d_X0_buyersOf_33 : decode cX0_buyersOf 33 = .ok (.invokestatic 143, 3) := by decide +kernel
def s_Ac_buyersOf_14 : List am_Q := [(36, .iload_n 3, 0, 0, 0, .null)]
theorem t_s_Ac_buyersOf_14 : s_Ac_buyersOf_14.all (am_ok 0 cX0_buyersOf) = true := by decide +kernel
theorem d_X0_buyersOf_37 : decode cX0_buyersOf 37 = .ok (.invokestatic 143, 3) := by decide +kernel
theorem d_X0_buyersOf_40 : decode cX0_buyersOf 40 = .ok (.if_icmp .ge 7, 3) := by decide +kernel
def s_Ac_buyersOf_15 : List am_Q := [(47, .iconst 0, 0, 0, 0, .int (nI 0))]
theorem t_s_Ac_buyersOf_15 : s_Ac_buyersOf_15.all (am_ok 0 cX0_buyersOf) = true := by decide +kernel
def s_Ac_buyersOf_16 : List am_Q := [(43, .iconst 1, 0, 0, 0, .int (nI 1)), (44, .goto 4, 48, 0, 0, .null)]
theorem t_s_Ac_buyersOf_16 : s_Ac_buyersOf_16.all (am_ok 0 cX0_buyersOf) = true := by decide +kernel
def Ac_buyersOf_48 (k19 : am_T → Int32 → Int32 → Int32 → Option (Int32 × am_T)) (τ : am_T) (a2 : Int32) (a3 : Int32) (a4 : Int32) (s0 : Int32) : Option (Int32 × am_T) :=
  if s0 = 0 then
  (k19 τ a2 a3 (a4 + (nI 1)))
else
  ((Ac_areasOf τ a4).bind (fun x3 =>
  if ((nI 2) * x3.1) ≤ a2 then
  (k19 x3.2 a2 a3 (a4 + (nI 1)))
else
  (k19 x3.2 a2 a4 (a4 + (nI 1)))))
set_option maxRecDepth 20000 in
theorem ok_Ac_buyersOf_48 {X : am_X} {v : Int32} {τ' : am_T} (hF : am_F X "ShareHouse$Accounts" cX0_buyersOf 6) (hR : am_R X 3 70) (hB : am_B X (some .int) (some (.int v)) (am_D τ')) {k19 : am_T → Int32 → Int32 → Int32 → Option (Int32 × am_T)} (hk19 : ∀ (τ : am_T) (a2 : Int32) (a3 : Int32) (a4 : Int32), k19 τ a2 a3 a4 = some (v, τ') → am_W X 6 (19, [(0, .ref 127), (2, .int a2), (3, .int a3), (4, .int a4)], [], am_D τ)) {τ : am_T} {a2 : Int32} {a3 : Int32} {a4 : Int32} {s0 : Int32} (h : Ac_buyersOf_48 k19 τ a2 a3 a4 s0 = some (v, τ')) : am_W X 6 (48, [(0, .ref 127), (2, .int a2), (3, .int a3), (4, .int a4)], [.int s0], am_D τ) := by
  unfold Ac_buyersOf_48 at h
  refine am_seg s_Ac_buyersOf_7 (y := (52, [(5, .int s0), (0, .ref 127), (2, .int a2), (3, .int a3), (4, .int a4)], [.int s0], am_D τ)) hF t_s_Ac_buyersOf_7 rfl rfl ?_
  refine am_ite h (fun hc h => ?_) (fun hc h => ?_)
  · refine am_if_eq_t (t := 70) d_X0_buyersOf_52 (by decide) hc hF ?_
    refine am_seg s_Ac_buyersOf_8 (y := (19, [(4, .int (a4 + (nI 1))), (5, .int s0), (0, .ref 127), (2, .int a2), (3, .int a3)], [], am_D τ)) hF t_s_Ac_buyersOf_8 rfl rfl ?_
    refine am_pick [2, 3, 4, 0] rfl ?_
    exact hk19 _ _ _ _ h
  · refine am_if_eq_f (t := 70) d_X0_buyersOf_52 (by decide) hc hF ?_
    refine am_seg s_Ac_buyersOf_9 (y := (59, [(5, .int s0), (0, .ref 127), (2, .int a2), (3, .int a3), (4, .int a4)], [.int a4, .ref 127, .int (nI 2)], am_D τ)) hF t_s_Ac_buyersOf_9 rfl rfl ?_
    refine am_bd h (fun x3 hx h => ?_)
    refine am_callV (As := [.int a4]) (r := (some (.int x3.1))) (st := [.int (nI 2)]) (σ' := am_D x3.2) (ci := 0) hF hR d_X0_buyersOf_59 (c_Ac_areasOf (τ' := x3.2) hx) (Nat.le_refl _) (Nat.le_refl _) wl_Ac_148 wi_yX0_areasOf we_yX0_areasOf wn_ShareHouse_Accounts wc_yX0_areasOf (Nat.le_of_ble_eq_true rfl) (Nat.le_of_ble_eq_true rfl) rfl rfl wy_yX0_areasOf rfl ⟨by decide, by decide⟩ (Nat.le_of_ble_eq_true rfl) ?_
    refine am_seg s_Ac_buyersOf_10 (y := (64, [(5, .int s0), (0, .ref 127), (2, .int a2), (3, .int a3), (4, .int a4)], [.int a2, .int ((nI 2) * x3.1)], am_D x3.2)) hF t_s_Ac_buyersOf_10 rfl rfl ?_
    refine am_ite h (fun hc h => ?_) (fun hc h => ?_)
    · refine am_icmp_le_t (t := 70) d_X0_buyersOf_64 (by decide) hc hF ?_
      refine am_seg s_Ac_buyersOf_11 (y := (19, [(4, .int (a4 + (nI 1))), (5, .int s0), (0, .ref 127), (2, .int a2), (3, .int a3)], [], am_D x3.2)) hF t_s_Ac_buyersOf_11 rfl rfl ?_
      refine am_pick [2, 3, 4, 0] rfl ?_
      exact hk19 _ _ _ _ h
    · refine am_icmp_le_f (t := 70) d_X0_buyersOf_64 (by decide) hc hF ?_
      refine am_seg s_Ac_buyersOf_12 (y := (19, [(4, .int (a4 + (nI 1))), (3, .int a4), (5, .int s0), (0, .ref 127), (2, .int a2)], [], am_D x3.2)) hF t_s_Ac_buyersOf_12 rfl rfl ?_
      refine am_pick [3, 4, 1, 0] rfl ?_
      exact hk19 _ _ _ _ h
def Ac_buyersOf_19 : Nat → am_T → Int32 → Int32 → Int32 → Option (Int32 × am_T)
  | 0, _, _, _, _ => none
  | n + 1, τ, a2, a3, a4 =>
    if (nI 256) ≤ a4 then
  (some (a3, τ))
else
  (if a3 < 0 then
  (Ac_buyersOf_48 (Ac_buyersOf_19 n) τ a2 a3 a4 (nI 1))
else
  ((JI_bitCount τ a4).bind (fun x4 =>
  (JI_bitCount x4.2 a3).bind (fun x5 =>
  if x5.1 ≤ x4.1 then
  (Ac_buyersOf_48 (Ac_buyersOf_19 n) x5.2 a2 a3 a4 (nI 0))
else
  (Ac_buyersOf_48 (Ac_buyersOf_19 n) x5.2 a2 a3 a4 (nI 1))))))
set_option maxRecDepth 20000 in
theorem ok_Ac_buyersOf_19 {X : am_X} {v : Int32} {τ' : am_T} (hF : am_F X "ShareHouse$Accounts" cX0_buyersOf 6) (hR : am_R X 3 70) (hB : am_B X (some .int) (some (.int v)) (am_D τ')) : ∀ (n : Nat) (τ : am_T) (a2 : Int32) (a3 : Int32) (a4 : Int32), Ac_buyersOf_19 n τ a2 a3 a4 = some (v, τ') → am_W X 6 (19, [(0, .ref 127), (2, .int a2), (3, .int a3), (4, .int a4)], [], am_D τ) := by
  intro n
  induction n with
  | zero => intro τ a2 a3 a4 h; unfold Ac_buyersOf_19 at h; cases h
  | succ n ih =>
    intro τ a2 a3 a4 h
    unfold Ac_buyersOf_19 at h
    refine am_seg s_Ac_buyersOf_3 (y := (24, [(0, .ref 127), (2, .int a2), (3, .int a3), (4, .int a4)], [.int (nI 256), .int a4], am_D τ)) hF t_s_Ac_buyersOf_3 rfl rfl ?_
    refine am_ite h (fun hc h => ?_) (fun hc h => ?_)
    · refine am_icmp_ge_t (t := 76) d_X0_buyersOf_24 (by decide) hc hF ?_
      refine am_seg s_Ac_buyersOf_4 (y := (77, [(0, .ref 127), (2, .int a2), (3, .int a3), (4, .int a4)], [.int a3], am_D τ)) hF t_s_Ac_buyersOf_4 rfl rfl ?_
      obtain ⟨rfl, rfl⟩ := am_pair h
      exact am_iret d_X0_buyersOf_77 hF hB
    · refine am_icmp_ge_f (t := 76) d_X0_buyersOf_24 (by decide) hc hF ?_
      refine am_seg s_Ac_buyersOf_5 (y := (28, [(0, .ref 127), (2, .int a2), (3, .int a3), (4, .int a4)], [.int a3], am_D τ)) hF t_s_Ac_buyersOf_5 rfl rfl ?_
      refine am_ite h (fun hc h => ?_) (fun hc h => ?_)
      · refine am_if_lt_t (t := 43) d_X0_buyersOf_28 (by decide) hc hF ?_
        refine am_seg s_Ac_buyersOf_6 (y := (48, [(0, .ref 127), (2, .int a2), (3, .int a3), (4, .int a4)], [.int (nI 1)], am_D τ)) hF t_s_Ac_buyersOf_6 rfl rfl ?_
        exact ok_Ac_buyersOf_48 hF hR hB ih h
      · refine am_if_lt_f (t := 43) d_X0_buyersOf_28 (by decide) hc hF ?_
        refine am_seg s_Ac_buyersOf_13 (y := (33, [(0, .ref 127), (2, .int a2), (3, .int a3), (4, .int a4)], [.int a4], am_D τ)) hF t_s_Ac_buyersOf_13 rfl rfl ?_
        refine am_bd h (fun x4 hx h => ?_)
        refine am_callS (As := [.int a4]) (r := (some (.int x4.1))) (st := []) (σ' := am_D x4.2) hF hR d_X0_buyersOf_33 (c_JI_bitCount (τ' := x4.2) hx) (Nat.le_refl _) (Nat.le_refl _) wl_Ac_143 ws_yJ6_bitCount_0f7a4 wn_java_lang_Integer wc_yJ6_bitCount_0f7a4 wy_yJ6_bitCount_0f7a4 rfl ⟨by decide, by decide⟩ (Nat.le_of_ble_eq_true rfl) ?_
        refine am_seg s_Ac_buyersOf_14 (y := (37, [(0, .ref 127), (2, .int a2), (3, .int a3), (4, .int a4)], [.int a3, .int x4.1], am_D x4.2)) hF t_s_Ac_buyersOf_14 rfl rfl ?_
        refine am_bd h (fun x5 hx h => ?_)
        refine am_callS (As := [.int a3]) (r := (some (.int x5.1))) (st := [.int x4.1]) (σ' := am_D x5.2) hF hR d_X0_buyersOf_37 (c_JI_bitCount (τ' := x5.2) hx) (Nat.le_refl _) (Nat.le_refl _) wl_Ac_143 ws_yJ6_bitCount_0f7a4 wn_java_lang_Integer wc_yJ6_bitCount_0f7a4 wy_yJ6_bitCount_0f7a4 rfl ⟨by decide, by decide⟩ (Nat.le_of_ble_eq_true rfl) ?_
        refine am_ite h (fun hc h => ?_) (fun hc h => ?_)
        · refine am_icmp_ge_t (t := 47) d_X0_buyersOf_40 (by decide) hc hF ?_
          refine am_seg s_Ac_buyersOf_15 (y := (48, [(0, .ref 127), (2, .int a2), (3, .int a3), (4, .int a4)], [.int (nI 0)], am_D x5.2)) hF t_s_Ac_buyersOf_15 rfl rfl ?_
          exact ok_Ac_buyersOf_48 hF hR hB ih h
        · refine am_icmp_ge_f (t := 47) d_X0_buyersOf_40 (by decide) hc hF ?_
          refine am_seg s_Ac_buyersOf_16 (y := (48, [(0, .ref 127), (2, .int a2), (3, .int a3), (4, .int a4)], [.int (nI 1)], am_D x5.2)) hF t_s_Ac_buyersOf_16 rfl rfl ?_
          exact ok_Ac_buyersOf_48 hF hR hB ih h
def Ac_buyersOf (τ : am_T) : Option (Int32 × am_T) :=
  (Ac_readAreas τ).bind (fun x1 =>
  (Fl_allAreas x1).bind (fun x2 =>
  Ac_buyersOf_19 5000 x2.2 x2.1 (-3 : Int32) (nI 1)))
set_option maxRecDepth 20000 in
theorem ok_Ac_buyersOf {X : am_X} {v : Int32} {τ τ' : am_T} (hF : am_F X "ShareHouse$Accounts" cX0_buyersOf 6) (hR : am_R X 3 70) (hB : am_B X (some .int) (some (.int v)) (am_D τ')) (h : Ac_buyersOf τ = some (v, τ')) : am_W X 6 (0, [(0, .ref 127), (1, .ref 1)], [], am_D τ) := by
  unfold Ac_buyersOf at h
  refine am_seg s_Ac_buyersOf_0 (y := (2, [(0, .ref 127), (1, .ref 1)], [.ref 1, .ref 127], am_D τ)) hF t_s_Ac_buyersOf_0 rfl rfl ?_
  refine am_bd h (fun x1 hx h => ?_)
  refine am_callV (As := [.ref 1]) (r := none) (st := []) (σ' := am_D x1) (ci := 0) hF hR d_X0_buyersOf_2 (c_Ac_readAreas (τ' := x1) hx) (Nat.le_refl _) (Nat.le_refl _) wl_Ac_135 wi_yX0_readAreas we_yX0_readAreas wn_ShareHouse_Accounts wc_yX0_readAreas (Nat.le_of_ble_eq_true rfl) (Nat.le_of_ble_eq_true rfl) rfl rfl wy_yX0_readAreas rfl ⟨by decide, by decide⟩ (Nat.le_of_ble_eq_true rfl) ?_
  refine am_seg s_Ac_buyersOf_1 (y := (9, [(0, .ref 127), (1, .ref 1)], [.ref 4], am_D x1)) hF t_s_Ac_buyersOf_1 rfl rfl ?_
  refine am_bd h (fun x2 hx h => ?_)
  refine am_callV (As := []) (r := (some (.int x2.1))) (st := []) (σ' := am_D x2.2) (ci := 2) hF hR d_X0_buyersOf_9 (c_Fl_allAreas (τ' := x2.2) hx) (Nat.le_refl _) (Nat.le_refl _) wl_Ac_139 wi_yX2_allAreas we_yX2_allAreas wn_ShareHouse_Flats wc_yX2_allAreas (Nat.le_of_ble_eq_true rfl) (Nat.le_of_ble_eq_true rfl) rfl rfl wy_yX2_allAreas rfl ⟨by decide, by decide⟩ (Nat.le_of_ble_eq_true rfl) ?_
  refine am_seg s_Ac_buyersOf_2 (y := (19, [(4, .int (nI 1)), (3, .int (-3 : Int32)), (2, .int x2.1), (0, .ref 127), (1, .ref 1)], [], am_D x2.2)) hF t_s_Ac_buyersOf_2 rfl rfl ?_
  refine am_pick [3, 2, 1, 0] rfl ?_
  exact ok_Ac_buyersOf_19 hF hR hB _ _ _ _ _ h
theorem c_Ac_buyersOf {v : Int32} {τ τ' : am_T} (h : Ac_buyersOf τ = some (v, τ')) : am_C yX0_buyersOf cX0_buyersOf 6 (some .int) 3 70 [.ref 127, .ref 1] (am_D τ) (some (.int v)) (am_D τ') :=
  am_enter (by decide +kernel) (Nat.le_of_ble_eq_true rfl) ⟨Nat.le_refl _, Nat.le_refl _⟩ (fun X hF hR hB => ok_Ac_buyersOf hF hR hB h)
def s_X_buyers_0 : List am_Q := [(0, .aload_n 0, 0, 0, 0, .null), (1, .getfield 43, 11, 6, 151, .null), (4, .aload_n 0, 0, 0, 0, .null), (5, .getfield 10, 11, 0, 145, .null)]
theorem t_s_X_buyers_0 : s_X_buyers_0.all (am_ok 11 cX11_buyers) = true := by decide +kernel
theorem d_X11_buyers_8 : decode cX11_buyers 8 = .ok (.invokevirtual 324, 3) := by decide +kernel
theorem d_X11_buyers_11 : decode cX11_buyers 11 = .ok (.ireturn, 1) := by decide +kernel
def X_buyers (τ : am_T) : Option (Int32 × am_T) :=
  (Ac_buyersOf τ).bind (fun x1 =>
  some (x1.1, x1.2))
set_option maxRecDepth 20000 in
theorem ok_X_buyers {X : am_X} {v : Int32} {τ τ' : am_T} (hF : am_F X "ShareHouse" cX11_buyers 1) (hR : am_R X 4 95) (hB : am_B X (some .int) (some (.int v)) (am_D τ')) (h : X_buyers τ = some (v, τ')) : am_W X 1 (0, [(0, .ref 0)], [], am_D τ) := by
  unfold X_buyers at h
  refine am_seg s_X_buyers_0 (y := (8, [(0, .ref 0)], [.ref 1, .ref 127], am_D τ)) hF t_s_X_buyers_0 rfl rfl ?_
  refine am_bd h (fun x1 hx h => ?_)
  refine am_callV (As := [.ref 1]) (r := (some (.int x1.1))) (st := []) (σ' := am_D x1.2) (ci := 0) hF hR d_X11_buyers_8 (c_Ac_buyersOf (τ' := x1.2) hx) (Nat.le_refl _) (Nat.le_refl _) wl_X_324 wi_yX0_buyersOf we_yX0_buyersOf wn_ShareHouse_Accounts wc_yX0_buyersOf (Nat.le_of_ble_eq_true rfl) (Nat.le_of_ble_eq_true rfl) rfl rfl wy_yX0_buyersOf rfl ⟨by decide, by decide⟩ (Nat.le_of_ble_eq_true rfl) ?_
  obtain ⟨rfl, rfl⟩ := am_pair h
  exact am_iret d_X11_buyers_11 hF hB
theorem c_X_buyers {v : Int32} {τ τ' : am_T} (h : X_buyers τ = some (v, τ')) : am_C yX11_buyers cX11_buyers 1 (some .int) 4 95 [.ref 0] (am_D τ) (some (.int v)) (am_D τ') :=
  am_enter (by decide +kernel) (Nat.le_of_ble_eq_true rfl) ⟨Nat.le_refl _, Nat.le_refl _⟩ (fun X hF hR hB => ok_X_buyers hF hR hB h)
def s_X_many_0 : List am_Q := [(0, .iload_n 1, 0, 0, 0, .null)]
theorem t_s_X_many_0 : s_X_many_0.all (am_ok 11 cX11_many) = true := by decide +kernel
theorem d_X11_many_1 : decode cX11_many 1 = .ok (.tableswitch 186 0 11 #[63, 71, 82, 93, 104, 115, 126, 137, 148, 159, 167, 175], 63) := by decide +kernel
def s_X_many_1 : List am_Q := [(187, .iconst (-1), 0, 0, 0, .int (-1 : Int32))]
theorem t_s_X_many_1 : s_X_many_1.all (am_ok 11 cX11_many) = true := by decide +kernel
theorem d_X11_many_188 : decode cX11_many 188 = .ok (.ireturn, 1) := by decide +kernel
def s_X_many_2 : List am_Q := [(64, .aload_n 0, 0, 0, 0, .null), (65, .getfield 10, 11, 0, 145, .null), (68, .getfield 61, 3, 0, 85, .null)]
theorem t_s_X_many_2 : s_X_many_2.all (am_ok 11 cX11_many) = true := by decide +kernel
theorem d_X11_many_71 : decode cX11_many 71 = .ok (.ireturn, 1) := by decide +kernel
def s_X_many_3 : List am_Q := [(72, .aload_n 0, 0, 0, 0, .null), (73, .getfield 10, 11, 0, 145, .null), (76, .getfield 51, 3, 3, 95, .null), (79, .getfield 206, 2, 4, 18, .null)]
theorem t_s_X_many_3 : s_X_many_3.all (am_ok 11 cX11_many) = true := by decide +kernel
theorem d_X11_many_82 : decode cX11_many 82 = .ok (.ireturn, 1) := by decide +kernel
def s_X_many_4 : List am_Q := [(83, .aload_n 0, 0, 0, 0, .null), (84, .getfield 10, 11, 0, 145, .null), (87, .getfield 157, 3, 4, 101, .null), (90, .getfield 328, 1, 5, 34, .null)]
theorem t_s_X_many_4 : s_X_many_4.all (am_ok 11 cX11_many) = true := by decide +kernel
theorem d_X11_many_93 : decode cX11_many 93 = .ok (.ireturn, 1) := by decide +kernel
def s_X_many_5 : List am_Q := [(94, .aload_n 0, 0, 0, 0, .null), (95, .getfield 10, 11, 0, 145, .null), (98, .getfield 157, 3, 4, 101, .null), (101, .getfield 329, 1, 9, 39, .null)]
theorem t_s_X_many_5 : s_X_many_5.all (am_ok 11 cX11_many) = true := by decide +kernel
theorem d_X11_many_104 : decode cX11_many 104 = .ok (.ireturn, 1) := by decide +kernel
def s_X_many_6 : List am_Q := [(105, .aload_n 0, 0, 0, 0, .null), (106, .getfield 10, 11, 0, 145, .null), (109, .getfield 213, 3, 5, 104, .null), (112, .getfield 332, 5, 3, 44, .null)]
theorem t_s_X_many_6 : s_X_many_6.all (am_ok 11 cX11_many) = true := by decide +kernel
theorem d_X11_many_115 : decode cX11_many 115 = .ok (.ireturn, 1) := by decide +kernel
def s_X_many_7 : List am_Q := [(116, .aload_n 0, 0, 0, 0, .null), (117, .getfield 10, 11, 0, 145, .null), (120, .getfield 213, 3, 5, 104, .null), (123, .getfield 335, 5, 7, 53, .null)]
theorem t_s_X_many_7 : s_X_many_7.all (am_ok 11 cX11_many) = true := by decide +kernel
theorem d_X11_many_126 : decode cX11_many 126 = .ok (.ireturn, 1) := by decide +kernel
def s_X_many_8 : List am_Q := [(127, .aload_n 0, 0, 0, 0, .null), (128, .getfield 10, 11, 0, 145, .null), (131, .getfield 249, 3, 6, 106, .null), (134, .getfield 338, 10, 8, 66, .null)]
theorem t_s_X_many_8 : s_X_many_8.all (am_ok 11 cX11_many) = true := by decide +kernel
theorem d_X11_many_137 : decode cX11_many 137 = .ok (.ireturn, 1) := by decide +kernel
def s_X_many_9 : List am_Q := [(138, .aload_n 0, 0, 0, 0, .null), (139, .getfield 10, 11, 0, 145, .null), (142, .getfield 249, 3, 6, 106, .null), (145, .getfield 339, 10, 11, 70, .null)]
theorem t_s_X_many_9 : s_X_many_9.all (am_ok 11 cX11_many) = true := by decide +kernel
theorem d_X11_many_148 : decode cX11_many 148 = .ok (.ireturn, 1) := by decide +kernel
def s_X_many_10 : List am_Q := [(149, .aload_n 0, 0, 0, 0, .null), (150, .getfield 10, 11, 0, 145, .null), (153, .getfield 282, 3, 7, 108, .null), (156, .getfield 342, 8, 3, 75, .null)]
theorem t_s_X_many_10 : s_X_many_10.all (am_ok 11 cX11_many) = true := by decide +kernel
theorem d_X11_many_159 : decode cX11_many 159 = .ok (.ireturn, 1) := by decide +kernel
def s_X_many_11 : List am_Q := [(160, .aload_n 0, 0, 0, 0, .null), (161, .getfield 29, 11, 4, 149, .null), (164, .getfield 317, 7, 1, 124, .null)]
theorem t_s_X_many_11 : s_X_many_11.all (am_ok 11 cX11_many) = true := by decide +kernel
theorem d_X11_many_167 : decode cX11_many 167 = .ok (.ireturn, 1) := by decide +kernel
def s_X_many_12 : List am_Q := [(168, .aload_n 0, 0, 0, 0, .null), (169, .getfield 22, 11, 3, 148, .null), (172, .getfield 343, 9, 2, 112, .null)]
theorem t_s_X_many_12 : s_X_many_12.all (am_ok 11 cX11_many) = true := by decide +kernel
theorem d_X11_many_175 : decode cX11_many 175 = .ok (.ireturn, 1) := by decide +kernel
def s_X_many_13 : List am_Q := [(176, .aload_n 0, 0, 0, 0, .null), (177, .getfield 10, 11, 0, 145, .null), (180, .getfield 51, 3, 3, 95, .null)]
theorem t_s_X_many_13 : s_X_many_13.all (am_ok 11 cX11_many) = true := by decide +kernel
theorem d_X11_many_183 : decode cX11_many 183 = .ok (.invokevirtual 278, 3) := by decide +kernel
theorem d_X11_many_186 : decode cX11_many 186 = .ok (.ireturn, 1) := by decide +kernel
def X_many (τ : am_T) (a1 : Int32) : Option (Int32 × am_T) :=
  if (a1 : Int32).toInt < 0 ∨ 11 < (a1 : Int32).toInt then
  (some ((-1 : Int32), τ))
else
  (if a1 = nI 0 then
  (some ((τ.1 1 0), τ))
else
  (if a1 = nI 1 then
  (some ((τ.1 4 4), τ))
else
  (if a1 = nI 2 then
  (some ((τ.1 25 5), τ))
else
  (if a1 = nI 3 then
  (some ((τ.1 25 9), τ))
else
  (if a1 = nI 4 then
  (some ((τ.1 34 3), τ))
else
  (if a1 = nI 5 then
  (some ((τ.1 34 7), τ))
else
  (if a1 = nI 6 then
  (some ((τ.1 41 8), τ))
else
  (if a1 = nI 7 then
  (some ((τ.1 41 11), τ))
else
  (if a1 = nI 8 then
  (some ((τ.1 52 3), τ))
else
  (if a1 = nI 9 then
  (some ((τ.1 118 1), τ))
else
  (if a1 = nI 10 then
  (some ((τ.1 113 2), τ))
else
  (if a1 = nI 11 then
  ((Fl_allAreas τ).bind (fun x1 =>
  some (x1.1, x1.2)))
else
  (none)))))))))))))
set_option maxRecDepth 20000 in
theorem ok_X_many {X : am_X} {a1 : Int32} {v : Int32} {τ τ' : am_T} (hF : am_F X "ShareHouse" cX11_many 2) (hR : am_R X 1 22) (hB : am_B X (some .int) (some (.int v)) (am_D τ')) (h : X_many τ a1 = some (v, τ')) : am_W X 2 (0, [(0, .ref 0), (1, .int a1)], [], am_D τ) := by
  unfold X_many at h
  refine am_seg s_X_many_0 (y := (1, [(0, .ref 0), (1, .int a1)], [.int a1], am_D τ)) hF t_s_X_many_0 rfl rfl ?_
  refine am_ite h (fun hc h => ?_) (fun hc h => ?_)
  · refine am_tswOut (t := 187) d_X11_many_1 hc (by decide) hF ?_
    refine am_seg s_X_many_1 (y := (188, [(0, .ref 0), (1, .int a1)], [.int (-1 : Int32)], am_D τ)) hF t_s_X_many_1 rfl rfl ?_
    obtain ⟨rfl, rfl⟩ := am_pair h
    exact am_iret d_X11_many_188 hF hB
  · refine am_ite h (fun hc h => ?_) (fun hc h => ?_)
    · refine am_tswIn (y := nI 0) (o := 63) (t := 64) d_X11_many_1 hc (by decide) (by decide) rfl (by decide) hF ?_
      refine am_seg s_X_many_2 (y := (71, [(0, .ref 0), (1, .int a1)], [.int (τ.1 1 0)], am_D τ)) hF t_s_X_many_2 rfl rfl ?_
      obtain ⟨rfl, rfl⟩ := am_pair h
      exact am_iret d_X11_many_71 hF hB
    · refine am_ite h (fun hc h => ?_) (fun hc h => ?_)
      · refine am_tswIn (y := nI 1) (o := 71) (t := 72) d_X11_many_1 hc (by decide) (by decide) rfl (by decide) hF ?_
        refine am_seg s_X_many_3 (y := (82, [(0, .ref 0), (1, .int a1)], [.int (τ.1 4 4)], am_D τ)) hF t_s_X_many_3 rfl rfl ?_
        obtain ⟨rfl, rfl⟩ := am_pair h
        exact am_iret d_X11_many_82 hF hB
      · refine am_ite h (fun hc h => ?_) (fun hc h => ?_)
        · refine am_tswIn (y := nI 2) (o := 82) (t := 83) d_X11_many_1 hc (by decide) (by decide) rfl (by decide) hF ?_
          refine am_seg s_X_many_4 (y := (93, [(0, .ref 0), (1, .int a1)], [.int (τ.1 25 5)], am_D τ)) hF t_s_X_many_4 rfl rfl ?_
          obtain ⟨rfl, rfl⟩ := am_pair h
          exact am_iret d_X11_many_93 hF hB
        · refine am_ite h (fun hc h => ?_) (fun hc h => ?_)
          · refine am_tswIn (y := nI 3) (o := 93) (t := 94) d_X11_many_1 hc (by decide) (by decide) rfl (by decide) hF ?_
            refine am_seg s_X_many_5 (y := (104, [(0, .ref 0), (1, .int a1)], [.int (τ.1 25 9)], am_D τ)) hF t_s_X_many_5 rfl rfl ?_
            obtain ⟨rfl, rfl⟩ := am_pair h
            exact am_iret d_X11_many_104 hF hB
          · refine am_ite h (fun hc h => ?_) (fun hc h => ?_)
            · refine am_tswIn (y := nI 4) (o := 104) (t := 105) d_X11_many_1 hc (by decide) (by decide) rfl (by decide) hF ?_
              refine am_seg s_X_many_6 (y := (115, [(0, .ref 0), (1, .int a1)], [.int (τ.1 34 3)], am_D τ)) hF t_s_X_many_6 rfl rfl ?_
              obtain ⟨rfl, rfl⟩ := am_pair h
              exact am_iret d_X11_many_115 hF hB
            · refine am_ite h (fun hc h => ?_) (fun hc h => ?_)
              · refine am_tswIn (y := nI 5) (o := 115) (t := 116) d_X11_many_1 hc (by decide) (by decide) rfl (by decide) hF ?_
                refine am_seg s_X_many_7 (y := (126, [(0, .ref 0), (1, .int a1)], [.int (τ.1 34 7)], am_D τ)) hF t_s_X_many_7 rfl rfl ?_
                obtain ⟨rfl, rfl⟩ := am_pair h
                exact am_iret d_X11_many_126 hF hB
              · refine am_ite h (fun hc h => ?_) (fun hc h => ?_)
                · refine am_tswIn (y := nI 6) (o := 126) (t := 127) d_X11_many_1 hc (by decide) (by decide) rfl (by decide) hF ?_
                  refine am_seg s_X_many_8 (y := (137, [(0, .ref 0), (1, .int a1)], [.int (τ.1 41 8)], am_D τ)) hF t_s_X_many_8 rfl rfl ?_
                  obtain ⟨rfl, rfl⟩ := am_pair h
                  exact am_iret d_X11_many_137 hF hB
                · refine am_ite h (fun hc h => ?_) (fun hc h => ?_)
                  · refine am_tswIn (y := nI 7) (o := 137) (t := 138) d_X11_many_1 hc (by decide) (by decide) rfl (by decide) hF ?_
                    refine am_seg s_X_many_9 (y := (148, [(0, .ref 0), (1, .int a1)], [.int (τ.1 41 11)], am_D τ)) hF t_s_X_many_9 rfl rfl ?_
                    obtain ⟨rfl, rfl⟩ := am_pair h
                    exact am_iret d_X11_many_148 hF hB
                  · refine am_ite h (fun hc h => ?_) (fun hc h => ?_)
                    · refine am_tswIn (y := nI 8) (o := 148) (t := 149) d_X11_many_1 hc (by decide) (by decide) rfl (by decide) hF ?_
                      refine am_seg s_X_many_10 (y := (159, [(0, .ref 0), (1, .int a1)], [.int (τ.1 52 3)], am_D τ)) hF t_s_X_many_10 rfl rfl ?_
                      obtain ⟨rfl, rfl⟩ := am_pair h
                      exact am_iret d_X11_many_159 hF hB
                    · refine am_ite h (fun hc h => ?_) (fun hc h => ?_)
                      · refine am_tswIn (y := nI 9) (o := 159) (t := 160) d_X11_many_1 hc (by decide) (by decide) rfl (by decide) hF ?_
                        refine am_seg s_X_many_11 (y := (167, [(0, .ref 0), (1, .int a1)], [.int (τ.1 118 1)], am_D τ)) hF t_s_X_many_11 rfl rfl ?_
                        obtain ⟨rfl, rfl⟩ := am_pair h
                        exact am_iret d_X11_many_167 hF hB
                      · refine am_ite h (fun hc h => ?_) (fun hc h => ?_)
                        · refine am_tswIn (y := nI 10) (o := 167) (t := 168) d_X11_many_1 hc (by decide) (by decide) rfl (by decide) hF ?_
                          refine am_seg s_X_many_12 (y := (175, [(0, .ref 0), (1, .int a1)], [.int (τ.1 113 2)], am_D τ)) hF t_s_X_many_12 rfl rfl ?_
                          obtain ⟨rfl, rfl⟩ := am_pair h
                          exact am_iret d_X11_many_175 hF hB
                        · refine am_ite h (fun hc h => ?_) (fun hc h => ?_)
                          · refine am_tswIn (y := nI 11) (o := 175) (t := 176) d_X11_many_1 hc (by decide) (by decide) rfl (by decide) hF ?_
                            refine am_seg s_X_many_13 (y := (183, [(0, .ref 0), (1, .int a1)], [.ref 4], am_D τ)) hF t_s_X_many_13 rfl rfl ?_
                            refine am_bd h (fun x1 hx h => ?_)
                            refine am_callV (As := []) (r := (some (.int x1.1))) (st := []) (σ' := am_D x1.2) (ci := 2) hF hR d_X11_many_183 (c_Fl_allAreas (τ' := x1.2) hx) (Nat.le_refl _) (Nat.le_refl _) wl_X_278 wi_yX2_allAreas we_yX2_allAreas wn_ShareHouse_Flats wc_yX2_allAreas (Nat.le_of_ble_eq_true rfl) (Nat.le_of_ble_eq_true rfl) rfl rfl wy_yX2_allAreas rfl ⟨by decide, by decide⟩ (Nat.le_of_ble_eq_true rfl) ?_
                            obtain ⟨rfl, rfl⟩ := am_pair h
                            exact am_iret d_X11_many_186 hF hB
                          · cases h
theorem c_X_many {a1 : Int32} {v : Int32} {τ τ' : am_T} (h : X_many τ a1 = some (v, τ')) : am_C yX11_many cX11_many 2 (some .int) 1 22 [.ref 0, .int a1] (am_D τ) (some (.int v)) (am_D τ') :=
  am_enter (by decide +kernel) (Nat.le_of_ble_eq_true rfl) ⟨Nat.le_refl _, Nat.le_refl _⟩ (fun X hF hR hB => ok_X_many hF hR hB h)
def s_X_copyZ_0 : List am_Q := [(0, .iconst 0, 0, 0, 0, .int (nI 0)), (1, .istore_n 2, 0, 0, 0, .null)]
theorem t_s_X_copyZ_0 : s_X_copyZ_0.all (am_ok 11 cX11_copy_) = true := by decide +kernel
def s_X_copyZ_1 : List am_Q := [(2, .iload_n 2, 0, 0, 0, .null), (3, .aload_n 0, 0, 0, 0, .null)]
theorem t_s_X_copyZ_1 : s_X_copyZ_1.all (am_ok 11 cX11_copy_) = true := by decide +kernel
theorem d_X11_copy__4 : decode cX11_copy_ 4 = .ok (.arraylength, 1) := by decide +kernel
theorem d_X11_copy__5 : decode cX11_copy_ 5 = .ok (.if_icmp .ge 21, 3) := by decide +kernel
theorem d_X11_copy__26 : decode cX11_copy_ 26 = .ok (.return_, 1) := by decide +kernel
def s_X_copyZ_2 : List am_Q := [(8, .iload_n 2, 0, 0, 0, .null), (9, .aload_n 1, 0, 0, 0, .null)]
theorem t_s_X_copyZ_2 : s_X_copyZ_2.all (am_ok 11 cX11_copy_) = true := by decide +kernel
theorem d_X11_copy__10 : decode cX11_copy_ 10 = .ok (.arraylength, 1) := by decide +kernel
theorem d_X11_copy__11 : decode cX11_copy_ 11 = .ok (.if_icmp .ge 15, 3) := by decide +kernel
def s_X_copyZ_3 : List am_Q := [(14, .aload_n 1, 0, 0, 0, .null), (15, .iload_n 2, 0, 0, 0, .null), (16, .aload_n 0, 0, 0, 0, .null), (17, .iload_n 2, 0, 0, 0, .null)]
theorem t_s_X_copyZ_3 : s_X_copyZ_3.all (am_ok 11 cX11_copy_) = true := by decide +kernel
theorem d_X11_copy__18 : decode cX11_copy_ 18 = .ok (.baload, 1) := by decide +kernel
theorem d_X11_copy__19 : decode cX11_copy_ 19 = .ok (.bastore, 1) := by decide +kernel
def s_X_copyZ_4 : List am_Q := [(20, .iinc 2 1, 0, 0, 0, .int (nI 1)), (23, .goto (-21), 2, 0, 0, .null)]
theorem t_s_X_copyZ_4 : s_X_copyZ_4.all (am_ok 11 cX11_copy_) = true := by decide +kernel
def X_copyZ_2 : Nat → am_T → Nat → Nat → Int32 → Option (am_T)
  | 0, _, _, _, _ => none
  | n + 1, τ, a0, a1, a2 =>
    am_g (am_isZ a0) (if (Int32.ofNat (am_sh a0).2) ≤ a2 then
  (some τ)
else
  (am_g (am_isZ a1) (if (Int32.ofNat (am_sh a1).2) ≤ a2 then
  (some τ)
else
  (am_g (am_isZ a0) (am_g (am_in a2 (am_sh a0).2) (am_g (am_isZ a1) (am_g (am_in a2 (am_sh a1).2) (am_g (am_z01 (τ.1 a0 (a2.toNatClampNeg))) ((X_copyZ_2 n) (am_si τ a1 (a2.toNatClampNeg) (τ.1 a0 (a2.toNatClampNeg))) a0 a1 (a2 + (nI 1)))))))))))
set_option maxRecDepth 20000 in
theorem ok_X_copyZ_2 {X : am_X} {τ' : am_T} (hF : am_F X "ShareHouse" cX11_copy_ 3) (hR : am_R X 0 0) (hB : am_B X none none (am_D τ')) : ∀ (n : Nat) (τ : am_T) (a0 : Nat) (a1 : Nat) (a2 : Int32), X_copyZ_2 n τ a0 a1 a2 = some τ' → am_W X 3 (2, [(0, .ref a0), (1, .ref a1), (2, .int a2)], [], am_D τ) := by
  intro n
  induction n with
  | zero => intro τ a0 a1 a2 h; unfold X_copyZ_2 at h; cases h
  | succ n ih =>
    intro τ a0 a1 a2 h
    unfold X_copyZ_2 at h
    refine am_seg s_X_copyZ_1 (y := (4, [(0, .ref a0), (1, .ref a1), (2, .int a2)], [.ref a0, .int a2], am_D τ)) hF t_s_X_copyZ_1 rfl rfl ?_
    refine am_gd h (fun hg h => ?_)
    refine am_alen d_X11_copy__4 (am_isZ_of hg).1 (am_isZ_of hg).2.1 (am_isZ_of hg).2.2 (by decide) (by decide) hF ?_
    refine am_ite h (fun hc h => ?_) (fun hc h => ?_)
    · refine am_icmp_ge_t (t := 26) d_X11_copy__5 (by decide) hc hF ?_
      obtain rfl := am_one h
      exact am_vret d_X11_copy__26 hF hB
    · refine am_icmp_ge_f (t := 26) d_X11_copy__5 (by decide) hc hF ?_
      refine am_seg s_X_copyZ_2 (y := (10, [(0, .ref a0), (1, .ref a1), (2, .int a2)], [.ref a1, .int a2], am_D τ)) hF t_s_X_copyZ_2 rfl rfl ?_
      refine am_gd h (fun hg h => ?_)
      refine am_alen d_X11_copy__10 (am_isZ_of hg).1 (am_isZ_of hg).2.1 (am_isZ_of hg).2.2 (by decide) (by decide) hF ?_
      refine am_ite h (fun hc h => ?_) (fun hc h => ?_)
      · refine am_icmp_ge_t (t := 26) d_X11_copy__11 (by decide) hc hF ?_
        obtain rfl := am_one h
        exact am_vret d_X11_copy__26 hF hB
      · refine am_icmp_ge_f (t := 26) d_X11_copy__11 (by decide) hc hF ?_
        refine am_seg s_X_copyZ_3 (y := (18, [(0, .ref a0), (1, .ref a1), (2, .int a2)], [.int a2, .ref a0, .int a2, .ref a1], am_D τ)) hF t_s_X_copyZ_3 rfl rfl ?_
        refine am_gd h (fun hg h => ?_)
        refine am_gd h (fun hi h => ?_)
        refine am_zald (n := (am_sh a0).2) (j := (a2.toNatClampNeg)) d_X11_copy__18 (am_isZ_of hg).1 (am_isZ_of hg).2.1 (am_isZ_of hg).2.2 hi rfl hF ?_
        refine am_gd h (fun hg h => ?_)
        refine am_gd h (fun hi h => ?_)
        refine am_gd h (fun hz h => ?_)
        refine am_zast (n := (am_sh a1).2) (j := (a2.toNatClampNeg)) d_X11_copy__19 (am_isZ_of hg).1 (am_isZ_of hg).2.1 (am_isZ_of hg).2.2 hi rfl (am_z01_of hz) hF ?_
        refine am_seg s_X_copyZ_4 (y := (2, [(2, .int (a2 + (nI 1))), (0, .ref a0), (1, .ref a1)], [], am_D (am_si τ a1 (a2.toNatClampNeg) (τ.1 a0 (a2.toNatClampNeg))))) hF t_s_X_copyZ_4 rfl rfl ?_
        refine am_pick [1, 2, 0] rfl ?_
        exact ih _ _ _ _ h
def X_copyZ (τ : am_T) (a0 : Nat) (a1 : Nat) : Option (am_T) :=
  X_copyZ_2 5000 τ a0 a1 (nI 0)
set_option maxRecDepth 20000 in
theorem ok_X_copyZ {X : am_X} {a0 : Nat} {a1 : Nat} {τ τ' : am_T} (hF : am_F X "ShareHouse" cX11_copy_ 3) (hR : am_R X 0 0) (hB : am_B X none none (am_D τ')) (h : X_copyZ τ a0 a1 = some τ') : am_W X 3 (0, [(0, .ref a0), (1, .ref a1)], [], am_D τ) := by
  unfold X_copyZ at h
  refine am_seg s_X_copyZ_0 (y := (2, [(2, .int (nI 0)), (0, .ref a0), (1, .ref a1)], [], am_D τ)) hF t_s_X_copyZ_0 rfl rfl ?_
  refine am_pick [1, 2, 0] rfl ?_
  exact ok_X_copyZ_2 hF hR hB _ _ _ _ _ h
theorem c_X_copyZ {a0 : Nat} {a1 : Nat} {τ τ' : am_T} (h : X_copyZ τ a0 a1 = some τ') : am_C yX11_copy_ cX11_copy_ 3 none 0 0 [.ref a0, .ref a1] (am_D τ) none (am_D τ') :=
  am_enter (by decide +kernel) (Nat.le_of_ble_eq_true rfl) ⟨Nat.le_refl _, Nat.le_refl _⟩ (fun X hF hR hB => ok_X_copyZ hF hR hB h)
def s_Fl_become_60_0 : List am_Q := [(0, .aload_n 1, 0, 0, 0, .null), (1, .getfield 9, 2, 0, 4, .null), (4, .aload_n 0, 0, 0, 0, .null), (5, .getfield 9, 2, 0, 4, .null)]
theorem t_s_Fl_become_60_0 : s_Fl_become_60_0.all (am_ok 2 cX2_become) = true := by decide +kernel
theorem d_X2_become_8 : decode cX2_become 8 = .ok (.invokestatic 29, 3) := by decide +kernel
def s_Fl_become_60_1 : List am_Q := [(11, .aload_n 1, 0, 0, 0, .null), (12, .getfield 15, 2, 1, 7, .null), (15, .aload_n 0, 0, 0, 0, .null), (16, .getfield 15, 2, 1, 7, .null)]
theorem t_s_Fl_become_60_1 : s_Fl_become_60_1.all (am_ok 2 cX2_become) = true := by decide +kernel
theorem d_X2_become_19 : decode cX2_become 19 = .ok (.invokestatic 29, 3) := by decide +kernel
def s_Fl_become_60_2 : List am_Q := [(22, .aload_n 1, 0, 0, 0, .null), (23, .getfield 18, 2, 2, 10, .null), (26, .aload_n 0, 0, 0, 0, .null), (27, .getfield 18, 2, 2, 10, .null)]
theorem t_s_Fl_become_60_2 : s_Fl_become_60_2.all (am_ok 2 cX2_become) = true := by decide +kernel
theorem d_X2_become_30 : decode cX2_become 30 = .ok (.invokestatic 33, 3) := by decide +kernel
def s_Fl_become_60_3 : List am_Q := [(33, .iconst 0, 0, 0, 0, .int (nI 0)), (34, .istore_n 2, 0, 0, 0, .null)]
theorem t_s_Fl_become_60_3 : s_Fl_become_60_3.all (am_ok 2 cX2_become) = true := by decide +kernel
def s_Fl_become_60_4 : List am_Q := [(35, .iload_n 2, 0, 0, 0, .null), (36, .bipush 8, 0, 0, 0, .int (nI 8))]
theorem t_s_Fl_become_60_4 : s_Fl_become_60_4.all (am_ok 2 cX2_become) = true := by decide +kernel
theorem d_X2_become_38 : decode cX2_become 38 = .ok (.if_icmp .ge 24, 3) := by decide +kernel
def s_Fl_become_60_5 : List am_Q := [(62, .aload_n 0, 0, 0, 0, .null), (63, .aload_n 1, 0, 0, 0, .null), (64, .getfield 40, 2, 4, 16, .null), (67, .putfield 40, 2, 4, 16, .null)]
theorem t_s_Fl_become_60_5 : s_Fl_become_60_5.all (am_ok 2 cX2_become) = true := by decide +kernel
theorem d_X2_become_70 : decode cX2_become 70 = .ok (.return_, 1) := by decide +kernel
def s_Fl_become_60_6 : List am_Q := [(41, .aload_n 0, 0, 0, 0, .null), (42, .getfield 24, 2, 3, 12, .null), (45, .iload_n 2, 0, 0, 0, .null)]
theorem t_s_Fl_become_60_6 : s_Fl_become_60_6.all (am_ok 2 cX2_become) = true := by decide +kernel
theorem d_X2_become_46 : decode cX2_become 46 = .ok (.aaload, 1) := by decide +kernel
def s_Fl_become_60_7 : List am_Q := [(47, .aload_n 1, 0, 0, 0, .null), (48, .getfield 24, 2, 3, 12, .null), (51, .iload_n 2, 0, 0, 0, .null)]
theorem t_s_Fl_become_60_7 : s_Fl_become_60_7.all (am_ok 2 cX2_become) = true := by decide +kernel
theorem d_X2_become_52 : decode cX2_become 52 = .ok (.aaload, 1) := by decide +kernel
theorem d_X2_become_53 : decode cX2_become 53 = .ok (.invokevirtual 36, 3) := by decide +kernel
def s_Fl_become_60_8 : List am_Q := [(56, .iinc 2 1, 0, 0, 0, .int (nI 1)), (59, .goto (-24), 35, 0, 0, .null)]
theorem t_s_Fl_become_60_8 : s_Fl_become_60_8.all (am_ok 2 cX2_become) = true := by decide +kernel
def Fl_become_60_35 : Nat → am_T → Int32 → Option (am_T)
  | 0, _, _ => none
  | n + 1, τ, a2 =>
    if (nI 8) ≤ a2 then
  (some (am_si τ 60 4 (τ.1 4 4)))
else
  (am_g (am_in a2 8) ((am_RF 64 (a2.toNatClampNeg)).bind (fun q4 =>
  am_g (am_in a2 8) ((am_RF 8 (a2.toNatClampNeg)).bind (fun q5 =>
  am_g (am_isO q4 4) ((Le_become τ q4 q5).bind (fun x6 =>
  (Fl_become_60_35 n) x6 (a2 + (nI 1)))))))))
set_option maxRecDepth 20000 in
theorem ok_Fl_become_60_35 {X : am_X} {τ' : am_T} (hF : am_F X "ShareHouse$Flats" cX2_become 3) (hR : am_R X 3 82) (hB : am_B X none none (am_D τ')) : ∀ (n : Nat) (τ : am_T) (a2 : Int32), Fl_become_60_35 n τ a2 = some τ' → am_W X 3 (35, [(0, .ref 60), (1, .ref 4), (2, .int a2)], [], am_D τ) := by
  intro n
  induction n with
  | zero => intro τ a2 h; unfold Fl_become_60_35 at h; cases h
  | succ n ih =>
    intro τ a2 h
    unfold Fl_become_60_35 at h
    refine am_seg s_Fl_become_60_4 (y := (38, [(0, .ref 60), (1, .ref 4), (2, .int a2)], [.int (nI 8), .int a2], am_D τ)) hF t_s_Fl_become_60_4 rfl rfl ?_
    refine am_ite h (fun hc h => ?_) (fun hc h => ?_)
    · refine am_icmp_ge_t (t := 62) d_X2_become_38 (by decide) hc hF ?_
      refine am_seg s_Fl_become_60_5 (y := (70, [(0, .ref 60), (1, .ref 4), (2, .int a2)], [], am_D (am_si τ 60 4 (τ.1 4 4)))) hF t_s_Fl_become_60_5 rfl rfl ?_
      obtain rfl := am_one h
      exact am_vret d_X2_become_70 hF hB
    · refine am_icmp_ge_f (t := 62) d_X2_become_38 (by decide) hc hF ?_
      refine am_seg s_Fl_become_60_6 (y := (46, [(0, .ref 60), (1, .ref 4), (2, .int a2)], [.int a2, .ref 64], am_D τ)) hF t_s_Fl_become_60_6 rfl rfl ?_
      refine am_gd h (fun hi h => ?_)
      refine am_bd h (fun q4 hq h => ?_)
      refine am_aald (n := 8) (j := (a2.toNatClampNeg)) (q := q4) d_X2_become_46 (Nat.le_of_ble_eq_true rfl) (Nat.le_of_ble_eq_true rfl) rfl hi rfl hq hF ?_
      refine am_seg s_Fl_become_60_7 (y := (52, [(0, .ref 60), (1, .ref 4), (2, .int a2)], [.int a2, .ref 8, .ref q4], am_D τ)) hF t_s_Fl_become_60_7 rfl rfl ?_
      refine am_gd h (fun hi h => ?_)
      refine am_bd h (fun q5 hq h => ?_)
      refine am_aald (n := 8) (j := (a2.toNatClampNeg)) (q := q5) d_X2_become_52 (Nat.le_of_ble_eq_true rfl) (Nat.le_of_ble_eq_true rfl) rfl hi rfl hq hF ?_
      refine am_gd h (fun hg h => ?_)
      refine am_bd h (fun x6 hx h => ?_)
      refine am_callV (As := [.ref q5]) (r := none) (st := []) (σ' := am_D x6) (ci := 4) hF hR d_X2_become_53 (c_Le_become (τ' := x6) hx) (Nat.le_refl _) (Nat.le_refl _) wl_Fl_36 wi_yX4_become we_yX4_become wn_ShareHouse_Lease wc_yX4_become (am_isO_of hg).1 (am_isO_of hg).2.1 (am_isO_of hg).2.2 rfl wy_yX4_become rfl ⟨by decide, by decide⟩ (Nat.le_of_ble_eq_true rfl) ?_
      refine am_seg s_Fl_become_60_8 (y := (35, [(2, .int (a2 + (nI 1))), (0, .ref 60), (1, .ref 4)], [], am_D x6)) hF t_s_Fl_become_60_8 rfl rfl ?_
      refine am_pick [1, 2, 0] rfl ?_
      exact ih _ _ h
def Fl_become_60 (τ : am_T) : Option (am_T) :=
  (X_copyI τ 5 61).bind (fun x1 =>
  (X_copyI x1 6 62).bind (fun x2 =>
  (X_copyZ x2 7 63).bind (fun x3 =>
  Fl_become_60_35 5000 x3 (nI 0))))
set_option maxRecDepth 20000 in
theorem ok_Fl_become_60 {X : am_X} {τ τ' : am_T} (hF : am_F X "ShareHouse$Flats" cX2_become 3) (hR : am_R X 3 82) (hB : am_B X none none (am_D τ')) (h : Fl_become_60 τ = some τ') : am_W X 3 (0, [(0, .ref 60), (1, .ref 4)], [], am_D τ) := by
  unfold Fl_become_60 at h
  refine am_seg s_Fl_become_60_0 (y := (8, [(0, .ref 60), (1, .ref 4)], [.ref 61, .ref 5], am_D τ)) hF t_s_Fl_become_60_0 rfl rfl ?_
  refine am_bd h (fun x1 hx h => ?_)
  refine am_callSN (As := [.ref 5, .ref 61]) (r := none) (st := []) (σ' := am_D x1) (host := "ShareHouse") hF hR d_X2_become_8 (c_X_copyI (τ' := x1) hx) (Nat.le_refl _) (Nat.le_refl _) wk_Fl_29 ws_yX11_copy wn_ShareHouse wc_yX11_copy wy_yX11_copy rfl ⟨by decide, by decide⟩ (Nat.le_of_ble_eq_true rfl) ?_
  refine am_seg s_Fl_become_60_1 (y := (19, [(0, .ref 60), (1, .ref 4)], [.ref 62, .ref 6], am_D x1)) hF t_s_Fl_become_60_1 rfl rfl ?_
  refine am_bd h (fun x2 hx h => ?_)
  refine am_callSN (As := [.ref 6, .ref 62]) (r := none) (st := []) (σ' := am_D x2) (host := "ShareHouse") hF hR d_X2_become_19 (c_X_copyI (τ' := x2) hx) (Nat.le_refl _) (Nat.le_refl _) wk_Fl_29 ws_yX11_copy wn_ShareHouse wc_yX11_copy wy_yX11_copy rfl ⟨by decide, by decide⟩ (Nat.le_of_ble_eq_true rfl) ?_
  refine am_seg s_Fl_become_60_2 (y := (30, [(0, .ref 60), (1, .ref 4)], [.ref 63, .ref 7], am_D x2)) hF t_s_Fl_become_60_2 rfl rfl ?_
  refine am_bd h (fun x3 hx h => ?_)
  refine am_callSN (As := [.ref 7, .ref 63]) (r := none) (st := []) (σ' := am_D x3) (host := "ShareHouse") hF hR d_X2_become_30 (c_X_copyZ (τ' := x3) hx) (Nat.le_refl _) (Nat.le_refl _) wk_Fl_33 ws_yX11_copy_ wn_ShareHouse wc_yX11_copy_ wy_yX11_copy_ rfl ⟨by decide, by decide⟩ (Nat.le_of_ble_eq_true rfl) ?_
  refine am_seg s_Fl_become_60_3 (y := (35, [(2, .int (nI 0)), (0, .ref 60), (1, .ref 4)], [], am_D x3)) hF t_s_Fl_become_60_3 rfl rfl ?_
  refine am_pick [1, 2, 0] rfl ?_
  exact ok_Fl_become_60_35 hF hR hB _ _ _ h
theorem c_Fl_become_60 {τ τ' : am_T} (h : Fl_become_60 τ = some τ') : am_C yX2_become cX2_become 3 none 3 82 [.ref 60, .ref 4] (am_D τ) none (am_D τ') :=
  am_enter (by decide +kernel) (Nat.le_of_ble_eq_true rfl) ⟨Nat.le_refl _, Nat.le_refl _⟩ (fun X hF hR hB => ok_Fl_become_60 hF hR hB h)
def s_Co_become_81_0 : List am_Q := [(0, .aload_n 1, 0, 0, 0, .null), (1, .getfield 9, 1, 0, 19, .null), (4, .aload_n 0, 0, 0, 0, .null), (5, .getfield 9, 1, 0, 19, .null)]
theorem t_s_Co_become_81_0 : s_Co_become_81_0.all (am_ok 1 cX1_become) = true := by decide +kernel
theorem d_X1_become_8 : decode cX1_become 8 = .ok (.invokestatic 37, 3) := by decide +kernel
def s_Co_become_81_1 : List am_Q := [(11, .aload_n 1, 0, 0, 0, .null), (12, .getfield 15, 1, 1, 22, .null), (15, .aload_n 0, 0, 0, 0, .null), (16, .getfield 15, 1, 1, 22, .null)]
theorem t_s_Co_become_81_1 : s_Co_become_81_1.all (am_ok 1 cX1_become) = true := by decide +kernel
theorem d_X1_become_19 : decode cX1_become 19 = .ok (.invokestatic 37, 3) := by decide +kernel
def s_Co_become_81_2 : List am_Q := [(22, .aload_n 1, 0, 0, 0, .null), (23, .getfield 18, 1, 2, 25, .null), (26, .aload_n 0, 0, 0, 0, .null), (27, .getfield 18, 1, 2, 25, .null)]
theorem t_s_Co_become_81_2 : s_Co_become_81_2.all (am_ok 1 cX1_become) = true := by decide +kernel
theorem d_X1_become_30 : decode cX1_become 30 = .ok (.invokestatic 37, 3) := by decide +kernel
def s_Co_become_81_3 : List am_Q := [(33, .aload_n 1, 0, 0, 0, .null), (34, .getfield 21, 1, 3, 27, .null), (37, .aload_n 0, 0, 0, 0, .null), (38, .getfield 21, 1, 3, 27, .null)]
theorem t_s_Co_become_81_3 : s_Co_become_81_3.all (am_ok 1 cX1_become) = true := by decide +kernel
theorem d_X1_become_41 : decode cX1_become 41 = .ok (.invokestatic 37, 3) := by decide +kernel
def s_Co_become_81_4 : List am_Q := [(44, .aload_n 1, 0, 0, 0, .null), (45, .getfield 24, 1, 4, 29, .null), (48, .aload_n 0, 0, 0, 0, .null), (49, .getfield 24, 1, 4, 29, .null)]
theorem t_s_Co_become_81_4 : s_Co_become_81_4.all (am_ok 1 cX1_become) = true := by decide +kernel
theorem d_X1_become_52 : decode cX1_become 52 = .ok (.invokestatic 41, 3) := by decide +kernel
def s_Co_become_81_5 : List am_Q := [(55, .aload_n 0, 0, 0, 0, .null), (56, .aload_n 1, 0, 0, 0, .null), (57, .getfield 44, 1, 5, 33, .null), (60, .putfield 44, 1, 5, 33, .null), (63, .aload_n 1, 0, 0, 0, .null), (64, .getfield 28, 1, 6, 35, .null), (67, .aload_n 0, 0, 0, 0, .null), (68, .getfield 28, 1, 6, 35, .null)]
theorem t_s_Co_become_81_5 : s_Co_become_81_5.all (am_ok 1 cX1_become) = true := by decide +kernel
theorem d_X1_become_71 : decode cX1_become 71 = .ok (.invokestatic 37, 3) := by decide +kernel
def s_Co_become_81_6 : List am_Q := [(74, .aload_n 1, 0, 0, 0, .null), (75, .getfield 31, 1, 7, 36, .null), (78, .aload_n 0, 0, 0, 0, .null), (79, .getfield 31, 1, 7, 36, .null)]
theorem t_s_Co_become_81_6 : s_Co_become_81_6.all (am_ok 1 cX1_become) = true := by decide +kernel
theorem d_X1_become_82 : decode cX1_become 82 = .ok (.invokestatic 37, 3) := by decide +kernel
def s_Co_become_81_7 : List am_Q := [(85, .aload_n 1, 0, 0, 0, .null), (86, .getfield 34, 1, 8, 37, .null), (89, .aload_n 0, 0, 0, 0, .null), (90, .getfield 34, 1, 8, 37, .null)]
theorem t_s_Co_become_81_7 : s_Co_become_81_7.all (am_ok 1 cX1_become) = true := by decide +kernel
theorem d_X1_become_93 : decode cX1_become 93 = .ok (.invokestatic 37, 3) := by decide +kernel
def s_Co_become_81_8 : List am_Q := [(96, .aload_n 0, 0, 0, 0, .null), (97, .aload_n 1, 0, 0, 0, .null), (98, .getfield 48, 1, 9, 38, .null), (101, .putfield 48, 1, 9, 38, .null)]
theorem t_s_Co_become_81_8 : s_Co_become_81_8.all (am_ok 1 cX1_become) = true := by decide +kernel
theorem d_X1_become_104 : decode cX1_become 104 = .ok (.return_, 1) := by decide +kernel
def Co_become_81 (τ : am_T) : Option (am_T) :=
  (X_copyI τ 26 82).bind (fun x1 =>
  (X_copyI x1 27 83).bind (fun x2 =>
  (X_copyI x2 28 84).bind (fun x3 =>
  (X_copyI x3 29 85).bind (fun x4 =>
  (X_copyZ x4 30 86).bind (fun x5 =>
  (X_copyI (am_si x5 81 5 (x5.1 25 5)) 31 87).bind (fun x6 =>
  (X_copyI x6 32 88).bind (fun x7 =>
  (X_copyI x7 33 89).bind (fun x8 =>
  some (am_si x8 81 9 (x8.1 25 9))))))))))
set_option maxRecDepth 20000 in
theorem ok_Co_become_81 {X : am_X} {τ τ' : am_T} (hF : am_F X "ShareHouse$Costs" cX1_become 2) (hR : am_R X 2 61) (hB : am_B X none none (am_D τ')) (h : Co_become_81 τ = some τ') : am_W X 2 (0, [(0, .ref 81), (1, .ref 25)], [], am_D τ) := by
  unfold Co_become_81 at h
  refine am_seg s_Co_become_81_0 (y := (8, [(0, .ref 81), (1, .ref 25)], [.ref 82, .ref 26], am_D τ)) hF t_s_Co_become_81_0 rfl rfl ?_
  refine am_bd h (fun x1 hx h => ?_)
  refine am_callSN (As := [.ref 26, .ref 82]) (r := none) (st := []) (σ' := am_D x1) (host := "ShareHouse") hF hR d_X1_become_8 (c_X_copyI (τ' := x1) hx) (Nat.le_refl _) (Nat.le_refl _) wk_Co_37 ws_yX11_copy wn_ShareHouse wc_yX11_copy wy_yX11_copy rfl ⟨by decide, by decide⟩ (Nat.le_of_ble_eq_true rfl) ?_
  refine am_seg s_Co_become_81_1 (y := (19, [(0, .ref 81), (1, .ref 25)], [.ref 83, .ref 27], am_D x1)) hF t_s_Co_become_81_1 rfl rfl ?_
  refine am_bd h (fun x2 hx h => ?_)
  refine am_callSN (As := [.ref 27, .ref 83]) (r := none) (st := []) (σ' := am_D x2) (host := "ShareHouse") hF hR d_X1_become_19 (c_X_copyI (τ' := x2) hx) (Nat.le_refl _) (Nat.le_refl _) wk_Co_37 ws_yX11_copy wn_ShareHouse wc_yX11_copy wy_yX11_copy rfl ⟨by decide, by decide⟩ (Nat.le_of_ble_eq_true rfl) ?_
  refine am_seg s_Co_become_81_2 (y := (30, [(0, .ref 81), (1, .ref 25)], [.ref 84, .ref 28], am_D x2)) hF t_s_Co_become_81_2 rfl rfl ?_
  refine am_bd h (fun x3 hx h => ?_)
  refine am_callSN (As := [.ref 28, .ref 84]) (r := none) (st := []) (σ' := am_D x3) (host := "ShareHouse") hF hR d_X1_become_30 (c_X_copyI (τ' := x3) hx) (Nat.le_refl _) (Nat.le_refl _) wk_Co_37 ws_yX11_copy wn_ShareHouse wc_yX11_copy wy_yX11_copy rfl ⟨by decide, by decide⟩ (Nat.le_of_ble_eq_true rfl) ?_
  refine am_seg s_Co_become_81_3 (y := (41, [(0, .ref 81), (1, .ref 25)], [.ref 85, .ref 29], am_D x3)) hF t_s_Co_become_81_3 rfl rfl ?_
  refine am_bd h (fun x4 hx h => ?_)
  refine am_callSN (As := [.ref 29, .ref 85]) (r := none) (st := []) (σ' := am_D x4) (host := "ShareHouse") hF hR d_X1_become_41 (c_X_copyI (τ' := x4) hx) (Nat.le_refl _) (Nat.le_refl _) wk_Co_37 ws_yX11_copy wn_ShareHouse wc_yX11_copy wy_yX11_copy rfl ⟨by decide, by decide⟩ (Nat.le_of_ble_eq_true rfl) ?_
  refine am_seg s_Co_become_81_4 (y := (52, [(0, .ref 81), (1, .ref 25)], [.ref 86, .ref 30], am_D x4)) hF t_s_Co_become_81_4 rfl rfl ?_
  refine am_bd h (fun x5 hx h => ?_)
  refine am_callSN (As := [.ref 30, .ref 86]) (r := none) (st := []) (σ' := am_D x5) (host := "ShareHouse") hF hR d_X1_become_52 (c_X_copyZ (τ' := x5) hx) (Nat.le_refl _) (Nat.le_refl _) wk_Co_41 ws_yX11_copy_ wn_ShareHouse wc_yX11_copy_ wy_yX11_copy_ rfl ⟨by decide, by decide⟩ (Nat.le_of_ble_eq_true rfl) ?_
  refine am_seg s_Co_become_81_5 (y := (71, [(0, .ref 81), (1, .ref 25)], [.ref 87, .ref 31], am_D (am_si x5 81 5 (x5.1 25 5)))) hF t_s_Co_become_81_5 rfl rfl ?_
  refine am_bd h (fun x6 hx h => ?_)
  refine am_callSN (As := [.ref 31, .ref 87]) (r := none) (st := []) (σ' := am_D x6) (host := "ShareHouse") hF hR d_X1_become_71 (c_X_copyI (τ' := x6) hx) (Nat.le_refl _) (Nat.le_refl _) wk_Co_37 ws_yX11_copy wn_ShareHouse wc_yX11_copy wy_yX11_copy rfl ⟨by decide, by decide⟩ (Nat.le_of_ble_eq_true rfl) ?_
  refine am_seg s_Co_become_81_6 (y := (82, [(0, .ref 81), (1, .ref 25)], [.ref 88, .ref 32], am_D x6)) hF t_s_Co_become_81_6 rfl rfl ?_
  refine am_bd h (fun x7 hx h => ?_)
  refine am_callSN (As := [.ref 32, .ref 88]) (r := none) (st := []) (σ' := am_D x7) (host := "ShareHouse") hF hR d_X1_become_82 (c_X_copyI (τ' := x7) hx) (Nat.le_refl _) (Nat.le_refl _) wk_Co_37 ws_yX11_copy wn_ShareHouse wc_yX11_copy wy_yX11_copy rfl ⟨by decide, by decide⟩ (Nat.le_of_ble_eq_true rfl) ?_
  refine am_seg s_Co_become_81_7 (y := (93, [(0, .ref 81), (1, .ref 25)], [.ref 89, .ref 33], am_D x7)) hF t_s_Co_become_81_7 rfl rfl ?_
  refine am_bd h (fun x8 hx h => ?_)
  refine am_callSN (As := [.ref 33, .ref 89]) (r := none) (st := []) (σ' := am_D x8) (host := "ShareHouse") hF hR d_X1_become_93 (c_X_copyI (τ' := x8) hx) (Nat.le_refl _) (Nat.le_refl _) wk_Co_37 ws_yX11_copy wn_ShareHouse wc_yX11_copy wy_yX11_copy rfl ⟨by decide, by decide⟩ (Nat.le_of_ble_eq_true rfl) ?_
  refine am_seg s_Co_become_81_8 (y := (104, [(0, .ref 81), (1, .ref 25)], [], am_D (am_si x8 81 9 (x8.1 25 9)))) hF t_s_Co_become_81_8 rfl rfl ?_
  obtain rfl := am_one h
  exact am_vret d_X1_become_104 hF hB
theorem c_Co_become_81 {τ τ' : am_T} (h : Co_become_81 τ = some τ') : am_C yX1_become cX1_become 2 none 2 61 [.ref 81, .ref 25] (am_D τ) none (am_D τ') :=
  am_enter (by decide +kernel) (Nat.le_of_ble_eq_true rfl) ⟨Nat.le_refl _, Nat.le_refl _⟩ (fun X hF hR hB => ok_Co_become_81 hF hR hB h)
def s_Ow_become_90_0 : List am_Q := [(0, .aload_n 1, 0, 0, 0, .null), (1, .getfield 11, 5, 0, 40, .null), (4, .aload_n 0, 0, 0, 0, .null), (5, .getfield 11, 5, 0, 40, .null)]
theorem t_s_Ow_become_90_0 : s_Ow_become_90_0.all (am_ok 5 cX5_become) = true := by decide +kernel
theorem d_X5_become_8 : decode cX5_become 8 = .ok (.invokestatic 30, 3) := by decide +kernel
def s_Ow_become_90_1 : List am_Q := [(11, .aload_n 1, 0, 0, 0, .null), (12, .getfield 15, 5, 1, 41, .null), (15, .aload_n 0, 0, 0, 0, .null), (16, .getfield 15, 5, 1, 41, .null)]
theorem t_s_Ow_become_90_1 : s_Ow_become_90_1.all (am_ok 5 cX5_become) = true := by decide +kernel
theorem d_X5_become_19 : decode cX5_become 19 = .ok (.invokestatic 30, 3) := by decide +kernel
def s_Ow_become_90_2 : List am_Q := [(22, .aload_n 1, 0, 0, 0, .null), (23, .getfield 18, 5, 2, 42, .null), (26, .aload_n 0, 0, 0, 0, .null), (27, .getfield 18, 5, 2, 42, .null)]
theorem t_s_Ow_become_90_2 : s_Ow_become_90_2.all (am_ok 5 cX5_become) = true := by decide +kernel
theorem d_X5_become_30 : decode cX5_become 30 = .ok (.invokestatic 30, 3) := by decide +kernel
def s_Ow_become_90_3 : List am_Q := [(33, .aload_n 0, 0, 0, 0, .null), (34, .aload_n 1, 0, 0, 0, .null), (35, .getfield 34, 5, 3, 43, .null), (38, .putfield 34, 5, 3, 43, .null), (41, .aload_n 1, 0, 0, 0, .null), (42, .getfield 21, 5, 4, 45, .null), (45, .aload_n 0, 0, 0, 0, .null), (46, .getfield 21, 5, 4, 45, .null)]
theorem t_s_Ow_become_90_3 : s_Ow_become_90_3.all (am_ok 5 cX5_become) = true := by decide +kernel
theorem d_X5_become_49 : decode cX5_become 49 = .ok (.invokestatic 30, 3) := by decide +kernel
def s_Ow_become_90_4 : List am_Q := [(52, .aload_n 1, 0, 0, 0, .null), (53, .getfield 24, 5, 5, 47, .null), (56, .aload_n 0, 0, 0, 0, .null), (57, .getfield 24, 5, 5, 47, .null)]
theorem t_s_Ow_become_90_4 : s_Ow_become_90_4.all (am_ok 5 cX5_become) = true := by decide +kernel
theorem d_X5_become_60 : decode cX5_become 60 = .ok (.invokestatic 30, 3) := by decide +kernel
def s_Ow_become_90_5 : List am_Q := [(63, .aload_n 1, 0, 0, 0, .null), (64, .getfield 27, 5, 6, 49, .null), (67, .aload_n 0, 0, 0, 0, .null), (68, .getfield 27, 5, 6, 49, .null)]
theorem t_s_Ow_become_90_5 : s_Ow_become_90_5.all (am_ok 5 cX5_become) = true := by decide +kernel
theorem d_X5_become_71 : decode cX5_become 71 = .ok (.invokestatic 30, 3) := by decide +kernel
def s_Ow_become_90_6 : List am_Q := [(74, .aload_n 0, 0, 0, 0, .null), (75, .aload_n 1, 0, 0, 0, .null), (76, .getfield 38, 5, 7, 51, .null), (79, .putfield 38, 5, 7, 51, .null)]
theorem t_s_Ow_become_90_6 : s_Ow_become_90_6.all (am_ok 5 cX5_become) = true := by decide +kernel
theorem d_X5_become_82 : decode cX5_become 82 = .ok (.return_, 1) := by decide +kernel
def Ow_become_90 (τ : am_T) : Option (am_T) :=
  (X_copyI τ 35 91).bind (fun x1 =>
  (X_copyI x1 36 92).bind (fun x2 =>
  (X_copyI x2 37 93).bind (fun x3 =>
  (X_copyI (am_si x3 90 3 (x3.1 34 3)) 38 94).bind (fun x4 =>
  (X_copyI x4 39 95).bind (fun x5 =>
  (X_copyI x5 40 96).bind (fun x6 =>
  some (am_si x6 90 7 (x6.1 34 7))))))))
set_option maxRecDepth 20000 in
theorem ok_Ow_become_90 {X : am_X} {τ τ' : am_T} (hF : am_F X "ShareHouse$Owners" cX5_become 2) (hR : am_R X 2 61) (hB : am_B X none none (am_D τ')) (h : Ow_become_90 τ = some τ') : am_W X 2 (0, [(0, .ref 90), (1, .ref 34)], [], am_D τ) := by
  unfold Ow_become_90 at h
  refine am_seg s_Ow_become_90_0 (y := (8, [(0, .ref 90), (1, .ref 34)], [.ref 91, .ref 35], am_D τ)) hF t_s_Ow_become_90_0 rfl rfl ?_
  refine am_bd h (fun x1 hx h => ?_)
  refine am_callSN (As := [.ref 35, .ref 91]) (r := none) (st := []) (σ' := am_D x1) (host := "ShareHouse") hF hR d_X5_become_8 (c_X_copyI (τ' := x1) hx) (Nat.le_refl _) (Nat.le_refl _) wk_Ow_30 ws_yX11_copy wn_ShareHouse wc_yX11_copy wy_yX11_copy rfl ⟨by decide, by decide⟩ (Nat.le_of_ble_eq_true rfl) ?_
  refine am_seg s_Ow_become_90_1 (y := (19, [(0, .ref 90), (1, .ref 34)], [.ref 92, .ref 36], am_D x1)) hF t_s_Ow_become_90_1 rfl rfl ?_
  refine am_bd h (fun x2 hx h => ?_)
  refine am_callSN (As := [.ref 36, .ref 92]) (r := none) (st := []) (σ' := am_D x2) (host := "ShareHouse") hF hR d_X5_become_19 (c_X_copyI (τ' := x2) hx) (Nat.le_refl _) (Nat.le_refl _) wk_Ow_30 ws_yX11_copy wn_ShareHouse wc_yX11_copy wy_yX11_copy rfl ⟨by decide, by decide⟩ (Nat.le_of_ble_eq_true rfl) ?_
  refine am_seg s_Ow_become_90_2 (y := (30, [(0, .ref 90), (1, .ref 34)], [.ref 93, .ref 37], am_D x2)) hF t_s_Ow_become_90_2 rfl rfl ?_
  refine am_bd h (fun x3 hx h => ?_)
  refine am_callSN (As := [.ref 37, .ref 93]) (r := none) (st := []) (σ' := am_D x3) (host := "ShareHouse") hF hR d_X5_become_30 (c_X_copyI (τ' := x3) hx) (Nat.le_refl _) (Nat.le_refl _) wk_Ow_30 ws_yX11_copy wn_ShareHouse wc_yX11_copy wy_yX11_copy rfl ⟨by decide, by decide⟩ (Nat.le_of_ble_eq_true rfl) ?_
  refine am_seg s_Ow_become_90_3 (y := (49, [(0, .ref 90), (1, .ref 34)], [.ref 94, .ref 38], am_D (am_si x3 90 3 (x3.1 34 3)))) hF t_s_Ow_become_90_3 rfl rfl ?_
  refine am_bd h (fun x4 hx h => ?_)
  refine am_callSN (As := [.ref 38, .ref 94]) (r := none) (st := []) (σ' := am_D x4) (host := "ShareHouse") hF hR d_X5_become_49 (c_X_copyI (τ' := x4) hx) (Nat.le_refl _) (Nat.le_refl _) wk_Ow_30 ws_yX11_copy wn_ShareHouse wc_yX11_copy wy_yX11_copy rfl ⟨by decide, by decide⟩ (Nat.le_of_ble_eq_true rfl) ?_
  refine am_seg s_Ow_become_90_4 (y := (60, [(0, .ref 90), (1, .ref 34)], [.ref 95, .ref 39], am_D x4)) hF t_s_Ow_become_90_4 rfl rfl ?_
  refine am_bd h (fun x5 hx h => ?_)
  refine am_callSN (As := [.ref 39, .ref 95]) (r := none) (st := []) (σ' := am_D x5) (host := "ShareHouse") hF hR d_X5_become_60 (c_X_copyI (τ' := x5) hx) (Nat.le_refl _) (Nat.le_refl _) wk_Ow_30 ws_yX11_copy wn_ShareHouse wc_yX11_copy wy_yX11_copy rfl ⟨by decide, by decide⟩ (Nat.le_of_ble_eq_true rfl) ?_
  refine am_seg s_Ow_become_90_5 (y := (71, [(0, .ref 90), (1, .ref 34)], [.ref 96, .ref 40], am_D x5)) hF t_s_Ow_become_90_5 rfl rfl ?_
  refine am_bd h (fun x6 hx h => ?_)
  refine am_callSN (As := [.ref 40, .ref 96]) (r := none) (st := []) (σ' := am_D x6) (host := "ShareHouse") hF hR d_X5_become_71 (c_X_copyI (τ' := x6) hx) (Nat.le_refl _) (Nat.le_refl _) wk_Ow_30 ws_yX11_copy wn_ShareHouse wc_yX11_copy wy_yX11_copy rfl ⟨by decide, by decide⟩ (Nat.le_of_ble_eq_true rfl) ?_
  refine am_seg s_Ow_become_90_6 (y := (82, [(0, .ref 90), (1, .ref 34)], [], am_D (am_si x6 90 7 (x6.1 34 7)))) hF t_s_Ow_become_90_6 rfl rfl ?_
  obtain rfl := am_one h
  exact am_vret d_X5_become_82 hF hB
theorem c_Ow_become_90 {τ τ' : am_T} (h : Ow_become_90 τ = some τ') : am_C yX5_become cX5_become 2 none 2 61 [.ref 90, .ref 34] (am_D τ) none (am_D τ') :=
  am_enter (by decide +kernel) (Nat.le_of_ble_eq_true rfl) ⟨Nat.le_refl _, Nat.le_refl _⟩ (fun X hF hR hB => ok_Ow_become_90 hF hR hB h)
def s_Wo_become_97_0 : List am_Q := [(0, .aload_n 1, 0, 0, 0, .null), (1, .getfield 11, 10, 0, 54, .null), (4, .aload_n 0, 0, 0, 0, .null), (5, .getfield 11, 10, 0, 54, .null)]
theorem t_s_Wo_become_97_0 : s_Wo_become_97_0.all (am_ok 10 cX10_become) = true := by decide +kernel
theorem d_X10_become_8 : decode cX10_become 8 = .ok (.invokestatic 43, 3) := by decide +kernel
def s_Wo_become_97_1 : List am_Q := [(11, .aload_n 1, 0, 0, 0, .null), (12, .getfield 15, 10, 1, 56, .null), (15, .aload_n 0, 0, 0, 0, .null), (16, .getfield 15, 10, 1, 56, .null)]
theorem t_s_Wo_become_97_1 : s_Wo_become_97_1.all (am_ok 10 cX10_become) = true := by decide +kernel
theorem d_X10_become_19 : decode cX10_become 19 = .ok (.invokestatic 43, 3) := by decide +kernel
def s_Wo_become_97_2 : List am_Q := [(22, .aload_n 1, 0, 0, 0, .null), (23, .getfield 18, 10, 2, 58, .null), (26, .aload_n 0, 0, 0, 0, .null), (27, .getfield 18, 10, 2, 58, .null)]
theorem t_s_Wo_become_97_2 : s_Wo_become_97_2.all (am_ok 10 cX10_become) = true := by decide +kernel
theorem d_X10_become_30 : decode cX10_become 30 = .ok (.invokestatic 47, 3) := by decide +kernel
def s_Wo_become_97_3 : List am_Q := [(33, .aload_n 1, 0, 0, 0, .null), (34, .getfield 22, 10, 3, 60, .null), (37, .aload_n 0, 0, 0, 0, .null), (38, .getfield 22, 10, 3, 60, .null)]
theorem t_s_Wo_become_97_3 : s_Wo_become_97_3.all (am_ok 10 cX10_become) = true := by decide +kernel
theorem d_X10_become_41 : decode cX10_become 41 = .ok (.invokestatic 43, 3) := by decide +kernel
def s_Wo_become_97_4 : List am_Q := [(44, .aload_n 1, 0, 0, 0, .null), (45, .getfield 25, 10, 4, 61, .null), (48, .aload_n 0, 0, 0, 0, .null), (49, .getfield 25, 10, 4, 61, .null)]
theorem t_s_Wo_become_97_4 : s_Wo_become_97_4.all (am_ok 10 cX10_become) = true := by decide +kernel
theorem d_X10_become_52 : decode cX10_become 52 = .ok (.invokestatic 43, 3) := by decide +kernel
def s_Wo_become_97_5 : List am_Q := [(55, .aload_n 1, 0, 0, 0, .null), (56, .getfield 28, 10, 5, 62, .null), (59, .aload_n 0, 0, 0, 0, .null), (60, .getfield 28, 10, 5, 62, .null)]
theorem t_s_Wo_become_97_5 : s_Wo_become_97_5.all (am_ok 10 cX10_become) = true := by decide +kernel
theorem d_X10_become_63 : decode cX10_become 63 = .ok (.invokestatic 43, 3) := by decide +kernel
def s_Wo_become_97_6 : List am_Q := [(66, .aload_n 1, 0, 0, 0, .null), (67, .getfield 31, 10, 6, 63, .null), (70, .aload_n 0, 0, 0, 0, .null), (71, .getfield 31, 10, 6, 63, .null)]
theorem t_s_Wo_become_97_6 : s_Wo_become_97_6.all (am_ok 10 cX10_become) = true := by decide +kernel
theorem d_X10_become_74 : decode cX10_become 74 = .ok (.invokestatic 43, 3) := by decide +kernel
def s_Wo_become_97_7 : List am_Q := [(77, .aload_n 1, 0, 0, 0, .null), (78, .getfield 34, 10, 7, 64, .null), (81, .aload_n 0, 0, 0, 0, .null), (82, .getfield 34, 10, 7, 64, .null)]
theorem t_s_Wo_become_97_7 : s_Wo_become_97_7.all (am_ok 10 cX10_become) = true := by decide +kernel
theorem d_X10_become_85 : decode cX10_become 85 = .ok (.invokestatic 43, 3) := by decide +kernel
def s_Wo_become_97_8 : List am_Q := [(88, .aload_n 0, 0, 0, 0, .null), (89, .aload_n 1, 0, 0, 0, .null), (90, .getfield 50, 10, 8, 65, .null), (93, .putfield 50, 10, 8, 65, .null), (96, .aload_n 1, 0, 0, 0, .null), (97, .getfield 37, 10, 9, 67, .null), (100, .aload_n 0, 0, 0, 0, .null), (101, .getfield 37, 10, 9, 67, .null)]
theorem t_s_Wo_become_97_8 : s_Wo_become_97_8.all (am_ok 10 cX10_become) = true := by decide +kernel
theorem d_X10_become_104 : decode cX10_become 104 = .ok (.invokestatic 43, 3) := by decide +kernel
def s_Wo_become_97_9 : List am_Q := [(107, .aload_n 1, 0, 0, 0, .null), (108, .getfield 40, 10, 10, 68, .null), (111, .aload_n 0, 0, 0, 0, .null), (112, .getfield 40, 10, 10, 68, .null)]
theorem t_s_Wo_become_97_9 : s_Wo_become_97_9.all (am_ok 10 cX10_become) = true := by decide +kernel
theorem d_X10_become_115 : decode cX10_become 115 = .ok (.invokestatic 43, 3) := by decide +kernel
def s_Wo_become_97_10 : List am_Q := [(118, .aload_n 0, 0, 0, 0, .null), (119, .aload_n 1, 0, 0, 0, .null), (120, .getfield 54, 10, 11, 69, .null), (123, .putfield 54, 10, 11, 69, .null)]
theorem t_s_Wo_become_97_10 : s_Wo_become_97_10.all (am_ok 10 cX10_become) = true := by decide +kernel
theorem d_X10_become_126 : decode cX10_become 126 = .ok (.return_, 1) := by decide +kernel
def Wo_become_97 (τ : am_T) : Option (am_T) :=
  (X_copyI τ 42 98).bind (fun x1 =>
  (X_copyI x1 43 99).bind (fun x2 =>
  (X_copyZ x2 44 100).bind (fun x3 =>
  (X_copyI x3 45 101).bind (fun x4 =>
  (X_copyI x4 46 102).bind (fun x5 =>
  (X_copyI x5 47 103).bind (fun x6 =>
  (X_copyI x6 48 104).bind (fun x7 =>
  (X_copyI x7 49 105).bind (fun x8 =>
  (X_copyI (am_si x8 97 8 (x8.1 41 8)) 50 106).bind (fun x9 =>
  (X_copyI x9 51 107).bind (fun x10 =>
  some (am_si x10 97 11 (x10.1 41 11))))))))))))
set_option maxRecDepth 20000 in
theorem ok_Wo_become_97 {X : am_X} {τ τ' : am_T} (hF : am_F X "ShareHouse$Works" cX10_become 2) (hR : am_R X 2 61) (hB : am_B X none none (am_D τ')) (h : Wo_become_97 τ = some τ') : am_W X 2 (0, [(0, .ref 97), (1, .ref 41)], [], am_D τ) := by
  unfold Wo_become_97 at h
  refine am_seg s_Wo_become_97_0 (y := (8, [(0, .ref 97), (1, .ref 41)], [.ref 98, .ref 42], am_D τ)) hF t_s_Wo_become_97_0 rfl rfl ?_
  refine am_bd h (fun x1 hx h => ?_)
  refine am_callSN (As := [.ref 42, .ref 98]) (r := none) (st := []) (σ' := am_D x1) (host := "ShareHouse") hF hR d_X10_become_8 (c_X_copyI (τ' := x1) hx) (Nat.le_refl _) (Nat.le_refl _) wk_Wo_43 ws_yX11_copy wn_ShareHouse wc_yX11_copy wy_yX11_copy rfl ⟨by decide, by decide⟩ (Nat.le_of_ble_eq_true rfl) ?_
  refine am_seg s_Wo_become_97_1 (y := (19, [(0, .ref 97), (1, .ref 41)], [.ref 99, .ref 43], am_D x1)) hF t_s_Wo_become_97_1 rfl rfl ?_
  refine am_bd h (fun x2 hx h => ?_)
  refine am_callSN (As := [.ref 43, .ref 99]) (r := none) (st := []) (σ' := am_D x2) (host := "ShareHouse") hF hR d_X10_become_19 (c_X_copyI (τ' := x2) hx) (Nat.le_refl _) (Nat.le_refl _) wk_Wo_43 ws_yX11_copy wn_ShareHouse wc_yX11_copy wy_yX11_copy rfl ⟨by decide, by decide⟩ (Nat.le_of_ble_eq_true rfl) ?_
  refine am_seg s_Wo_become_97_2 (y := (30, [(0, .ref 97), (1, .ref 41)], [.ref 100, .ref 44], am_D x2)) hF t_s_Wo_become_97_2 rfl rfl ?_
  refine am_bd h (fun x3 hx h => ?_)
  refine am_callSN (As := [.ref 44, .ref 100]) (r := none) (st := []) (σ' := am_D x3) (host := "ShareHouse") hF hR d_X10_become_30 (c_X_copyZ (τ' := x3) hx) (Nat.le_refl _) (Nat.le_refl _) wk_Wo_47 ws_yX11_copy_ wn_ShareHouse wc_yX11_copy_ wy_yX11_copy_ rfl ⟨by decide, by decide⟩ (Nat.le_of_ble_eq_true rfl) ?_
  refine am_seg s_Wo_become_97_3 (y := (41, [(0, .ref 97), (1, .ref 41)], [.ref 101, .ref 45], am_D x3)) hF t_s_Wo_become_97_3 rfl rfl ?_
  refine am_bd h (fun x4 hx h => ?_)
  refine am_callSN (As := [.ref 45, .ref 101]) (r := none) (st := []) (σ' := am_D x4) (host := "ShareHouse") hF hR d_X10_become_41 (c_X_copyI (τ' := x4) hx) (Nat.le_refl _) (Nat.le_refl _) wk_Wo_43 ws_yX11_copy wn_ShareHouse wc_yX11_copy wy_yX11_copy rfl ⟨by decide, by decide⟩ (Nat.le_of_ble_eq_true rfl) ?_
  refine am_seg s_Wo_become_97_4 (y := (52, [(0, .ref 97), (1, .ref 41)], [.ref 102, .ref 46], am_D x4)) hF t_s_Wo_become_97_4 rfl rfl ?_
  refine am_bd h (fun x5 hx h => ?_)
  refine am_callSN (As := [.ref 46, .ref 102]) (r := none) (st := []) (σ' := am_D x5) (host := "ShareHouse") hF hR d_X10_become_52 (c_X_copyI (τ' := x5) hx) (Nat.le_refl _) (Nat.le_refl _) wk_Wo_43 ws_yX11_copy wn_ShareHouse wc_yX11_copy wy_yX11_copy rfl ⟨by decide, by decide⟩ (Nat.le_of_ble_eq_true rfl) ?_
  refine am_seg s_Wo_become_97_5 (y := (63, [(0, .ref 97), (1, .ref 41)], [.ref 103, .ref 47], am_D x5)) hF t_s_Wo_become_97_5 rfl rfl ?_
  refine am_bd h (fun x6 hx h => ?_)
  refine am_callSN (As := [.ref 47, .ref 103]) (r := none) (st := []) (σ' := am_D x6) (host := "ShareHouse") hF hR d_X10_become_63 (c_X_copyI (τ' := x6) hx) (Nat.le_refl _) (Nat.le_refl _) wk_Wo_43 ws_yX11_copy wn_ShareHouse wc_yX11_copy wy_yX11_copy rfl ⟨by decide, by decide⟩ (Nat.le_of_ble_eq_true rfl) ?_
  refine am_seg s_Wo_become_97_6 (y := (74, [(0, .ref 97), (1, .ref 41)], [.ref 104, .ref 48], am_D x6)) hF t_s_Wo_become_97_6 rfl rfl ?_
  refine am_bd h (fun x7 hx h => ?_)
  refine am_callSN (As := [.ref 48, .ref 104]) (r := none) (st := []) (σ' := am_D x7) (host := "ShareHouse") hF hR d_X10_become_74 (c_X_copyI (τ' := x7) hx) (Nat.le_refl _) (Nat.le_refl _) wk_Wo_43 ws_yX11_copy wn_ShareHouse wc_yX11_copy wy_yX11_copy rfl ⟨by decide, by decide⟩ (Nat.le_of_ble_eq_true rfl) ?_
  refine am_seg s_Wo_become_97_7 (y := (85, [(0, .ref 97), (1, .ref 41)], [.ref 105, .ref 49], am_D x7)) hF t_s_Wo_become_97_7 rfl rfl ?_
  refine am_bd h (fun x8 hx h => ?_)
  refine am_callSN (As := [.ref 49, .ref 105]) (r := none) (st := []) (σ' := am_D x8) (host := "ShareHouse") hF hR d_X10_become_85 (c_X_copyI (τ' := x8) hx) (Nat.le_refl _) (Nat.le_refl _) wk_Wo_43 ws_yX11_copy wn_ShareHouse wc_yX11_copy wy_yX11_copy rfl ⟨by decide, by decide⟩ (Nat.le_of_ble_eq_true rfl) ?_
  refine am_seg s_Wo_become_97_8 (y := (104, [(0, .ref 97), (1, .ref 41)], [.ref 106, .ref 50], am_D (am_si x8 97 8 (x8.1 41 8)))) hF t_s_Wo_become_97_8 rfl rfl ?_
  refine am_bd h (fun x9 hx h => ?_)
  refine am_callSN (As := [.ref 50, .ref 106]) (r := none) (st := []) (σ' := am_D x9) (host := "ShareHouse") hF hR d_X10_become_104 (c_X_copyI (τ' := x9) hx) (Nat.le_refl _) (Nat.le_refl _) wk_Wo_43 ws_yX11_copy wn_ShareHouse wc_yX11_copy wy_yX11_copy rfl ⟨by decide, by decide⟩ (Nat.le_of_ble_eq_true rfl) ?_
  refine am_seg s_Wo_become_97_9 (y := (115, [(0, .ref 97), (1, .ref 41)], [.ref 107, .ref 51], am_D x9)) hF t_s_Wo_become_97_9 rfl rfl ?_
  refine am_bd h (fun x10 hx h => ?_)
  refine am_callSN (As := [.ref 51, .ref 107]) (r := none) (st := []) (σ' := am_D x10) (host := "ShareHouse") hF hR d_X10_become_115 (c_X_copyI (τ' := x10) hx) (Nat.le_refl _) (Nat.le_refl _) wk_Wo_43 ws_yX11_copy wn_ShareHouse wc_yX11_copy wy_yX11_copy rfl ⟨by decide, by decide⟩ (Nat.le_of_ble_eq_true rfl) ?_
  refine am_seg s_Wo_become_97_10 (y := (126, [(0, .ref 97), (1, .ref 41)], [], am_D (am_si x10 97 11 (x10.1 41 11)))) hF t_s_Wo_become_97_10 rfl rfl ?_
  obtain rfl := am_one h
  exact am_vret d_X10_become_126 hF hB
theorem c_Wo_become_97 {τ τ' : am_T} (h : Wo_become_97 τ = some τ') : am_C yX10_become cX10_become 2 none 2 61 [.ref 97, .ref 41] (am_D τ) none (am_D τ') :=
  am_enter (by decide +kernel) (Nat.le_of_ble_eq_true rfl) ⟨Nat.le_refl _, Nat.le_refl _⟩ (fun X hF hR hB => ok_Wo_become_97 hF hR hB h)
def s_Re_become_108_0 : List am_Q := [(0, .aload_n 1, 0, 0, 0, .null), (1, .getfield 9, 8, 0, 71, .null), (4, .aload_n 0, 0, 0, 0, .null), (5, .getfield 9, 8, 0, 71, .null)]
theorem t_s_Re_become_108_0 : s_Re_become_108_0.all (am_ok 8 cX8_become) = true := by decide +kernel
theorem d_X8_become_8 : decode cX8_become 8 = .ok (.invokestatic 24, 3) := by decide +kernel
def s_Re_become_108_1 : List am_Q := [(11, .aload_n 1, 0, 0, 0, .null), (12, .getfield 15, 8, 1, 72, .null), (15, .aload_n 0, 0, 0, 0, .null), (16, .getfield 15, 8, 1, 72, .null)]
theorem t_s_Re_become_108_1 : s_Re_become_108_1.all (am_ok 8 cX8_become) = true := by decide +kernel
theorem d_X8_become_19 : decode cX8_become 19 = .ok (.invokestatic 24, 3) := by decide +kernel
def s_Re_become_108_2 : List am_Q := [(22, .aload_n 1, 0, 0, 0, .null), (23, .getfield 18, 8, 2, 73, .null), (26, .aload_n 0, 0, 0, 0, .null), (27, .getfield 18, 8, 2, 73, .null)]
theorem t_s_Re_become_108_2 : s_Re_become_108_2.all (am_ok 8 cX8_become) = true := by decide +kernel
theorem d_X8_become_30 : decode cX8_become 30 = .ok (.invokestatic 24, 3) := by decide +kernel
def s_Re_become_108_3 : List am_Q := [(33, .aload_n 0, 0, 0, 0, .null), (34, .aload_n 1, 0, 0, 0, .null), (35, .getfield 28, 8, 3, 74, .null), (38, .putfield 28, 8, 3, 74, .null)]
theorem t_s_Re_become_108_3 : s_Re_become_108_3.all (am_ok 8 cX8_become) = true := by decide +kernel
theorem d_X8_become_41 : decode cX8_become 41 = .ok (.return_, 1) := by decide +kernel
def Re_become_108 (τ : am_T) : Option (am_T) :=
  (X_copyI τ 53 109).bind (fun x1 =>
  (X_copyI x1 54 110).bind (fun x2 =>
  (X_copyI x2 55 111).bind (fun x3 =>
  some (am_si x3 108 3 (x3.1 52 3)))))
set_option maxRecDepth 20000 in
theorem ok_Re_become_108 {X : am_X} {τ τ' : am_T} (hF : am_F X "ShareHouse$Reserve" cX8_become 2) (hR : am_R X 2 61) (hB : am_B X none none (am_D τ')) (h : Re_become_108 τ = some τ') : am_W X 2 (0, [(0, .ref 108), (1, .ref 52)], [], am_D τ) := by
  unfold Re_become_108 at h
  refine am_seg s_Re_become_108_0 (y := (8, [(0, .ref 108), (1, .ref 52)], [.ref 109, .ref 53], am_D τ)) hF t_s_Re_become_108_0 rfl rfl ?_
  refine am_bd h (fun x1 hx h => ?_)
  refine am_callSN (As := [.ref 53, .ref 109]) (r := none) (st := []) (σ' := am_D x1) (host := "ShareHouse") hF hR d_X8_become_8 (c_X_copyI (τ' := x1) hx) (Nat.le_refl _) (Nat.le_refl _) wk_Re_24 ws_yX11_copy wn_ShareHouse wc_yX11_copy wy_yX11_copy rfl ⟨by decide, by decide⟩ (Nat.le_of_ble_eq_true rfl) ?_
  refine am_seg s_Re_become_108_1 (y := (19, [(0, .ref 108), (1, .ref 52)], [.ref 110, .ref 54], am_D x1)) hF t_s_Re_become_108_1 rfl rfl ?_
  refine am_bd h (fun x2 hx h => ?_)
  refine am_callSN (As := [.ref 54, .ref 110]) (r := none) (st := []) (σ' := am_D x2) (host := "ShareHouse") hF hR d_X8_become_19 (c_X_copyI (τ' := x2) hx) (Nat.le_refl _) (Nat.le_refl _) wk_Re_24 ws_yX11_copy wn_ShareHouse wc_yX11_copy wy_yX11_copy rfl ⟨by decide, by decide⟩ (Nat.le_of_ble_eq_true rfl) ?_
  refine am_seg s_Re_become_108_2 (y := (30, [(0, .ref 108), (1, .ref 52)], [.ref 111, .ref 55], am_D x2)) hF t_s_Re_become_108_2 rfl rfl ?_
  refine am_bd h (fun x3 hx h => ?_)
  refine am_callSN (As := [.ref 55, .ref 111]) (r := none) (st := []) (σ' := am_D x3) (host := "ShareHouse") hF hR d_X8_become_30 (c_X_copyI (τ' := x3) hx) (Nat.le_refl _) (Nat.le_refl _) wk_Re_24 ws_yX11_copy wn_ShareHouse wc_yX11_copy wy_yX11_copy rfl ⟨by decide, by decide⟩ (Nat.le_of_ble_eq_true rfl) ?_
  refine am_seg s_Re_become_108_3 (y := (41, [(0, .ref 108), (1, .ref 52)], [], am_D (am_si x3 108 3 (x3.1 52 3)))) hF t_s_Re_become_108_3 rfl rfl ?_
  obtain rfl := am_one h
  exact am_vret d_X8_become_41 hF hB
theorem c_Re_become_108 {τ τ' : am_T} (h : Re_become_108 τ = some τ') : am_C yX8_become cX8_become 2 none 2 61 [.ref 108, .ref 52] (am_D τ) none (am_D τ') :=
  am_enter (by decide +kernel) (Nat.le_of_ble_eq_true rfl) ⟨Nat.le_refl _, Nat.le_refl _⟩ (fun X hF hR hB => ok_Re_become_108 hF hR hB h)
def s_Ho_become_57_0 : List am_Q := [(0, .aload_n 0, 0, 0, 0, .null), (1, .aload_n 1, 0, 0, 0, .null), (2, .getfield 61, 3, 0, 84, .null), (5, .putfield 61, 3, 0, 84, .null), (8, .aload_n 1, 0, 0, 0, .null), (9, .getfield 18, 3, 1, 87, .null), (12, .aload_n 0, 0, 0, 0, .null), (13, .getfield 18, 3, 1, 87, .null)]
theorem t_s_Ho_become_57_0 : s_Ho_become_57_0.all (am_ok 3 cX3_become) = true := by decide +kernel
theorem d_X3_become_16 : decode cX3_become 16 = .ok (.invokestatic 65, 3) := by decide +kernel
def s_Ho_become_57_1 : List am_Q := [(19, .aload_n 1, 0, 0, 0, .null), (20, .getfield 23, 3, 2, 91, .null), (23, .aload_n 0, 0, 0, 0, .null), (24, .getfield 23, 3, 2, 91, .null)]
theorem t_s_Ho_become_57_1 : s_Ho_become_57_1.all (am_ok 3 cX3_become) = true := by decide +kernel
theorem d_X3_become_27 : decode cX3_become 27 = .ok (.invokestatic 65, 3) := by decide +kernel
def s_Ho_become_57_2 : List am_Q := [(30, .aload_n 0, 0, 0, 0, .null), (31, .getfield 29, 3, 3, 94, .null), (34, .aload_n 1, 0, 0, 0, .null), (35, .getfield 29, 3, 3, 94, .null)]
theorem t_s_Ho_become_57_2 : s_Ho_become_57_2.all (am_ok 3 cX3_become) = true := by decide +kernel
theorem d_X3_become_38 : decode cX3_become 38 = .ok (.invokevirtual 69, 3) := by decide +kernel
def s_Ho_become_57_3 : List am_Q := [(41, .aload_n 0, 0, 0, 0, .null), (42, .getfield 36, 3, 4, 98, .null), (45, .aload_n 1, 0, 0, 0, .null), (46, .getfield 36, 3, 4, 98, .null)]
theorem t_s_Ho_become_57_3 : s_Ho_become_57_3.all (am_ok 3 cX3_become) = true := by decide +kernel
theorem d_X3_become_49 : decode cX3_become 49 = .ok (.invokevirtual 73, 3) := by decide +kernel
def s_Ho_become_57_4 : List am_Q := [(52, .aload_n 0, 0, 0, 0, .null), (53, .getfield 43, 3, 5, 102, .null), (56, .aload_n 1, 0, 0, 0, .null), (57, .getfield 43, 3, 5, 102, .null)]
theorem t_s_Ho_become_57_4 : s_Ho_become_57_4.all (am_ok 3 cX3_become) = true := by decide +kernel
theorem d_X3_become_60 : decode cX3_become 60 = .ok (.invokevirtual 76, 3) := by decide +kernel
def s_Ho_become_57_5 : List am_Q := [(63, .aload_n 0, 0, 0, 0, .null), (64, .getfield 50, 3, 6, 105, .null), (67, .aload_n 1, 0, 0, 0, .null), (68, .getfield 50, 3, 6, 105, .null)]
theorem t_s_Ho_become_57_5 : s_Ho_become_57_5.all (am_ok 3 cX3_become) = true := by decide +kernel
theorem d_X3_become_71 : decode cX3_become 71 = .ok (.invokevirtual 79, 3) := by decide +kernel
def s_Ho_become_57_6 : List am_Q := [(74, .aload_n 0, 0, 0, 0, .null), (75, .getfield 57, 3, 7, 107, .null), (78, .aload_n 1, 0, 0, 0, .null), (79, .getfield 57, 3, 7, 107, .null)]
theorem t_s_Ho_become_57_6 : s_Ho_become_57_6.all (am_ok 3 cX3_become) = true := by decide +kernel
theorem d_X3_become_82 : decode cX3_become 82 = .ok (.invokevirtual 82, 3) := by decide +kernel
theorem d_X3_become_85 : decode cX3_become 85 = .ok (.return_, 1) := by decide +kernel
def Ho_become_57 (τ : am_T) : Option (am_T) :=
  (X_copyI (am_si τ 57 0 (τ.1 1 0)) 2 58).bind (fun x1 =>
  (X_copyI x1 3 59).bind (fun x2 =>
  (Fl_become_60 x2).bind (fun x3 =>
  (Co_become_81 x3).bind (fun x4 =>
  (Ow_become_90 x4).bind (fun x5 =>
  (Wo_become_97 x5).bind (fun x6 =>
  (Re_become_108 x6).bind (fun x7 =>
  some x7)))))))
set_option maxRecDepth 20000 in
theorem ok_Ho_become_57 {X : am_X} {τ τ' : am_T} (hF : am_F X "ShareHouse$House" cX3_become 2) (hR : am_R X 4 104) (hB : am_B X none none (am_D τ')) (h : Ho_become_57 τ = some τ') : am_W X 2 (0, [(0, .ref 57), (1, .ref 1)], [], am_D τ) := by
  unfold Ho_become_57 at h
  refine am_seg s_Ho_become_57_0 (y := (16, [(0, .ref 57), (1, .ref 1)], [.ref 58, .ref 2], am_D (am_si τ 57 0 (τ.1 1 0)))) hF t_s_Ho_become_57_0 rfl rfl ?_
  refine am_bd h (fun x1 hx h => ?_)
  refine am_callSN (As := [.ref 2, .ref 58]) (r := none) (st := []) (σ' := am_D x1) (host := "ShareHouse") hF hR d_X3_become_16 (c_X_copyI (τ' := x1) hx) (Nat.le_refl _) (Nat.le_refl _) wk_Ho_65 ws_yX11_copy wn_ShareHouse wc_yX11_copy wy_yX11_copy rfl ⟨by decide, by decide⟩ (Nat.le_of_ble_eq_true rfl) ?_
  refine am_seg s_Ho_become_57_1 (y := (27, [(0, .ref 57), (1, .ref 1)], [.ref 59, .ref 3], am_D x1)) hF t_s_Ho_become_57_1 rfl rfl ?_
  refine am_bd h (fun x2 hx h => ?_)
  refine am_callSN (As := [.ref 3, .ref 59]) (r := none) (st := []) (σ' := am_D x2) (host := "ShareHouse") hF hR d_X3_become_27 (c_X_copyI (τ' := x2) hx) (Nat.le_refl _) (Nat.le_refl _) wk_Ho_65 ws_yX11_copy wn_ShareHouse wc_yX11_copy wy_yX11_copy rfl ⟨by decide, by decide⟩ (Nat.le_of_ble_eq_true rfl) ?_
  refine am_seg s_Ho_become_57_2 (y := (38, [(0, .ref 57), (1, .ref 1)], [.ref 4, .ref 60], am_D x2)) hF t_s_Ho_become_57_2 rfl rfl ?_
  refine am_bd h (fun x3 hx h => ?_)
  refine am_callV (As := [.ref 4]) (r := none) (st := []) (σ' := am_D x3) (ci := 2) hF hR d_X3_become_38 (c_Fl_become_60 (τ' := x3) hx) (Nat.le_refl _) (Nat.le_refl _) wl_Ho_69 wi_yX2_become we_yX2_become wn_ShareHouse_Flats wc_yX2_become (Nat.le_of_ble_eq_true rfl) (Nat.le_of_ble_eq_true rfl) rfl rfl wy_yX2_become rfl ⟨by decide, by decide⟩ (Nat.le_of_ble_eq_true rfl) ?_
  refine am_seg s_Ho_become_57_3 (y := (49, [(0, .ref 57), (1, .ref 1)], [.ref 25, .ref 81], am_D x3)) hF t_s_Ho_become_57_3 rfl rfl ?_
  refine am_bd h (fun x4 hx h => ?_)
  refine am_callV (As := [.ref 25]) (r := none) (st := []) (σ' := am_D x4) (ci := 1) hF hR d_X3_become_49 (c_Co_become_81 (τ' := x4) hx) (Nat.le_refl _) (Nat.le_refl _) wl_Ho_73 wi_yX1_become we_yX1_become wn_ShareHouse_Costs wc_yX1_become (Nat.le_of_ble_eq_true rfl) (Nat.le_of_ble_eq_true rfl) rfl rfl wy_yX1_become rfl ⟨by decide, by decide⟩ (Nat.le_of_ble_eq_true rfl) ?_
  refine am_seg s_Ho_become_57_4 (y := (60, [(0, .ref 57), (1, .ref 1)], [.ref 34, .ref 90], am_D x4)) hF t_s_Ho_become_57_4 rfl rfl ?_
  refine am_bd h (fun x5 hx h => ?_)
  refine am_callV (As := [.ref 34]) (r := none) (st := []) (σ' := am_D x5) (ci := 5) hF hR d_X3_become_60 (c_Ow_become_90 (τ' := x5) hx) (Nat.le_refl _) (Nat.le_refl _) wl_Ho_76 wi_yX5_become we_yX5_become wn_ShareHouse_Owners wc_yX5_become (Nat.le_of_ble_eq_true rfl) (Nat.le_of_ble_eq_true rfl) rfl rfl wy_yX5_become rfl ⟨by decide, by decide⟩ (Nat.le_of_ble_eq_true rfl) ?_
  refine am_seg s_Ho_become_57_5 (y := (71, [(0, .ref 57), (1, .ref 1)], [.ref 41, .ref 97], am_D x5)) hF t_s_Ho_become_57_5 rfl rfl ?_
  refine am_bd h (fun x6 hx h => ?_)
  refine am_callV (As := [.ref 41]) (r := none) (st := []) (σ' := am_D x6) (ci := 10) hF hR d_X3_become_71 (c_Wo_become_97 (τ' := x6) hx) (Nat.le_refl _) (Nat.le_refl _) wl_Ho_79 wi_yX10_become we_yX10_become wn_ShareHouse_Works wc_yX10_become (Nat.le_of_ble_eq_true rfl) (Nat.le_of_ble_eq_true rfl) rfl rfl wy_yX10_become rfl ⟨by decide, by decide⟩ (Nat.le_of_ble_eq_true rfl) ?_
  refine am_seg s_Ho_become_57_6 (y := (82, [(0, .ref 57), (1, .ref 1)], [.ref 52, .ref 108], am_D x6)) hF t_s_Ho_become_57_6 rfl rfl ?_
  refine am_bd h (fun x7 hx h => ?_)
  refine am_callV (As := [.ref 52]) (r := none) (st := []) (σ' := am_D x7) (ci := 8) hF hR d_X3_become_82 (c_Re_become_108 (τ' := x7) hx) (Nat.le_refl _) (Nat.le_refl _) wl_Ho_82 wi_yX8_become we_yX8_become wn_ShareHouse_Reserve wc_yX8_become (Nat.le_of_ble_eq_true rfl) (Nat.le_of_ble_eq_true rfl) rfl rfl wy_yX8_become rfl ⟨by decide, by decide⟩ (Nat.le_of_ble_eq_true rfl) ?_
  obtain rfl := am_one h
  exact am_vret d_X3_become_85 hF hB
theorem c_Ho_become_57 {τ τ' : am_T} (h : Ho_become_57 τ = some τ') : am_C yX3_become cX3_become 2 none 4 104 [.ref 57, .ref 1] (am_D τ) none (am_D τ') :=
  am_enter (by decide +kernel) (Nat.le_of_ble_eq_true rfl) ⟨Nat.le_refl _, Nat.le_refl _⟩ (fun X hF hR hB => ok_Ho_become_57 hF hR hB h)
def s_X_keep_0 : List am_Q := [(0, .aload_n 0, 0, 0, 0, .null), (1, .getfield 16, 11, 1, 146, .null), (4, .aload_n 0, 0, 0, 0, .null), (5, .getfield 10, 11, 0, 145, .null)]
theorem t_s_X_keep_0 : s_X_keep_0.all (am_ok 11 cX11_keep) = true := by decide +kernel
theorem d_X11_keep_8 : decode cX11_keep 8 = .ok (.invokevirtual 344, 3) := by decide +kernel
def s_X_keep_1 : List am_Q := [(11, .aload_n 0, 0, 0, 0, .null), (12, .iconst 1, 0, 0, 0, .int (nI 1))]
theorem t_s_X_keep_1 : s_X_keep_1.all (am_ok 11 cX11_keep) = true := by decide +kernel
theorem d_X11_keep_13 : decode cX11_keep 13 = .ok (.putfield 347, 3) := by decide +kernel
def s_X_keep_2 : List am_Q := [(16, .iconst 1, 0, 0, 0, .int (nI 1))]
theorem t_s_X_keep_2 : s_X_keep_2.all (am_ok 11 cX11_keep) = true := by decide +kernel
theorem d_X11_keep_17 : decode cX11_keep 17 = .ok (.ireturn, 1) := by decide +kernel
def X_keep (τ : am_T) : Option (Int32 × am_T) :=
  (Ho_become_57 τ).bind (fun x1 =>
  some ((nI 1), (am_si x1 0 2 (nI 1))))
set_option maxRecDepth 20000 in
theorem ok_X_keep {X : am_X} {v : Int32} {τ τ' : am_T} (hF : am_F X "ShareHouse" cX11_keep 1) (hR : am_R X 5 125) (hB : am_B X (some .int) (some (.int v)) (am_D τ')) (h : X_keep τ = some (v, τ')) : am_W X 1 (0, [(0, .ref 0)], [], am_D τ) := by
  unfold X_keep at h
  refine am_seg s_X_keep_0 (y := (8, [(0, .ref 0)], [.ref 1, .ref 57], am_D τ)) hF t_s_X_keep_0 rfl rfl ?_
  refine am_bd h (fun x1 hx h => ?_)
  refine am_callV (As := [.ref 1]) (r := none) (st := []) (σ' := am_D x1) (ci := 3) hF hR d_X11_keep_8 (c_Ho_become_57 (τ' := x1) hx) (Nat.le_refl _) (Nat.le_refl _) wl_X_344 wi_yX3_become we_yX3_become wn_ShareHouse_House wc_yX3_become (Nat.le_of_ble_eq_true rfl) (Nat.le_of_ble_eq_true rfl) rfl rfl wy_yX3_become rfl ⟨by decide, by decide⟩ (Nat.le_of_ble_eq_true rfl) ?_
  refine am_seg s_X_keep_1 (y := (13, [(0, .ref 0)], [.int (nI 1), .ref 0], am_D x1)) hF t_s_X_keep_1 rfl rfl ?_
  refine am_putZ (ci := 11) (b := 2) d_X11_keep_13 (Nat.le_of_ble_eq_true rfl) (Nat.le_of_ble_eq_true rfl) rfl rfl (Nat.le_of_ble_eq_true rfl) am_fl147 rfl rfl (by decide) hF ?_
  refine am_seg s_X_keep_2 (y := (17, [(0, .ref 0)], [.int (nI 1)], am_D (am_si x1 0 2 (nI 1)))) hF t_s_X_keep_2 rfl rfl ?_
  obtain ⟨rfl, rfl⟩ := am_pair h
  exact am_iret d_X11_keep_17 hF hB
theorem c_X_keep {v : Int32} {τ τ' : am_T} (h : X_keep τ = some (v, τ')) : am_C yX11_keep cX11_keep 1 (some .int) 5 125 [.ref 0] (am_D τ) (some (.int v)) (am_D τ') :=
  am_enter (by decide +kernel) (Nat.le_of_ble_eq_true rfl) ⟨Nat.le_refl _, Nat.le_refl _⟩ (fun X hF hR hB => ok_X_keep hF hR hB h)
def s_Fl_become_4_0 : List am_Q := [(0, .aload_n 1, 0, 0, 0, .null), (1, .getfield 9, 2, 0, 4, .null), (4, .aload_n 0, 0, 0, 0, .null), (5, .getfield 9, 2, 0, 4, .null)]
theorem t_s_Fl_become_4_0 : s_Fl_become_4_0.all (am_ok 2 cX2_become) = true := by decide +kernel
def s_Fl_become_4_1 : List am_Q := [(11, .aload_n 1, 0, 0, 0, .null), (12, .getfield 15, 2, 1, 7, .null), (15, .aload_n 0, 0, 0, 0, .null), (16, .getfield 15, 2, 1, 7, .null)]
theorem t_s_Fl_become_4_1 : s_Fl_become_4_1.all (am_ok 2 cX2_become) = true := by decide +kernel
def s_Fl_become_4_2 : List am_Q := [(22, .aload_n 1, 0, 0, 0, .null), (23, .getfield 18, 2, 2, 10, .null), (26, .aload_n 0, 0, 0, 0, .null), (27, .getfield 18, 2, 2, 10, .null)]
theorem t_s_Fl_become_4_2 : s_Fl_become_4_2.all (am_ok 2 cX2_become) = true := by decide +kernel
def s_Fl_become_4_3 : List am_Q := [(33, .iconst 0, 0, 0, 0, .int (nI 0)), (34, .istore_n 2, 0, 0, 0, .null)]
theorem t_s_Fl_become_4_3 : s_Fl_become_4_3.all (am_ok 2 cX2_become) = true := by decide +kernel
def s_Fl_become_4_4 : List am_Q := [(35, .iload_n 2, 0, 0, 0, .null), (36, .bipush 8, 0, 0, 0, .int (nI 8))]
theorem t_s_Fl_become_4_4 : s_Fl_become_4_4.all (am_ok 2 cX2_become) = true := by decide +kernel
def s_Fl_become_4_5 : List am_Q := [(62, .aload_n 0, 0, 0, 0, .null), (63, .aload_n 1, 0, 0, 0, .null), (64, .getfield 40, 2, 4, 16, .null), (67, .putfield 40, 2, 4, 16, .null)]
theorem t_s_Fl_become_4_5 : s_Fl_become_4_5.all (am_ok 2 cX2_become) = true := by decide +kernel
def s_Fl_become_4_6 : List am_Q := [(41, .aload_n 0, 0, 0, 0, .null), (42, .getfield 24, 2, 3, 12, .null), (45, .iload_n 2, 0, 0, 0, .null)]
theorem t_s_Fl_become_4_6 : s_Fl_become_4_6.all (am_ok 2 cX2_become) = true := by decide +kernel
def s_Fl_become_4_7 : List am_Q := [(47, .aload_n 1, 0, 0, 0, .null), (48, .getfield 24, 2, 3, 12, .null), (51, .iload_n 2, 0, 0, 0, .null)]
theorem t_s_Fl_become_4_7 : s_Fl_become_4_7.all (am_ok 2 cX2_become) = true := by decide +kernel
def s_Fl_become_4_8 : List am_Q := [(56, .iinc 2 1, 0, 0, 0, .int (nI 1)), (59, .goto (-24), 35, 0, 0, .null)]
theorem t_s_Fl_become_4_8 : s_Fl_become_4_8.all (am_ok 2 cX2_become) = true := by decide +kernel
def Fl_become_4_35 : Nat → am_T → Int32 → Option (am_T)
  | 0, _, _ => none
  | n + 1, τ, a2 =>
    if (nI 8) ≤ a2 then
  (some (am_si τ 4 4 (τ.1 60 4)))
else
  (am_g (am_in a2 8) ((am_RF 8 (a2.toNatClampNeg)).bind (fun q4 =>
  am_g (am_in a2 8) ((am_RF 64 (a2.toNatClampNeg)).bind (fun q5 =>
  am_g (am_isO q4 4) ((Le_become τ q4 q5).bind (fun x6 =>
  (Fl_become_4_35 n) x6 (a2 + (nI 1)))))))))
set_option maxRecDepth 20000 in
theorem ok_Fl_become_4_35 {X : am_X} {τ' : am_T} (hF : am_F X "ShareHouse$Flats" cX2_become 3) (hR : am_R X 3 82) (hB : am_B X none none (am_D τ')) : ∀ (n : Nat) (τ : am_T) (a2 : Int32), Fl_become_4_35 n τ a2 = some τ' → am_W X 3 (35, [(0, .ref 4), (1, .ref 60), (2, .int a2)], [], am_D τ) := by
  intro n
  induction n with
  | zero => intro τ a2 h; unfold Fl_become_4_35 at h; cases h
  | succ n ih =>
    intro τ a2 h
    unfold Fl_become_4_35 at h
    refine am_seg s_Fl_become_4_4 (y := (38, [(0, .ref 4), (1, .ref 60), (2, .int a2)], [.int (nI 8), .int a2], am_D τ)) hF t_s_Fl_become_4_4 rfl rfl ?_
    refine am_ite h (fun hc h => ?_) (fun hc h => ?_)
    · refine am_icmp_ge_t (t := 62) d_X2_become_38 (by decide) hc hF ?_
      refine am_seg s_Fl_become_4_5 (y := (70, [(0, .ref 4), (1, .ref 60), (2, .int a2)], [], am_D (am_si τ 4 4 (τ.1 60 4)))) hF t_s_Fl_become_4_5 rfl rfl ?_
      obtain rfl := am_one h
      exact am_vret d_X2_become_70 hF hB
    · refine am_icmp_ge_f (t := 62) d_X2_become_38 (by decide) hc hF ?_
      refine am_seg s_Fl_become_4_6 (y := (46, [(0, .ref 4), (1, .ref 60), (2, .int a2)], [.int a2, .ref 8], am_D τ)) hF t_s_Fl_become_4_6 rfl rfl ?_
      refine am_gd h (fun hi h => ?_)
      refine am_bd h (fun q4 hq h => ?_)
      refine am_aald (n := 8) (j := (a2.toNatClampNeg)) (q := q4) d_X2_become_46 (Nat.le_of_ble_eq_true rfl) (Nat.le_of_ble_eq_true rfl) rfl hi rfl hq hF ?_
      refine am_seg s_Fl_become_4_7 (y := (52, [(0, .ref 4), (1, .ref 60), (2, .int a2)], [.int a2, .ref 64, .ref q4], am_D τ)) hF t_s_Fl_become_4_7 rfl rfl ?_
      refine am_gd h (fun hi h => ?_)
      refine am_bd h (fun q5 hq h => ?_)
      refine am_aald (n := 8) (j := (a2.toNatClampNeg)) (q := q5) d_X2_become_52 (Nat.le_of_ble_eq_true rfl) (Nat.le_of_ble_eq_true rfl) rfl hi rfl hq hF ?_
      refine am_gd h (fun hg h => ?_)
      refine am_bd h (fun x6 hx h => ?_)
      refine am_callV (As := [.ref q5]) (r := none) (st := []) (σ' := am_D x6) (ci := 4) hF hR d_X2_become_53 (c_Le_become (τ' := x6) hx) (Nat.le_refl _) (Nat.le_refl _) wl_Fl_36 wi_yX4_become we_yX4_become wn_ShareHouse_Lease wc_yX4_become (am_isO_of hg).1 (am_isO_of hg).2.1 (am_isO_of hg).2.2 rfl wy_yX4_become rfl ⟨by decide, by decide⟩ (Nat.le_of_ble_eq_true rfl) ?_
      refine am_seg s_Fl_become_4_8 (y := (35, [(2, .int (a2 + (nI 1))), (0, .ref 4), (1, .ref 60)], [], am_D x6)) hF t_s_Fl_become_4_8 rfl rfl ?_
      refine am_pick [1, 2, 0] rfl ?_
      exact ih _ _ h
def Fl_become_4 (τ : am_T) : Option (am_T) :=
  (X_copyI τ 61 5).bind (fun x1 =>
  (X_copyI x1 62 6).bind (fun x2 =>
  (X_copyZ x2 63 7).bind (fun x3 =>
  Fl_become_4_35 5000 x3 (nI 0))))
set_option maxRecDepth 20000 in
theorem ok_Fl_become_4 {X : am_X} {τ τ' : am_T} (hF : am_F X "ShareHouse$Flats" cX2_become 3) (hR : am_R X 3 82) (hB : am_B X none none (am_D τ')) (h : Fl_become_4 τ = some τ') : am_W X 3 (0, [(0, .ref 4), (1, .ref 60)], [], am_D τ) := by
  unfold Fl_become_4 at h
  refine am_seg s_Fl_become_4_0 (y := (8, [(0, .ref 4), (1, .ref 60)], [.ref 5, .ref 61], am_D τ)) hF t_s_Fl_become_4_0 rfl rfl ?_
  refine am_bd h (fun x1 hx h => ?_)
  refine am_callSN (As := [.ref 61, .ref 5]) (r := none) (st := []) (σ' := am_D x1) (host := "ShareHouse") hF hR d_X2_become_8 (c_X_copyI (τ' := x1) hx) (Nat.le_refl _) (Nat.le_refl _) wk_Fl_29 ws_yX11_copy wn_ShareHouse wc_yX11_copy wy_yX11_copy rfl ⟨by decide, by decide⟩ (Nat.le_of_ble_eq_true rfl) ?_
  refine am_seg s_Fl_become_4_1 (y := (19, [(0, .ref 4), (1, .ref 60)], [.ref 6, .ref 62], am_D x1)) hF t_s_Fl_become_4_1 rfl rfl ?_
  refine am_bd h (fun x2 hx h => ?_)
  refine am_callSN (As := [.ref 62, .ref 6]) (r := none) (st := []) (σ' := am_D x2) (host := "ShareHouse") hF hR d_X2_become_19 (c_X_copyI (τ' := x2) hx) (Nat.le_refl _) (Nat.le_refl _) wk_Fl_29 ws_yX11_copy wn_ShareHouse wc_yX11_copy wy_yX11_copy rfl ⟨by decide, by decide⟩ (Nat.le_of_ble_eq_true rfl) ?_
  refine am_seg s_Fl_become_4_2 (y := (30, [(0, .ref 4), (1, .ref 60)], [.ref 7, .ref 63], am_D x2)) hF t_s_Fl_become_4_2 rfl rfl ?_
  refine am_bd h (fun x3 hx h => ?_)
  refine am_callSN (As := [.ref 63, .ref 7]) (r := none) (st := []) (σ' := am_D x3) (host := "ShareHouse") hF hR d_X2_become_30 (c_X_copyZ (τ' := x3) hx) (Nat.le_refl _) (Nat.le_refl _) wk_Fl_33 ws_yX11_copy_ wn_ShareHouse wc_yX11_copy_ wy_yX11_copy_ rfl ⟨by decide, by decide⟩ (Nat.le_of_ble_eq_true rfl) ?_
  refine am_seg s_Fl_become_4_3 (y := (35, [(2, .int (nI 0)), (0, .ref 4), (1, .ref 60)], [], am_D x3)) hF t_s_Fl_become_4_3 rfl rfl ?_
  refine am_pick [1, 2, 0] rfl ?_
  exact ok_Fl_become_4_35 hF hR hB _ _ _ h
theorem c_Fl_become_4 {τ τ' : am_T} (h : Fl_become_4 τ = some τ') : am_C yX2_become cX2_become 3 none 3 82 [.ref 4, .ref 60] (am_D τ) none (am_D τ') :=
  am_enter (by decide +kernel) (Nat.le_of_ble_eq_true rfl) ⟨Nat.le_refl _, Nat.le_refl _⟩ (fun X hF hR hB => ok_Fl_become_4 hF hR hB h)
def s_Co_become_25_0 : List am_Q := [(0, .aload_n 1, 0, 0, 0, .null), (1, .getfield 9, 1, 0, 19, .null), (4, .aload_n 0, 0, 0, 0, .null), (5, .getfield 9, 1, 0, 19, .null)]
theorem t_s_Co_become_25_0 : s_Co_become_25_0.all (am_ok 1 cX1_become) = true := by decide +kernel
def s_Co_become_25_1 : List am_Q := [(11, .aload_n 1, 0, 0, 0, .null), (12, .getfield 15, 1, 1, 22, .null), (15, .aload_n 0, 0, 0, 0, .null), (16, .getfield 15, 1, 1, 22, .null)]
theorem t_s_Co_become_25_1 : s_Co_become_25_1.all (am_ok 1 cX1_become) = true := by decide +kernel
def s_Co_become_25_2 : List am_Q := [(22, .aload_n 1, 0, 0, 0, .null), (23, .getfield 18, 1, 2, 25, .null), (26, .aload_n 0, 0, 0, 0, .null), (27, .getfield 18, 1, 2, 25, .null)]
theorem t_s_Co_become_25_2 : s_Co_become_25_2.all (am_ok 1 cX1_become) = true := by decide +kernel
def s_Co_become_25_3 : List am_Q := [(33, .aload_n 1, 0, 0, 0, .null), (34, .getfield 21, 1, 3, 27, .null), (37, .aload_n 0, 0, 0, 0, .null), (38, .getfield 21, 1, 3, 27, .null)]
theorem t_s_Co_become_25_3 : s_Co_become_25_3.all (am_ok 1 cX1_become) = true := by decide +kernel
def s_Co_become_25_4 : List am_Q := [(44, .aload_n 1, 0, 0, 0, .null), (45, .getfield 24, 1, 4, 29, .null), (48, .aload_n 0, 0, 0, 0, .null), (49, .getfield 24, 1, 4, 29, .null)]
theorem t_s_Co_become_25_4 : s_Co_become_25_4.all (am_ok 1 cX1_become) = true := by decide +kernel
def s_Co_become_25_5 : List am_Q := [(55, .aload_n 0, 0, 0, 0, .null), (56, .aload_n 1, 0, 0, 0, .null), (57, .getfield 44, 1, 5, 33, .null), (60, .putfield 44, 1, 5, 33, .null), (63, .aload_n 1, 0, 0, 0, .null), (64, .getfield 28, 1, 6, 35, .null), (67, .aload_n 0, 0, 0, 0, .null), (68, .getfield 28, 1, 6, 35, .null)]
theorem t_s_Co_become_25_5 : s_Co_become_25_5.all (am_ok 1 cX1_become) = true := by decide +kernel
def s_Co_become_25_6 : List am_Q := [(74, .aload_n 1, 0, 0, 0, .null), (75, .getfield 31, 1, 7, 36, .null), (78, .aload_n 0, 0, 0, 0, .null), (79, .getfield 31, 1, 7, 36, .null)]
theorem t_s_Co_become_25_6 : s_Co_become_25_6.all (am_ok 1 cX1_become) = true := by decide +kernel
def s_Co_become_25_7 : List am_Q := [(85, .aload_n 1, 0, 0, 0, .null), (86, .getfield 34, 1, 8, 37, .null), (89, .aload_n 0, 0, 0, 0, .null), (90, .getfield 34, 1, 8, 37, .null)]
theorem t_s_Co_become_25_7 : s_Co_become_25_7.all (am_ok 1 cX1_become) = true := by decide +kernel
def s_Co_become_25_8 : List am_Q := [(96, .aload_n 0, 0, 0, 0, .null), (97, .aload_n 1, 0, 0, 0, .null), (98, .getfield 48, 1, 9, 38, .null), (101, .putfield 48, 1, 9, 38, .null)]
theorem t_s_Co_become_25_8 : s_Co_become_25_8.all (am_ok 1 cX1_become) = true := by decide +kernel
def Co_become_25 (τ : am_T) : Option (am_T) :=
  (X_copyI τ 82 26).bind (fun x1 =>
  (X_copyI x1 83 27).bind (fun x2 =>
  (X_copyI x2 84 28).bind (fun x3 =>
  (X_copyI x3 85 29).bind (fun x4 =>
  (X_copyZ x4 86 30).bind (fun x5 =>
  (X_copyI (am_si x5 25 5 (x5.1 81 5)) 87 31).bind (fun x6 =>
  (X_copyI x6 88 32).bind (fun x7 =>
  (X_copyI x7 89 33).bind (fun x8 =>
  some (am_si x8 25 9 (x8.1 81 9))))))))))
set_option maxRecDepth 20000 in
theorem ok_Co_become_25 {X : am_X} {τ τ' : am_T} (hF : am_F X "ShareHouse$Costs" cX1_become 2) (hR : am_R X 2 61) (hB : am_B X none none (am_D τ')) (h : Co_become_25 τ = some τ') : am_W X 2 (0, [(0, .ref 25), (1, .ref 81)], [], am_D τ) := by
  unfold Co_become_25 at h
  refine am_seg s_Co_become_25_0 (y := (8, [(0, .ref 25), (1, .ref 81)], [.ref 26, .ref 82], am_D τ)) hF t_s_Co_become_25_0 rfl rfl ?_
  refine am_bd h (fun x1 hx h => ?_)
  refine am_callSN (As := [.ref 82, .ref 26]) (r := none) (st := []) (σ' := am_D x1) (host := "ShareHouse") hF hR d_X1_become_8 (c_X_copyI (τ' := x1) hx) (Nat.le_refl _) (Nat.le_refl _) wk_Co_37 ws_yX11_copy wn_ShareHouse wc_yX11_copy wy_yX11_copy rfl ⟨by decide, by decide⟩ (Nat.le_of_ble_eq_true rfl) ?_
  refine am_seg s_Co_become_25_1 (y := (19, [(0, .ref 25), (1, .ref 81)], [.ref 27, .ref 83], am_D x1)) hF t_s_Co_become_25_1 rfl rfl ?_
  refine am_bd h (fun x2 hx h => ?_)
  refine am_callSN (As := [.ref 83, .ref 27]) (r := none) (st := []) (σ' := am_D x2) (host := "ShareHouse") hF hR d_X1_become_19 (c_X_copyI (τ' := x2) hx) (Nat.le_refl _) (Nat.le_refl _) wk_Co_37 ws_yX11_copy wn_ShareHouse wc_yX11_copy wy_yX11_copy rfl ⟨by decide, by decide⟩ (Nat.le_of_ble_eq_true rfl) ?_
  refine am_seg s_Co_become_25_2 (y := (30, [(0, .ref 25), (1, .ref 81)], [.ref 28, .ref 84], am_D x2)) hF t_s_Co_become_25_2 rfl rfl ?_
  refine am_bd h (fun x3 hx h => ?_)
  refine am_callSN (As := [.ref 84, .ref 28]) (r := none) (st := []) (σ' := am_D x3) (host := "ShareHouse") hF hR d_X1_become_30 (c_X_copyI (τ' := x3) hx) (Nat.le_refl _) (Nat.le_refl _) wk_Co_37 ws_yX11_copy wn_ShareHouse wc_yX11_copy wy_yX11_copy rfl ⟨by decide, by decide⟩ (Nat.le_of_ble_eq_true rfl) ?_
  refine am_seg s_Co_become_25_3 (y := (41, [(0, .ref 25), (1, .ref 81)], [.ref 29, .ref 85], am_D x3)) hF t_s_Co_become_25_3 rfl rfl ?_
  refine am_bd h (fun x4 hx h => ?_)
  refine am_callSN (As := [.ref 85, .ref 29]) (r := none) (st := []) (σ' := am_D x4) (host := "ShareHouse") hF hR d_X1_become_41 (c_X_copyI (τ' := x4) hx) (Nat.le_refl _) (Nat.le_refl _) wk_Co_37 ws_yX11_copy wn_ShareHouse wc_yX11_copy wy_yX11_copy rfl ⟨by decide, by decide⟩ (Nat.le_of_ble_eq_true rfl) ?_
  refine am_seg s_Co_become_25_4 (y := (52, [(0, .ref 25), (1, .ref 81)], [.ref 30, .ref 86], am_D x4)) hF t_s_Co_become_25_4 rfl rfl ?_
  refine am_bd h (fun x5 hx h => ?_)
  refine am_callSN (As := [.ref 86, .ref 30]) (r := none) (st := []) (σ' := am_D x5) (host := "ShareHouse") hF hR d_X1_become_52 (c_X_copyZ (τ' := x5) hx) (Nat.le_refl _) (Nat.le_refl _) wk_Co_41 ws_yX11_copy_ wn_ShareHouse wc_yX11_copy_ wy_yX11_copy_ rfl ⟨by decide, by decide⟩ (Nat.le_of_ble_eq_true rfl) ?_
  refine am_seg s_Co_become_25_5 (y := (71, [(0, .ref 25), (1, .ref 81)], [.ref 31, .ref 87], am_D (am_si x5 25 5 (x5.1 81 5)))) hF t_s_Co_become_25_5 rfl rfl ?_
  refine am_bd h (fun x6 hx h => ?_)
  refine am_callSN (As := [.ref 87, .ref 31]) (r := none) (st := []) (σ' := am_D x6) (host := "ShareHouse") hF hR d_X1_become_71 (c_X_copyI (τ' := x6) hx) (Nat.le_refl _) (Nat.le_refl _) wk_Co_37 ws_yX11_copy wn_ShareHouse wc_yX11_copy wy_yX11_copy rfl ⟨by decide, by decide⟩ (Nat.le_of_ble_eq_true rfl) ?_
  refine am_seg s_Co_become_25_6 (y := (82, [(0, .ref 25), (1, .ref 81)], [.ref 32, .ref 88], am_D x6)) hF t_s_Co_become_25_6 rfl rfl ?_
  refine am_bd h (fun x7 hx h => ?_)
  refine am_callSN (As := [.ref 88, .ref 32]) (r := none) (st := []) (σ' := am_D x7) (host := "ShareHouse") hF hR d_X1_become_82 (c_X_copyI (τ' := x7) hx) (Nat.le_refl _) (Nat.le_refl _) wk_Co_37 ws_yX11_copy wn_ShareHouse wc_yX11_copy wy_yX11_copy rfl ⟨by decide, by decide⟩ (Nat.le_of_ble_eq_true rfl) ?_
  refine am_seg s_Co_become_25_7 (y := (93, [(0, .ref 25), (1, .ref 81)], [.ref 33, .ref 89], am_D x7)) hF t_s_Co_become_25_7 rfl rfl ?_
  refine am_bd h (fun x8 hx h => ?_)
  refine am_callSN (As := [.ref 89, .ref 33]) (r := none) (st := []) (σ' := am_D x8) (host := "ShareHouse") hF hR d_X1_become_93 (c_X_copyI (τ' := x8) hx) (Nat.le_refl _) (Nat.le_refl _) wk_Co_37 ws_yX11_copy wn_ShareHouse wc_yX11_copy wy_yX11_copy rfl ⟨by decide, by decide⟩ (Nat.le_of_ble_eq_true rfl) ?_
  refine am_seg s_Co_become_25_8 (y := (104, [(0, .ref 25), (1, .ref 81)], [], am_D (am_si x8 25 9 (x8.1 81 9)))) hF t_s_Co_become_25_8 rfl rfl ?_
  obtain rfl := am_one h
  exact am_vret d_X1_become_104 hF hB
theorem c_Co_become_25 {τ τ' : am_T} (h : Co_become_25 τ = some τ') : am_C yX1_become cX1_become 2 none 2 61 [.ref 25, .ref 81] (am_D τ) none (am_D τ') :=
  am_enter (by decide +kernel) (Nat.le_of_ble_eq_true rfl) ⟨Nat.le_refl _, Nat.le_refl _⟩ (fun X hF hR hB => ok_Co_become_25 hF hR hB h)
def s_Ow_become_34_0 : List am_Q := [(0, .aload_n 1, 0, 0, 0, .null), (1, .getfield 11, 5, 0, 40, .null), (4, .aload_n 0, 0, 0, 0, .null), (5, .getfield 11, 5, 0, 40, .null)]
theorem t_s_Ow_become_34_0 : s_Ow_become_34_0.all (am_ok 5 cX5_become) = true := by decide +kernel
def s_Ow_become_34_1 : List am_Q := [(11, .aload_n 1, 0, 0, 0, .null), (12, .getfield 15, 5, 1, 41, .null), (15, .aload_n 0, 0, 0, 0, .null), (16, .getfield 15, 5, 1, 41, .null)]
theorem t_s_Ow_become_34_1 : s_Ow_become_34_1.all (am_ok 5 cX5_become) = true := by decide +kernel
def s_Ow_become_34_2 : List am_Q := [(22, .aload_n 1, 0, 0, 0, .null), (23, .getfield 18, 5, 2, 42, .null), (26, .aload_n 0, 0, 0, 0, .null), (27, .getfield 18, 5, 2, 42, .null)]
theorem t_s_Ow_become_34_2 : s_Ow_become_34_2.all (am_ok 5 cX5_become) = true := by decide +kernel
def s_Ow_become_34_3 : List am_Q := [(33, .aload_n 0, 0, 0, 0, .null), (34, .aload_n 1, 0, 0, 0, .null), (35, .getfield 34, 5, 3, 43, .null), (38, .putfield 34, 5, 3, 43, .null), (41, .aload_n 1, 0, 0, 0, .null), (42, .getfield 21, 5, 4, 45, .null), (45, .aload_n 0, 0, 0, 0, .null), (46, .getfield 21, 5, 4, 45, .null)]
theorem t_s_Ow_become_34_3 : s_Ow_become_34_3.all (am_ok 5 cX5_become) = true := by decide +kernel
def s_Ow_become_34_4 : List am_Q := [(52, .aload_n 1, 0, 0, 0, .null), (53, .getfield 24, 5, 5, 47, .null), (56, .aload_n 0, 0, 0, 0, .null), (57, .getfield 24, 5, 5, 47, .null)]
theorem t_s_Ow_become_34_4 : s_Ow_become_34_4.all (am_ok 5 cX5_become) = true := by decide +kernel
def s_Ow_become_34_5 : List am_Q := [(63, .aload_n 1, 0, 0, 0, .null), (64, .getfield 27, 5, 6, 49, .null), (67, .aload_n 0, 0, 0, 0, .null), (68, .getfield 27, 5, 6, 49, .null)]
theorem t_s_Ow_become_34_5 : s_Ow_become_34_5.all (am_ok 5 cX5_become) = true := by decide +kernel
def s_Ow_become_34_6 : List am_Q := [(74, .aload_n 0, 0, 0, 0, .null), (75, .aload_n 1, 0, 0, 0, .null), (76, .getfield 38, 5, 7, 51, .null), (79, .putfield 38, 5, 7, 51, .null)]
theorem t_s_Ow_become_34_6 : s_Ow_become_34_6.all (am_ok 5 cX5_become) = true := by decide +kernel
def Ow_become_34 (τ : am_T) : Option (am_T) :=
  (X_copyI τ 91 35).bind (fun x1 =>
  (X_copyI x1 92 36).bind (fun x2 =>
  (X_copyI x2 93 37).bind (fun x3 =>
  (X_copyI (am_si x3 34 3 (x3.1 90 3)) 94 38).bind (fun x4 =>
  (X_copyI x4 95 39).bind (fun x5 =>
  (X_copyI x5 96 40).bind (fun x6 =>
  some (am_si x6 34 7 (x6.1 90 7))))))))
set_option maxRecDepth 20000 in
theorem ok_Ow_become_34 {X : am_X} {τ τ' : am_T} (hF : am_F X "ShareHouse$Owners" cX5_become 2) (hR : am_R X 2 61) (hB : am_B X none none (am_D τ')) (h : Ow_become_34 τ = some τ') : am_W X 2 (0, [(0, .ref 34), (1, .ref 90)], [], am_D τ) := by
  unfold Ow_become_34 at h
  refine am_seg s_Ow_become_34_0 (y := (8, [(0, .ref 34), (1, .ref 90)], [.ref 35, .ref 91], am_D τ)) hF t_s_Ow_become_34_0 rfl rfl ?_
  refine am_bd h (fun x1 hx h => ?_)
  refine am_callSN (As := [.ref 91, .ref 35]) (r := none) (st := []) (σ' := am_D x1) (host := "ShareHouse") hF hR d_X5_become_8 (c_X_copyI (τ' := x1) hx) (Nat.le_refl _) (Nat.le_refl _) wk_Ow_30 ws_yX11_copy wn_ShareHouse wc_yX11_copy wy_yX11_copy rfl ⟨by decide, by decide⟩ (Nat.le_of_ble_eq_true rfl) ?_
  refine am_seg s_Ow_become_34_1 (y := (19, [(0, .ref 34), (1, .ref 90)], [.ref 36, .ref 92], am_D x1)) hF t_s_Ow_become_34_1 rfl rfl ?_
  refine am_bd h (fun x2 hx h => ?_)
  refine am_callSN (As := [.ref 92, .ref 36]) (r := none) (st := []) (σ' := am_D x2) (host := "ShareHouse") hF hR d_X5_become_19 (c_X_copyI (τ' := x2) hx) (Nat.le_refl _) (Nat.le_refl _) wk_Ow_30 ws_yX11_copy wn_ShareHouse wc_yX11_copy wy_yX11_copy rfl ⟨by decide, by decide⟩ (Nat.le_of_ble_eq_true rfl) ?_
  refine am_seg s_Ow_become_34_2 (y := (30, [(0, .ref 34), (1, .ref 90)], [.ref 37, .ref 93], am_D x2)) hF t_s_Ow_become_34_2 rfl rfl ?_
  refine am_bd h (fun x3 hx h => ?_)
  refine am_callSN (As := [.ref 93, .ref 37]) (r := none) (st := []) (σ' := am_D x3) (host := "ShareHouse") hF hR d_X5_become_30 (c_X_copyI (τ' := x3) hx) (Nat.le_refl _) (Nat.le_refl _) wk_Ow_30 ws_yX11_copy wn_ShareHouse wc_yX11_copy wy_yX11_copy rfl ⟨by decide, by decide⟩ (Nat.le_of_ble_eq_true rfl) ?_
  refine am_seg s_Ow_become_34_3 (y := (49, [(0, .ref 34), (1, .ref 90)], [.ref 38, .ref 94], am_D (am_si x3 34 3 (x3.1 90 3)))) hF t_s_Ow_become_34_3 rfl rfl ?_
  refine am_bd h (fun x4 hx h => ?_)
  refine am_callSN (As := [.ref 94, .ref 38]) (r := none) (st := []) (σ' := am_D x4) (host := "ShareHouse") hF hR d_X5_become_49 (c_X_copyI (τ' := x4) hx) (Nat.le_refl _) (Nat.le_refl _) wk_Ow_30 ws_yX11_copy wn_ShareHouse wc_yX11_copy wy_yX11_copy rfl ⟨by decide, by decide⟩ (Nat.le_of_ble_eq_true rfl) ?_
  refine am_seg s_Ow_become_34_4 (y := (60, [(0, .ref 34), (1, .ref 90)], [.ref 39, .ref 95], am_D x4)) hF t_s_Ow_become_34_4 rfl rfl ?_
  refine am_bd h (fun x5 hx h => ?_)
  refine am_callSN (As := [.ref 95, .ref 39]) (r := none) (st := []) (σ' := am_D x5) (host := "ShareHouse") hF hR d_X5_become_60 (c_X_copyI (τ' := x5) hx) (Nat.le_refl _) (Nat.le_refl _) wk_Ow_30 ws_yX11_copy wn_ShareHouse wc_yX11_copy wy_yX11_copy rfl ⟨by decide, by decide⟩ (Nat.le_of_ble_eq_true rfl) ?_
  refine am_seg s_Ow_become_34_5 (y := (71, [(0, .ref 34), (1, .ref 90)], [.ref 40, .ref 96], am_D x5)) hF t_s_Ow_become_34_5 rfl rfl ?_
  refine am_bd h (fun x6 hx h => ?_)
  refine am_callSN (As := [.ref 96, .ref 40]) (r := none) (st := []) (σ' := am_D x6) (host := "ShareHouse") hF hR d_X5_become_71 (c_X_copyI (τ' := x6) hx) (Nat.le_refl _) (Nat.le_refl _) wk_Ow_30 ws_yX11_copy wn_ShareHouse wc_yX11_copy wy_yX11_copy rfl ⟨by decide, by decide⟩ (Nat.le_of_ble_eq_true rfl) ?_
  refine am_seg s_Ow_become_34_6 (y := (82, [(0, .ref 34), (1, .ref 90)], [], am_D (am_si x6 34 7 (x6.1 90 7)))) hF t_s_Ow_become_34_6 rfl rfl ?_
  obtain rfl := am_one h
  exact am_vret d_X5_become_82 hF hB
theorem c_Ow_become_34 {τ τ' : am_T} (h : Ow_become_34 τ = some τ') : am_C yX5_become cX5_become 2 none 2 61 [.ref 34, .ref 90] (am_D τ) none (am_D τ') :=
  am_enter (by decide +kernel) (Nat.le_of_ble_eq_true rfl) ⟨Nat.le_refl _, Nat.le_refl _⟩ (fun X hF hR hB => ok_Ow_become_34 hF hR hB h)

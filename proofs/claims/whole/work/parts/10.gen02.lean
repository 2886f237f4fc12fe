def s_X_lease_0 : List am_Q := [(0, .aload_n 0, 0, 0, 0, .null), (1, .getfield 10, 11, 0, 145, .null), (4, .getfield 51, 3, 3, 95, .null), (7, .iload_n 1, 0, 0, 0, .null)]
theorem t_s_X_lease_0 : s_X_lease_0.all (am_ok 11 cX11_lease) = true := by decide +kernel
theorem d_X11_lease_8 : decode cX11_lease 8 = .ok (.invokevirtual 68, 3) := by decide +kernel
theorem d_X11_lease_11 : decode cX11_lease 11 = .ok (.ifCond .eq 11, 3) := by decide +kernel
def s_X_lease_1 : List am_Q := [(22, .iconst (-1), 0, 0, 0, .int (-1 : Int32)), (23, .istore_n 2, 0, 0, 0, .null), (24, .aload_n 0, 0, 0, 0, .null), (25, .getfield 22, 11, 3, 148, .null)]
theorem t_s_X_lease_1 : s_X_lease_1.all (am_ok 11 cX11_lease) = true := by decide +kernel
theorem d_X11_lease_28 : decode cX11_lease 28 = .ok (.invokevirtual 76, 3) := by decide +kernel
def s_X_lease_2 : List am_Q := [(31, .iload_n 2, 0, 0, 0, .null)]
theorem t_s_X_lease_2 : s_X_lease_2.all (am_ok 11 cX11_lease) = true := by decide +kernel
theorem d_X11_lease_32 : decode cX11_lease 32 = .ok (.ireturn, 1) := by decide +kernel
def s_X_lease_3 : List am_Q := [(14, .aload_n 0, 0, 0, 0, .null), (15, .iload_n 1, 0, 0, 0, .null)]
theorem t_s_X_lease_3 : s_X_lease_3.all (am_ok 11 cX11_lease) = true := by decide +kernel
theorem d_X11_lease_16 : decode cX11_lease 16 = .ok (.invokevirtual 72, 3) := by decide +kernel
def s_X_lease_4 : List am_Q := [(19, .goto 4, 23, 0, 0, .null), (23, .istore_n 2, 0, 0, 0, .null), (24, .aload_n 0, 0, 0, 0, .null), (25, .getfield 22, 11, 3, 148, .null)]
theorem t_s_X_lease_4 : s_X_lease_4.all (am_ok 11 cX11_lease) = true := by decide +kernel
def s_X_lease_5 : List am_Q := [(31, .iload_n 2, 0, 0, 0, .null)]
theorem t_s_X_lease_5 : s_X_lease_5.all (am_ok 11 cX11_lease) = true := by decide +kernel
def X_lease (τ : am_T) (a1 : Int32) : Option (Int32 × am_T) :=
  (Fl_has τ a1).bind (fun x1 =>
  if x1.1 = 0 then
  ((Ta_clear x1.2).bind (fun x2 =>
  some ((-1 : Int32), x2)))
else
  ((X_readLease x1.2 a1).bind (fun x3 =>
  (Ta_clear x3.2).bind (fun x4 =>
  some (x3.1, x4)))))
set_option maxRecDepth 20000 in
theorem ok_X_lease {X : am_X} {a1 : Int32} {v : Int32} {τ τ' : am_T} (hF : am_F X "ShareHouse" cX11_lease 3) (hR : am_R X 11 239) (hB : am_B X (some .int) (some (.int v)) (am_D τ')) (h : X_lease τ a1 = some (v, τ')) : am_W X 3 (0, [(0, .ref 0), (1, .int a1)], [], am_D τ) := by
  unfold X_lease at h
  refine am_seg s_X_lease_0 (y := (8, [(0, .ref 0), (1, .int a1)], [.int a1, .ref 4], am_D τ)) hF t_s_X_lease_0 rfl rfl ?_
  refine am_bd h (fun x1 hx h => ?_)
  refine am_callV (As := [.int a1]) (r := (some (.int x1.1))) (st := []) (σ' := am_D x1.2) (ci := 2) hF hR d_X11_lease_8 (c_Fl_has (τ' := x1.2) hx) (Nat.le_refl _) (Nat.le_refl _) wl_X_68 wi_yX2_has we_yX2_has wn_ShareHouse_Flats wc_yX2_has (Nat.le_of_ble_eq_true rfl) (Nat.le_of_ble_eq_true rfl) rfl rfl wy_yX2_has rfl ⟨by decide, by decide⟩ (Nat.le_of_ble_eq_true rfl) ?_
  refine am_ite h (fun hc h => ?_) (fun hc h => ?_)
  · refine am_if_eq_t (t := 22) d_X11_lease_11 (by decide) hc hF ?_
    refine am_seg s_X_lease_1 (y := (28, [(2, .int (-1 : Int32)), (0, .ref 0), (1, .int a1)], [.ref 113], am_D x1.2)) hF t_s_X_lease_1 rfl rfl ?_
    refine am_bd h (fun x2 hx h => ?_)
    refine am_callV (As := []) (r := none) (st := []) (σ' := am_D x2) (ci := 9) hF hR d_X11_lease_28 (c_Ta_clear (τ' := x2) hx) (Nat.le_refl _) (Nat.le_refl _) wl_X_76 wi_yX9_clear we_yX9_clear wn_ShareHouse_Tape wc_yX9_clear (Nat.le_of_ble_eq_true rfl) (Nat.le_of_ble_eq_true rfl) rfl rfl wy_yX9_clear rfl ⟨by decide, by decide⟩ (Nat.le_of_ble_eq_true rfl) ?_
    refine am_seg s_X_lease_2 (y := (32, [(2, .int (-1 : Int32)), (0, .ref 0), (1, .int a1)], [.int (-1 : Int32)], am_D x2)) hF t_s_X_lease_2 rfl rfl ?_
    obtain ⟨rfl, rfl⟩ := am_pair h
    exact am_iret d_X11_lease_32 hF hB
  · refine am_if_eq_f (t := 22) d_X11_lease_11 (by decide) hc hF ?_
    refine am_seg s_X_lease_3 (y := (16, [(0, .ref 0), (1, .int a1)], [.int a1, .ref 0], am_D x1.2)) hF t_s_X_lease_3 rfl rfl ?_
    refine am_bd h (fun x3 hx h => ?_)
    refine am_callV (As := [.int a1]) (r := (some (.int x3.1))) (st := []) (σ' := am_D x3.2) (ci := 11) hF hR d_X11_lease_16 (c_X_readLease (τ' := x3.2) hx) (Nat.le_refl _) (Nat.le_refl _) wl_X_72 wi_yX11_readLease we_yX11_readLease wn_ShareHouse wc_yX11_readLease (Nat.le_of_ble_eq_true rfl) (Nat.le_of_ble_eq_true rfl) rfl rfl wy_yX11_readLease rfl ⟨by decide, by decide⟩ (Nat.le_of_ble_eq_true rfl) ?_
    refine am_seg s_X_lease_4 (y := (28, [(2, .int x3.1), (0, .ref 0), (1, .int a1)], [.ref 113], am_D x3.2)) hF t_s_X_lease_4 rfl rfl ?_
    refine am_bd h (fun x4 hx h => ?_)
    refine am_callV (As := []) (r := none) (st := []) (σ' := am_D x4) (ci := 9) hF hR d_X11_lease_28 (c_Ta_clear (τ' := x4) hx) (Nat.le_refl _) (Nat.le_refl _) wl_X_76 wi_yX9_clear we_yX9_clear wn_ShareHouse_Tape wc_yX9_clear (Nat.le_of_ble_eq_true rfl) (Nat.le_of_ble_eq_true rfl) rfl rfl wy_yX9_clear rfl ⟨by decide, by decide⟩ (Nat.le_of_ble_eq_true rfl) ?_
    refine am_seg s_X_lease_5 (y := (32, [(2, .int x3.1), (0, .ref 0), (1, .int a1)], [.int x3.1], am_D x4)) hF t_s_X_lease_5 rfl rfl ?_
    obtain ⟨rfl, rfl⟩ := am_pair h
    exact am_iret d_X11_lease_32 hF hB
theorem c_X_lease {a1 : Int32} {v : Int32} {τ τ' : am_T} (h : X_lease τ a1 = some (v, τ')) : am_C yX11_lease cX11_lease 3 (some .int) 11 239 [.ref 0, .int a1] (am_D τ) (some (.int v)) (am_D τ') :=
  am_enter (by decide +kernel) (Nat.le_of_ble_eq_true rfl) ⟨Nat.le_refl _, Nat.le_refl _⟩ (fun X hF hR hB => ok_X_lease hF hR hB h)
def s_Le_cell_0 : List am_Q := [(0, .aload_n 0, 0, 0, 0, .null)]
theorem t_s_Le_cell_0 : s_Le_cell_0.all (am_ok 4 cX4_cell) = true := by decide +kernel
theorem d_X4_cell_1 : decode cX4_cell 1 = .ok (.getfield 9, 3) := by decide +kernel
def s_Le_cell_1 : List am_Q := [(4, .iload_n 1, 0, 0, 0, .null), (5, .bipush 6, 0, 0, 0, .int (nI 6)), (7, .imul, 0, 0, 0, .null), (8, .iload_n 2, 0, 0, 0, .null), (9, .iadd, 0, 0, 0, .null)]
theorem t_s_Le_cell_1 : s_Le_cell_1.all (am_ok 4 cX4_cell) = true := by decide +kernel
theorem d_X4_cell_10 : decode cX4_cell 10 = .ok (.iaload, 1) := by decide +kernel
theorem d_X4_cell_11 : decode cX4_cell 11 = .ok (.ireturn, 1) := by decide +kernel
def Le_cell (τ : am_T) (a0 : Nat) (a1 : Int32) (a2 : Int32) : Option (Int32 × am_T) :=
  am_g (am_isO a0 4) ((am_RF a0 0).bind fun q1 =>
  am_g (am_isI q1) (am_g (am_in ((a1 * (nI 6)) + a2) (am_sh q1).2) (some ((τ.1 q1 (((a1 * (nI 6)) + a2).toNatClampNeg)), τ))))
set_option maxRecDepth 20000 in
theorem ok_Le_cell {X : am_X} {a0 : Nat} {a1 : Int32} {a2 : Int32} {v : Int32} {τ τ' : am_T} (hF : am_F X "ShareHouse$Lease" cX4_cell 3) (hR : am_R X 0 0) (hB : am_B X (some .int) (some (.int v)) (am_D τ')) (h : Le_cell τ a0 a1 a2 = some (v, τ')) : am_W X 3 (0, [(0, .ref a0), (1, .int a1), (2, .int a2)], [], am_D τ) := by
  unfold Le_cell at h
  refine am_seg s_Le_cell_0 (y := (1, [(0, .ref a0), (1, .int a1), (2, .int a2)], [.ref a0], am_D τ)) hF t_s_Le_cell_0 rfl rfl ?_
  refine am_gd h (fun hg h => ?_)
  refine am_bd h (fun q1 hq h => ?_)
  refine am_get (b := 0) (v := .ref q1) d_X4_cell_1 (am_isO_of hg).1 (am_isO_of hg).2.1 (am_isO_of hg).2.2 rfl (Nat.le_of_ble_eq_true rfl) am_fl0 (by show (am_RF _ _).map Value.ref = _; rw [hq]; rfl) hF ?_
  refine am_seg s_Le_cell_1 (y := (10, [(0, .ref a0), (1, .int a1), (2, .int a2)], [.int ((a1 * (nI 6)) + a2), .ref q1], am_D τ)) hF t_s_Le_cell_1 rfl rfl ?_
  refine am_gd h (fun hg h => ?_)
  refine am_gd h (fun hi h => ?_)
  refine am_iald (n := (am_sh q1).2) (j := (((a1 * (nI 6)) + a2).toNatClampNeg)) d_X4_cell_10 (am_isI_of hg).1 (am_isI_of hg).2.1 (am_isI_of hg).2.2 hi rfl hF ?_
  obtain ⟨rfl, rfl⟩ := am_pair h
  exact am_iret d_X4_cell_11 hF hB
theorem c_Le_cell {a0 : Nat} {a1 : Int32} {a2 : Int32} {v : Int32} {τ τ' : am_T} (h : Le_cell τ a0 a1 a2 = some (v, τ')) : am_C yX4_cell cX4_cell 3 (some .int) 0 0 [.ref a0, .int a1, .int a2] (am_D τ) (some (.int v)) (am_D τ') :=
  am_enter (by decide +kernel) (Nat.le_of_ble_eq_true rfl) ⟨Nat.le_refl _, Nat.le_refl _⟩ (fun X hF hR hB => ok_Le_cell hF hR hB h)
def s_X_clause_0 : List am_Q := [(0, .aload_n 0, 0, 0, 0, .null), (1, .getfield 10, 11, 0, 145, .null), (4, .getfield 51, 3, 3, 95, .null), (7, .iload_n 1, 0, 0, 0, .null)]
theorem t_s_X_clause_0 : s_X_clause_0.all (am_ok 11 cX11_clause) = true := by decide +kernel
theorem d_X11_clause_8 : decode cX11_clause 8 = .ok (.invokevirtual 68, 3) := by decide +kernel
theorem d_X11_clause_11 : decode cX11_clause 11 = .ok (.ifCond .ne 5, 3) := by decide +kernel
def s_X_clause_1 : List am_Q := [(16, .aload_n 0, 0, 0, 0, .null), (17, .getfield 10, 11, 0, 145, .null), (20, .getfield 51, 3, 3, 95, .null), (23, .getfield 91, 2, 3, 14, .null), (26, .iload_n 1, 0, 0, 0, .null)]
theorem t_s_X_clause_1 : s_X_clause_1.all (am_ok 11 cX11_clause) = true := by decide +kernel
theorem d_X11_clause_27 : decode cX11_clause 27 = .ok (.aaload, 1) := by decide +kernel
def s_X_clause_2 : List am_Q := [(28, .astore 4, 0, 0, 0, .null), (30, .iload_n 2, 0, 0, 0, .null), (31, .iconst 0, 0, 0, 0, .int (nI 0)), (32, .aload 4, 0, 0, 0, .null)]
theorem t_s_X_clause_2 : s_X_clause_2.all (am_ok 11 cX11_clause) = true := by decide +kernel
theorem d_X11_clause_34 : decode cX11_clause 34 = .ok (.getfield 105, 3) := by decide +kernel
def s_X_clause_3 : List am_Q := [(37, .iconst 1, 0, 0, 0, .int (nI 1)), (38, .isub, 0, 0, 0, .null)]
theorem t_s_X_clause_3 : s_X_clause_3.all (am_ok 11 cX11_clause) = true := by decide +kernel
theorem d_X11_clause_39 : decode cX11_clause 39 = .ok (.invokestatic 47, 3) := by decide +kernel
theorem d_X11_clause_42 : decode cX11_clause 42 = .ok (.ifCond .eq 12, 3) := by decide +kernel
def s_X_clause_4 : List am_Q := [(54, .iconst (-1), 0, 0, 0, .int (-1 : Int32))]
theorem t_s_X_clause_4 : s_X_clause_4.all (am_ok 11 cX11_clause) = true := by decide +kernel
theorem d_X11_clause_55 : decode cX11_clause 55 = .ok (.ireturn, 1) := by decide +kernel
def s_X_clause_5 : List am_Q := [(45, .iload_n 3, 0, 0, 0, .null), (46, .iconst 0, 0, 0, 0, .int (nI 0)), (47, .iconst 5, 0, 0, 0, .int (nI 5))]
theorem t_s_X_clause_5 : s_X_clause_5.all (am_ok 11 cX11_clause) = true := by decide +kernel
theorem d_X11_clause_48 : decode cX11_clause 48 = .ok (.invokestatic 47, 3) := by decide +kernel
theorem d_X11_clause_51 : decode cX11_clause 51 = .ok (.ifCond .ne 5, 3) := by decide +kernel
def s_X_clause_6 : List am_Q := [(56, .aload 4, 0, 0, 0, .null), (58, .iload_n 2, 0, 0, 0, .null), (59, .iload_n 3, 0, 0, 0, .null)]
theorem t_s_X_clause_6 : s_X_clause_6.all (am_ok 11 cX11_clause) = true := by decide +kernel
theorem d_X11_clause_60 : decode cX11_clause 60 = .ok (.invokevirtual 108, 3) := by decide +kernel
theorem d_X11_clause_63 : decode cX11_clause 63 = .ok (.ireturn, 1) := by decide +kernel
def s_X_clause_7 : List am_Q := [(54, .iconst (-1), 0, 0, 0, .int (-1 : Int32))]
theorem t_s_X_clause_7 : s_X_clause_7.all (am_ok 11 cX11_clause) = true := by decide +kernel
def s_X_clause_8 : List am_Q := [(14, .iconst (-1), 0, 0, 0, .int (-1 : Int32))]
theorem t_s_X_clause_8 : s_X_clause_8.all (am_ok 11 cX11_clause) = true := by decide +kernel
theorem d_X11_clause_15 : decode cX11_clause 15 = .ok (.ireturn, 1) := by decide +kernel
def X_clause (τ : am_T) (a1 : Int32) (a2 : Int32) (a3 : Int32) : Option (Int32 × am_T) :=
  (Fl_has τ a1).bind (fun x1 =>
  if x1.1 = 0 then
  (some ((-1 : Int32), x1.2))
else
  (am_g (am_in a1 8) ((am_RF 8 (a1.toNatClampNeg)).bind (fun q2 =>
  am_g (am_isO q2 4) ((X_within x1.2 a2 (nI 0) ((x1.2.1 q2 1) - (nI 1))).bind (fun x3 =>
  if x3.1 = 0 then
  (some ((-1 : Int32), x3.2))
else
  ((X_within x3.2 a3 (nI 0) (nI 5)).bind (fun x4 =>
  if x4.1 = 0 then
  (some ((-1 : Int32), x4.2))
else
  (am_g (am_isO q2 4) ((Le_cell x4.2 q2 a2 a3).bind (fun x5 =>
  some (x5.1, x5.2))))))))))))
set_option maxRecDepth 20000 in
theorem ok_X_clause {X : am_X} {a1 : Int32} {a2 : Int32} {a3 : Int32} {v : Int32} {τ τ' : am_T} (hF : am_F X "ShareHouse" cX11_clause 5) (hR : am_R X 2 43) (hB : am_B X (some .int) (some (.int v)) (am_D τ')) (h : X_clause τ a1 a2 a3 = some (v, τ')) : am_W X 5 (0, [(0, .ref 0), (1, .int a1), (2, .int a2), (3, .int a3)], [], am_D τ) := by
  unfold X_clause at h
  refine am_seg s_X_clause_0 (y := (8, [(0, .ref 0), (1, .int a1), (2, .int a2), (3, .int a3)], [.int a1, .ref 4], am_D τ)) hF t_s_X_clause_0 rfl rfl ?_
  refine am_bd h (fun x1 hx h => ?_)
  refine am_callV (As := [.int a1]) (r := (some (.int x1.1))) (st := []) (σ' := am_D x1.2) (ci := 2) hF hR d_X11_clause_8 (c_Fl_has (τ' := x1.2) hx) (Nat.le_refl _) (Nat.le_refl _) wl_X_68 wi_yX2_has we_yX2_has wn_ShareHouse_Flats wc_yX2_has (Nat.le_of_ble_eq_true rfl) (Nat.le_of_ble_eq_true rfl) rfl rfl wy_yX2_has rfl ⟨by decide, by decide⟩ (Nat.le_of_ble_eq_true rfl) ?_
  refine am_ite h (fun hc h => ?_) (fun hc h => ?_)
  · refine am_if_ne_f (t := 16) d_X11_clause_11 (by decide) hc hF ?_
    refine am_seg s_X_clause_8 (y := (15, [(0, .ref 0), (1, .int a1), (2, .int a2), (3, .int a3)], [.int (-1 : Int32)], am_D x1.2)) hF t_s_X_clause_8 rfl rfl ?_
    obtain ⟨rfl, rfl⟩ := am_pair h
    exact am_iret d_X11_clause_15 hF hB
  · refine am_if_ne_t (t := 16) d_X11_clause_11 (by decide) hc hF ?_
    refine am_seg s_X_clause_1 (y := (27, [(0, .ref 0), (1, .int a1), (2, .int a2), (3, .int a3)], [.int a1, .ref 8], am_D x1.2)) hF t_s_X_clause_1 rfl rfl ?_
    refine am_gd h (fun hi h => ?_)
    refine am_bd h (fun q2 hq h => ?_)
    refine am_aald (n := 8) (j := (a1.toNatClampNeg)) (q := q2) d_X11_clause_27 (Nat.le_of_ble_eq_true rfl) (Nat.le_of_ble_eq_true rfl) rfl hi rfl hq hF ?_
    refine am_seg s_X_clause_2 (y := (34, [(4, .ref q2), (0, .ref 0), (1, .int a1), (2, .int a2), (3, .int a3)], [.ref q2, .int (nI 0), .int a2], am_D x1.2)) hF t_s_X_clause_2 rfl rfl ?_
    refine am_gd h (fun hg h => ?_)
    refine am_get (b := 1) (v := .int (x1.2.1 q2 1)) d_X11_clause_34 (am_isO_of hg).1 (am_isO_of hg).2.1 (am_isO_of hg).2.2 rfl (Nat.le_of_ble_eq_true rfl) am_fl3 rfl hF ?_
    refine am_seg s_X_clause_3 (y := (39, [(4, .ref q2), (0, .ref 0), (1, .int a1), (2, .int a2), (3, .int a3)], [.int ((x1.2.1 q2 1) - (nI 1)), .int (nI 0), .int a2], am_D x1.2)) hF t_s_X_clause_3 rfl rfl ?_
    refine am_bd h (fun x3 hx h => ?_)
    refine am_callS (As := [.int a2, .int (nI 0), .int ((x1.2.1 q2 1) - (nI 1))]) (r := (some (.int x3.1))) (st := []) (σ' := am_D x3.2) hF hR d_X11_clause_39 (c_X_within (τ' := x3.2) hx) (Nat.le_refl _) (Nat.le_refl _) wl_X_47 ws_yX11_within wn_ShareHouse wc_yX11_within wy_yX11_within rfl ⟨by decide, by decide⟩ (Nat.le_of_ble_eq_true rfl) ?_
    refine am_ite h (fun hc h => ?_) (fun hc h => ?_)
    · refine am_if_eq_t (t := 54) d_X11_clause_42 (by decide) hc hF ?_
      refine am_seg s_X_clause_4 (y := (55, [(4, .ref q2), (0, .ref 0), (1, .int a1), (2, .int a2), (3, .int a3)], [.int (-1 : Int32)], am_D x3.2)) hF t_s_X_clause_4 rfl rfl ?_
      obtain ⟨rfl, rfl⟩ := am_pair h
      exact am_iret d_X11_clause_55 hF hB
    · refine am_if_eq_f (t := 54) d_X11_clause_42 (by decide) hc hF ?_
      refine am_seg s_X_clause_5 (y := (48, [(4, .ref q2), (0, .ref 0), (1, .int a1), (2, .int a2), (3, .int a3)], [.int (nI 5), .int (nI 0), .int a3], am_D x3.2)) hF t_s_X_clause_5 rfl rfl ?_
      refine am_bd h (fun x4 hx h => ?_)
      refine am_callS (As := [.int a3, .int (nI 0), .int (nI 5)]) (r := (some (.int x4.1))) (st := []) (σ' := am_D x4.2) hF hR d_X11_clause_48 (c_X_within (τ' := x4.2) hx) (Nat.le_refl _) (Nat.le_refl _) wl_X_47 ws_yX11_within wn_ShareHouse wc_yX11_within wy_yX11_within rfl ⟨by decide, by decide⟩ (Nat.le_of_ble_eq_true rfl) ?_
      refine am_ite h (fun hc h => ?_) (fun hc h => ?_)
      · refine am_if_ne_f (t := 56) d_X11_clause_51 (by decide) hc hF ?_
        refine am_seg s_X_clause_7 (y := (55, [(4, .ref q2), (0, .ref 0), (1, .int a1), (2, .int a2), (3, .int a3)], [.int (-1 : Int32)], am_D x4.2)) hF t_s_X_clause_7 rfl rfl ?_
        obtain ⟨rfl, rfl⟩ := am_pair h
        exact am_iret d_X11_clause_55 hF hB
      · refine am_if_ne_t (t := 56) d_X11_clause_51 (by decide) hc hF ?_
        refine am_seg s_X_clause_6 (y := (60, [(4, .ref q2), (0, .ref 0), (1, .int a1), (2, .int a2), (3, .int a3)], [.int a3, .int a2, .ref q2], am_D x4.2)) hF t_s_X_clause_6 rfl rfl ?_
        refine am_gd h (fun hg h => ?_)
        refine am_bd h (fun x5 hx h => ?_)
        refine am_callV (As := [.int a2, .int a3]) (r := (some (.int x5.1))) (st := []) (σ' := am_D x5.2) (ci := 4) hF hR d_X11_clause_60 (c_Le_cell (τ' := x5.2) hx) (Nat.le_refl _) (Nat.le_refl _) wl_X_108 wi_yX4_cell we_yX4_cell wn_ShareHouse_Lease wc_yX4_cell (am_isO_of hg).1 (am_isO_of hg).2.1 (am_isO_of hg).2.2 rfl wy_yX4_cell rfl ⟨by decide, by decide⟩ (Nat.le_of_ble_eq_true rfl) ?_
        obtain ⟨rfl, rfl⟩ := am_pair h
        exact am_iret d_X11_clause_63 hF hB
theorem c_X_clause {a1 : Int32} {a2 : Int32} {a3 : Int32} {v : Int32} {τ τ' : am_T} (h : X_clause τ a1 a2 a3 = some (v, τ')) : am_C yX11_clause cX11_clause 5 (some .int) 2 43 [.ref 0, .int a1, .int a2, .int a3] (am_D τ) (some (.int v)) (am_D τ') :=
  am_enter (by decide +kernel) (Nat.le_of_ble_eq_true rfl) ⟨Nat.le_refl _, Nat.le_refl _⟩ (fun X hF hR hB => ok_X_clause hF hR hB h)
def s_X_isHead_0 : List am_Q := [(0, .iload_n 0, 0, 0, 0, .null), (1, .iconst 0, 0, 0, 0, .int (nI 0)), (2, .iconst 5, 0, 0, 0, .int (nI 5))]
theorem t_s_X_isHead_0 : s_X_isHead_0.all (am_ok 11 cX11_isHead) = true := by decide +kernel
theorem d_X11_isHead_3 : decode cX11_isHead 3 = .ok (.invokestatic 47, 3) := by decide +kernel
theorem d_X11_isHead_6 : decode cX11_isHead 6 = .ok (.ireturn, 1) := by decide +kernel
def X_isHead (τ : am_T) (a0 : Int32) : Option (Int32 × am_T) :=
  (X_within τ a0 (nI 0) (nI 5)).bind (fun x1 =>
  am_g (am_z01 x1.1) (some (x1.1, x1.2)))
set_option maxRecDepth 20000 in
theorem ok_X_isHead {X : am_X} {a0 : Int32} {v : Int32} {τ τ' : am_T} (hF : am_F X "ShareHouse" cX11_isHead 1) (hR : am_R X 1 22) (hB : am_B X (some .boolean) (some (.int v)) (am_D τ')) (h : X_isHead τ a0 = some (v, τ')) : am_W X 1 (0, [(0, .int a0)], [], am_D τ) := by
  unfold X_isHead at h
  refine am_seg s_X_isHead_0 (y := (3, [(0, .int a0)], [.int (nI 5), .int (nI 0), .int a0], am_D τ)) hF t_s_X_isHead_0 rfl rfl ?_
  refine am_bd h (fun x1 hx h => ?_)
  refine am_callS (As := [.int a0, .int (nI 0), .int (nI 5)]) (r := (some (.int x1.1))) (st := []) (σ' := am_D x1.2) hF hR d_X11_isHead_3 (c_X_within (τ' := x1.2) hx) (Nat.le_refl _) (Nat.le_refl _) wl_X_47 ws_yX11_within wn_ShareHouse wc_yX11_within wy_yX11_within rfl ⟨by decide, by decide⟩ (Nat.le_of_ble_eq_true rfl) ?_
  refine am_gd h (fun hz h => ?_)
  obtain ⟨rfl, rfl⟩ := am_pair h
  exact am_zret d_X11_isHead_6 (am_z01_n hz) hF hB
theorem c_X_isHead {a0 : Int32} {v : Int32} {τ τ' : am_T} (h : X_isHead τ a0 = some (v, τ')) : am_C yX11_isHead cX11_isHead 1 (some .boolean) 1 22 [.int a0] (am_D τ) (some (.int v)) (am_D τ') :=
  am_enter (by decide +kernel) (Nat.le_of_ble_eq_true rfl) ⟨Nat.le_refl _, Nat.le_refl _⟩ (fun X hF hR hB => ok_X_isHead hF hR hB h)
def s_Le_lastFor_0 : List am_Q := [(0, .aload_n 0, 0, 0, 0, .null)]
theorem t_s_Le_lastFor_0 : s_Le_lastFor_0.all (am_ok 4 cX4_lastFor) = true := by decide +kernel
theorem d_X4_lastFor_1 : decode cX4_lastFor 1 = .ok (.getfield 19, 3) := by decide +kernel
def s_Le_lastFor_1 : List am_Q := [(4, .iconst 1, 0, 0, 0, .int (nI 1)), (5, .isub, 0, 0, 0, .null), (6, .istore_n 2, 0, 0, 0, .null)]
theorem t_s_Le_lastFor_1 : s_Le_lastFor_1.all (am_ok 4 cX4_lastFor) = true := by decide +kernel
def s_Le_lastFor_2 : List am_Q := [(7, .iload_n 2, 0, 0, 0, .null)]
theorem t_s_Le_lastFor_2 : s_Le_lastFor_2.all (am_ok 4 cX4_lastFor) = true := by decide +kernel
theorem d_X4_lastFor_8 : decode cX4_lastFor 8 = .ok (.ifCond .lt 35, 3) := by decide +kernel
def s_Le_lastFor_3 : List am_Q := [(43, .iconst (-1), 0, 0, 0, .int (-1 : Int32))]
theorem t_s_Le_lastFor_3 : s_Le_lastFor_3.all (am_ok 4 cX4_lastFor) = true := by decide +kernel
theorem d_X4_lastFor_44 : decode cX4_lastFor 44 = .ok (.ireturn, 1) := by decide +kernel
def s_Le_lastFor_4 : List am_Q := [(11, .aload_n 0, 0, 0, 0, .null), (12, .iload_n 2, 0, 0, 0, .null), (13, .iconst 5, 0, 0, 0, .int (nI 5))]
theorem t_s_Le_lastFor_4 : s_Le_lastFor_4.all (am_ok 4 cX4_lastFor) = true := by decide +kernel
theorem d_X4_lastFor_14 : decode cX4_lastFor 14 = .ok (.invokevirtual 23, 3) := by decide +kernel
def s_Le_lastFor_5 : List am_Q := [(17, .iconst 1, 0, 0, 0, .int (nI 1))]
theorem t_s_Le_lastFor_5 : s_Le_lastFor_5.all (am_ok 4 cX4_lastFor) = true := by decide +kernel
theorem d_X4_lastFor_18 : decode cX4_lastFor 18 = .ok (.if_icmp .ne 19, 3) := by decide +kernel
def s_Le_lastFor_6 : List am_Q := [(37, .iinc 2 (-1), 0, 0, 0, .int (-1 : Int32)), (40, .goto (-33), 7, 0, 0, .null)]
theorem t_s_Le_lastFor_6 : s_Le_lastFor_6.all (am_ok 4 cX4_lastFor) = true := by decide +kernel
def s_Le_lastFor_7 : List am_Q := [(21, .aload_n 0, 0, 0, 0, .null), (22, .iload_n 2, 0, 0, 0, .null), (23, .iconst 0, 0, 0, 0, .int (nI 0))]
theorem t_s_Le_lastFor_7 : s_Le_lastFor_7.all (am_ok 4 cX4_lastFor) = true := by decide +kernel
theorem d_X4_lastFor_24 : decode cX4_lastFor 24 = .ok (.invokevirtual 23, 3) := by decide +kernel
def s_Le_lastFor_8 : List am_Q := [(27, .iload_n 1, 0, 0, 0, .null), (28, .ishr, 0, 0, 0, .null), (29, .iconst 1, 0, 0, 0, .int (nI 1)), (30, .iand, 0, 0, 0, .null), (31, .iconst 1, 0, 0, 0, .int (nI 1))]
theorem t_s_Le_lastFor_8 : s_Le_lastFor_8.all (am_ok 4 cX4_lastFor) = true := by decide +kernel
theorem d_X4_lastFor_32 : decode cX4_lastFor 32 = .ok (.if_icmp .ne 5, 3) := by decide +kernel
def s_Le_lastFor_9 : List am_Q := [(37, .iinc 2 (-1), 0, 0, 0, .int (-1 : Int32)), (40, .goto (-33), 7, 0, 0, .null)]
theorem t_s_Le_lastFor_9 : s_Le_lastFor_9.all (am_ok 4 cX4_lastFor) = true := by decide +kernel
def s_Le_lastFor_10 : List am_Q := [(35, .iload_n 2, 0, 0, 0, .null)]
theorem t_s_Le_lastFor_10 : s_Le_lastFor_10.all (am_ok 4 cX4_lastFor) = true := by decide +kernel
theorem d_X4_lastFor_36 : decode cX4_lastFor 36 = .ok (.ireturn, 1) := by decide +kernel
def Le_lastFor_7 : Nat → am_T → Nat → Int32 → Int32 → Option (Int32 × am_T)
  | 0, _, _, _, _ => none
  | n + 1, τ, a0, a1, a2 =>
    if a2 < 0 then
  (some ((-1 : Int32), τ))
else
  (am_g (am_isO a0 4) ((Le_cell τ a0 a2 (nI 5)).bind (fun x1 =>
  if x1.1 = (nI 1) then
  (am_g (am_isO a0 4) ((Le_cell x1.2 a0 a2 (nI 0)).bind (fun x2 =>
  if ((x2.1 >>> (a1 &&& 31)) &&& (nI 1)) = (nI 1) then
  (some (a2, x2.2))
else
  ((Le_lastFor_7 n) x2.2 a0 a1 (a2 + (-1 : Int32))))))
else
  ((Le_lastFor_7 n) x1.2 a0 a1 (a2 + (-1 : Int32))))))
set_option maxRecDepth 20000 in
theorem ok_Le_lastFor_7 {X : am_X} {v : Int32} {τ' : am_T} (hF : am_F X "ShareHouse$Lease" cX4_lastFor 3) (hR : am_R X 1 22) (hB : am_B X (some .int) (some (.int v)) (am_D τ')) : ∀ (n : Nat) (τ : am_T) (a0 : Nat) (a1 : Int32) (a2 : Int32), Le_lastFor_7 n τ a0 a1 a2 = some (v, τ') → am_W X 3 (7, [(0, .ref a0), (1, .int a1), (2, .int a2)], [], am_D τ) := by
  intro n
  induction n with
  | zero => intro τ a0 a1 a2 h; unfold Le_lastFor_7 at h; cases h
  | succ n ih =>
    intro τ a0 a1 a2 h
    unfold Le_lastFor_7 at h
    refine am_seg s_Le_lastFor_2 (y := (8, [(0, .ref a0), (1, .int a1), (2, .int a2)], [.int a2], am_D τ)) hF t_s_Le_lastFor_2 rfl rfl ?_
    refine am_ite h (fun hc h => ?_) (fun hc h => ?_)
    · refine am_if_lt_t (t := 43) d_X4_lastFor_8 (by decide) hc hF ?_
      refine am_seg s_Le_lastFor_3 (y := (44, [(0, .ref a0), (1, .int a1), (2, .int a2)], [.int (-1 : Int32)], am_D τ)) hF t_s_Le_lastFor_3 rfl rfl ?_
      obtain ⟨rfl, rfl⟩ := am_pair h
      exact am_iret d_X4_lastFor_44 hF hB
    · refine am_if_lt_f (t := 43) d_X4_lastFor_8 (by decide) hc hF ?_
      refine am_seg s_Le_lastFor_4 (y := (14, [(0, .ref a0), (1, .int a1), (2, .int a2)], [.int (nI 5), .int a2, .ref a0], am_D τ)) hF t_s_Le_lastFor_4 rfl rfl ?_
      refine am_gd h (fun hg h => ?_)
      refine am_bd h (fun x1 hx h => ?_)
      refine am_callV (As := [.int a2, .int (nI 5)]) (r := (some (.int x1.1))) (st := []) (σ' := am_D x1.2) (ci := 4) hF hR d_X4_lastFor_14 (c_Le_cell (τ' := x1.2) hx) (Nat.le_refl _) (Nat.le_refl _) wl_Le_23 wi_yX4_cell we_yX4_cell wn_ShareHouse_Lease wc_yX4_cell (am_isO_of hg).1 (am_isO_of hg).2.1 (am_isO_of hg).2.2 rfl wy_yX4_cell rfl ⟨by decide, by decide⟩ (Nat.le_of_ble_eq_true rfl) ?_
      refine am_seg s_Le_lastFor_5 (y := (18, [(0, .ref a0), (1, .int a1), (2, .int a2)], [.int (nI 1), .int x1.1], am_D x1.2)) hF t_s_Le_lastFor_5 rfl rfl ?_
      refine am_ite h (fun hc h => ?_) (fun hc h => ?_)
      · refine am_icmp_ne_f (t := 37) d_X4_lastFor_18 (by decide) hc hF ?_
        refine am_seg s_Le_lastFor_7 (y := (24, [(0, .ref a0), (1, .int a1), (2, .int a2)], [.int (nI 0), .int a2, .ref a0], am_D x1.2)) hF t_s_Le_lastFor_7 rfl rfl ?_
        refine am_gd h (fun hg h => ?_)
        refine am_bd h (fun x2 hx h => ?_)
        refine am_callV (As := [.int a2, .int (nI 0)]) (r := (some (.int x2.1))) (st := []) (σ' := am_D x2.2) (ci := 4) hF hR d_X4_lastFor_24 (c_Le_cell (τ' := x2.2) hx) (Nat.le_refl _) (Nat.le_refl _) wl_Le_23 wi_yX4_cell we_yX4_cell wn_ShareHouse_Lease wc_yX4_cell (am_isO_of hg).1 (am_isO_of hg).2.1 (am_isO_of hg).2.2 rfl wy_yX4_cell rfl ⟨by decide, by decide⟩ (Nat.le_of_ble_eq_true rfl) ?_
        refine am_seg s_Le_lastFor_8 (y := (32, [(0, .ref a0), (1, .int a1), (2, .int a2)], [.int (nI 1), .int ((x2.1 >>> (a1 &&& 31)) &&& (nI 1))], am_D x2.2)) hF t_s_Le_lastFor_8 rfl rfl ?_
        refine am_ite h (fun hc h => ?_) (fun hc h => ?_)
        · refine am_icmp_ne_f (t := 37) d_X4_lastFor_32 (by decide) hc hF ?_
          refine am_seg s_Le_lastFor_10 (y := (36, [(0, .ref a0), (1, .int a1), (2, .int a2)], [.int a2], am_D x2.2)) hF t_s_Le_lastFor_10 rfl rfl ?_
          obtain ⟨rfl, rfl⟩ := am_pair h
          exact am_iret d_X4_lastFor_36 hF hB
        · refine am_icmp_ne_t (t := 37) d_X4_lastFor_32 (by decide) hc hF ?_
          refine am_seg s_Le_lastFor_9 (y := (7, [(2, .int (a2 + (-1 : Int32))), (0, .ref a0), (1, .int a1)], [], am_D x2.2)) hF t_s_Le_lastFor_9 rfl rfl ?_
          refine am_pick [1, 2, 0] rfl ?_
          exact ih _ _ _ _ h
      · refine am_icmp_ne_t (t := 37) d_X4_lastFor_18 (by decide) hc hF ?_
        refine am_seg s_Le_lastFor_6 (y := (7, [(2, .int (a2 + (-1 : Int32))), (0, .ref a0), (1, .int a1)], [], am_D x1.2)) hF t_s_Le_lastFor_6 rfl rfl ?_
        refine am_pick [1, 2, 0] rfl ?_
        exact ih _ _ _ _ h
def Le_lastFor (τ : am_T) (a0 : Nat) (a1 : Int32) : Option (Int32 × am_T) :=
  am_g (am_isO a0 4) (Le_lastFor_7 5000 τ a0 a1 ((τ.1 a0 1) - (nI 1)))
set_option maxRecDepth 20000 in
theorem ok_Le_lastFor {X : am_X} {a0 : Nat} {a1 : Int32} {v : Int32} {τ τ' : am_T} (hF : am_F X "ShareHouse$Lease" cX4_lastFor 3) (hR : am_R X 1 22) (hB : am_B X (some .int) (some (.int v)) (am_D τ')) (h : Le_lastFor τ a0 a1 = some (v, τ')) : am_W X 3 (0, [(0, .ref a0), (1, .int a1)], [], am_D τ) := by
  unfold Le_lastFor at h
  refine am_seg s_Le_lastFor_0 (y := (1, [(0, .ref a0), (1, .int a1)], [.ref a0], am_D τ)) hF t_s_Le_lastFor_0 rfl rfl ?_
  refine am_gd h (fun hg h => ?_)
  refine am_get (b := 1) (v := .int (τ.1 a0 1)) d_X4_lastFor_1 (am_isO_of hg).1 (am_isO_of hg).2.1 (am_isO_of hg).2.2 rfl (Nat.le_of_ble_eq_true rfl) am_fl1 rfl hF ?_
  refine am_seg s_Le_lastFor_1 (y := (7, [(2, .int ((τ.1 a0 1) - (nI 1))), (0, .ref a0), (1, .int a1)], [], am_D τ)) hF t_s_Le_lastFor_1 rfl rfl ?_
  refine am_pick [1, 2, 0] rfl ?_
  exact ok_Le_lastFor_7 hF hR hB _ _ _ _ _ h
theorem c_Le_lastFor {a0 : Nat} {a1 : Int32} {v : Int32} {τ τ' : am_T} (h : Le_lastFor τ a0 a1 = some (v, τ')) : am_C yX4_lastFor cX4_lastFor 3 (some .int) 1 22 [.ref a0, .int a1] (am_D τ) (some (.int v)) (am_D τ') :=
  am_enter (by decide +kernel) (Nat.le_of_ble_eq_true rfl) ⟨Nat.le_refl _, Nat.le_refl _⟩ (fun X hF hR hB => ok_Le_lastFor hF hR hB h)
def s_X_divisorOf_0 : List am_Q := [(0, .lload_n 0, 0, 0, 0, .null), (1, .lstore 4, 0, 0, 0, .null), (3, .lload_n 2, 0, 0, 0, .null), (4, .lstore 6, 0, 0, 0, .null), (6, .iconst 0, 0, 0, 0, .int (nI 0)), (7, .istore 8, 0, 0, 0, .null)]
theorem t_s_X_divisorOf_0 : s_X_divisorOf_0.all (am_ok 11 cX11_divisorOf) = true := by decide +kernel
def s_X_divisorOf_1 : List am_Q := [(9, .iload 8, 0, 0, 0, .null), (11, .sipush 200, 0, 0, 0, .int (nI 200))]
theorem t_s_X_divisorOf_1 : s_X_divisorOf_1.all (am_ok 11 cX11_divisorOf) = true := by decide +kernel
theorem d_X11_divisorOf_14 : decode cX11_divisorOf 14 = .ok (.if_icmp .ge 31, 3) := by decide +kernel
def s_X_divisorOf_2 : List am_Q := [(45, .lload 4, 0, 0, 0, .null)]
theorem t_s_X_divisorOf_2 : s_X_divisorOf_2.all (am_ok 11 cX11_divisorOf) = true := by decide +kernel
theorem d_X11_divisorOf_47 : decode cX11_divisorOf 47 = .ok (.lreturn, 1) := by decide +kernel
def s_X_divisorOf_3 : List am_Q := [(17, .lload 6, 0, 0, 0, .null), (19, .lconst 0, 0, 0, 0, .long (lN 0)), (20, .lcmp, 0, 0, 0, .null)]
theorem t_s_X_divisorOf_3 : s_X_divisorOf_3.all (am_ok 11 cX11_divisorOf) = true := by decide +kernel
theorem d_X11_divisorOf_21 : decode cX11_divisorOf 21 = .ok (.ifCond .eq 24, 3) := by decide +kernel
def s_X_divisorOf_4 : List am_Q := [(45, .lload 4, 0, 0, 0, .null)]
theorem t_s_X_divisorOf_4 : s_X_divisorOf_4.all (am_ok 11 cX11_divisorOf) = true := by decide +kernel
def s_X_divisorOf_5 : List am_Q := [(24, .lload 4, 0, 0, 0, .null), (26, .lload 6, 0, 0, 0, .null)]
theorem t_s_X_divisorOf_5 : s_X_divisorOf_5.all (am_ok 11 cX11_divisorOf) = true := by decide +kernel
theorem d_X11_divisorOf_28 : decode cX11_divisorOf 28 = .ok (.lrem, 1) := by decide +kernel
def s_X_divisorOf_6 : List am_Q := [(29, .lstore 9, 0, 0, 0, .null), (31, .lload 6, 0, 0, 0, .null), (33, .lstore 4, 0, 0, 0, .null), (35, .lload 9, 0, 0, 0, .null), (37, .lstore 6, 0, 0, 0, .null), (39, .iinc 8 1, 0, 0, 0, .int (nI 1)), (42, .goto (-33), 9, 0, 0, .null)]
theorem t_s_X_divisorOf_6 : s_X_divisorOf_6.all (am_ok 11 cX11_divisorOf) = true := by decide +kernel
def X_divisorOf_9 : Nat → am_T → Int64 → Int64 → Int32 → Option (Int64 × am_T)
  | 0, _, _, _, _ => none
  | n + 1, τ, a4, a6, a8 =>
    if (nI 200) ≤ a8 then
  (some (a4, τ))
else
  (if (lg_cmp a6 (lN 0)) = 0 then
  (some (a4, τ))
else
  (if a6 = 0 then none else
  (X_divisorOf_9 n) τ a6 (a4 - a4 / a6 * a6) (a8 + (nI 1))))
set_option maxRecDepth 20000 in
theorem ok_X_divisorOf_9 {X : am_X} {v : Int64} {τ' : am_T} (hF : am_F X "ShareHouse" cX11_divisorOf 11) (hR : am_R X 0 0) (hB : am_B X (some .long) (some (.long v)) (am_D τ')) : ∀ (n : Nat) (τ : am_T) (a4 : Int64) (a6 : Int64) (a8 : Int32), X_divisorOf_9 n τ a4 a6 a8 = some (v, τ') → am_W X 11 (9, [(4, .long a4), (6, .long a6), (8, .int a8)], [], am_D τ) := by
  intro n
  induction n with
  | zero => intro τ a4 a6 a8 h; unfold X_divisorOf_9 at h; cases h
  | succ n ih =>
    intro τ a4 a6 a8 h
    unfold X_divisorOf_9 at h
    refine am_seg s_X_divisorOf_1 (y := (14, [(4, .long a4), (6, .long a6), (8, .int a8)], [.int (nI 200), .int a8], am_D τ)) hF t_s_X_divisorOf_1 rfl rfl ?_
    refine am_ite h (fun hc h => ?_) (fun hc h => ?_)
    · refine am_icmp_ge_t (t := 45) d_X11_divisorOf_14 (by decide) hc hF ?_
      refine am_seg s_X_divisorOf_2 (y := (47, [(4, .long a4), (6, .long a6), (8, .int a8)], [.long a4], am_D τ)) hF t_s_X_divisorOf_2 rfl rfl ?_
      obtain ⟨rfl, rfl⟩ := am_pair h
      exact am_lret d_X11_divisorOf_47 hF hB
    · refine am_icmp_ge_f (t := 45) d_X11_divisorOf_14 (by decide) hc hF ?_
      refine am_seg s_X_divisorOf_3 (y := (21, [(4, .long a4), (6, .long a6), (8, .int a8)], [.int (lg_cmp a6 (lN 0))], am_D τ)) hF t_s_X_divisorOf_3 rfl rfl ?_
      refine am_ite h (fun hc h => ?_) (fun hc h => ?_)
      · refine am_if_eq_t (t := 45) d_X11_divisorOf_21 (by decide) hc hF ?_
        refine am_seg s_X_divisorOf_4 (y := (47, [(4, .long a4), (6, .long a6), (8, .int a8)], [.long a4], am_D τ)) hF t_s_X_divisorOf_4 rfl rfl ?_
        obtain ⟨rfl, rfl⟩ := am_pair h
        exact am_lret d_X11_divisorOf_47 hF hB
      · refine am_if_eq_f (t := 45) d_X11_divisorOf_21 (by decide) hc hF ?_
        refine am_seg s_X_divisorOf_5 (y := (28, [(4, .long a4), (6, .long a6), (8, .int a8)], [.long a6, .long a4], am_D τ)) hF t_s_X_divisorOf_5 rfl rfl ?_
        refine am_ite h (fun _ h => by cases h) (fun hc h => ?_)
        refine am_lrem d_X11_divisorOf_28 hc hF ?_
        refine am_seg s_X_divisorOf_6 (y := (9, [(8, .int (a8 + (nI 1))), (6, .long (a4 - a4 / a6 * a6)), (4, .long a6), (9, .long (a4 - a4 / a6 * a6))], [], am_D τ)) hF t_s_X_divisorOf_6 rfl rfl ?_
        refine am_pick [2, 1, 0] rfl ?_
        exact ih _ _ _ _ h
def X_divisorOf (τ : am_T) (a0 : Int64) (a2 : Int64) : Option (Int64 × am_T) :=
  X_divisorOf_9 5000 τ a0 a2 (nI 0)
set_option maxRecDepth 20000 in
theorem ok_X_divisorOf {X : am_X} {a0 : Int64} {a2 : Int64} {v : Int64} {τ τ' : am_T} (hF : am_F X "ShareHouse" cX11_divisorOf 11) (hR : am_R X 0 0) (hB : am_B X (some .long) (some (.long v)) (am_D τ')) (h : X_divisorOf τ a0 a2 = some (v, τ')) : am_W X 11 (0, [(0, .long a0), (2, .long a2)], [], am_D τ) := by
  unfold X_divisorOf at h
  refine am_seg s_X_divisorOf_0 (y := (9, [(8, .int (nI 0)), (6, .long a2), (4, .long a0), (0, .long a0), (2, .long a2)], [], am_D τ)) hF t_s_X_divisorOf_0 rfl rfl ?_
  refine am_pick [2, 1, 0] rfl ?_
  exact ok_X_divisorOf_9 hF hR hB _ _ _ _ _ h
theorem c_X_divisorOf {a0 : Int64} {a2 : Int64} {v : Int64} {τ τ' : am_T} (h : X_divisorOf τ a0 a2 = some (v, τ')) : am_C yX11_divisorOf cX11_divisorOf 11 (some .long) 0 0 [.long a0, .long a2] (am_D τ) (some (.long v)) (am_D τ') :=
  am_enter (by decide +kernel) (Nat.le_of_ble_eq_true rfl) ⟨Nat.le_refl _, Nat.le_refl _⟩ (fun X hF hR hB => ok_X_divisorOf hF hR hB h)
def s_Pa_putShare_0 : List am_Q := [(0, .iload_n 2, 0, 0, 0, .null)]
theorem t_s_Pa_putShare_0 : s_Pa_putShare_0.all (am_ok 6 cX6_putShare) = true := by decide +kernel
theorem d_X6_putShare_1 : decode cX6_putShare 1 = .ok (.ifCond .le 7, 3) := by decide +kernel
def s_Pa_putShare_1 : List am_Q := [(8, .iconst 1, 0, 0, 0, .int (nI 1)), (9, .goto 4, 13, 0, 0, .null)]
theorem t_s_Pa_putShare_1 : s_Pa_putShare_1.all (am_ok 6 cX6_putShare) = true := by decide +kernel
def s_Pa_putShare_2 : List am_Q := [(13, .istore 4, 0, 0, 0, .null), (15, .iload 4, 0, 0, 0, .null)]
theorem t_s_Pa_putShare_2 : s_Pa_putShare_2.all (am_ok 6 cX6_putShare) = true := by decide +kernel
theorem d_X6_putShare_17 : decode cX6_putShare 17 = .ok (.ifCond .eq 7, 3) := by decide +kernel
def s_Pa_putShare_3 : List am_Q := [(24, .lconst 1, 0, 0, 0, .long (lN 1)), (25, .iload_n 2, 0, 0, 0, .null), (26, .i2l, 0, 0, 0, .null), (27, .iload_n 3, 0, 0, 0, .null), (28, .i2l, 0, 0, 0, .null)]
theorem t_s_Pa_putShare_3 : s_Pa_putShare_3.all (am_ok 6 cX6_putShare) = true := by decide +kernel
theorem d_X6_putShare_29 : decode cX6_putShare 29 = .ok (.invokestatic 42, 3) := by decide +kernel
theorem d_X6_putShare_32 : decode cX6_putShare 32 = .ok (.invokestatic 46, 3) := by decide +kernel
def s_Pa_putShare_4 : List am_Q := [(35, .lstore 5, 0, 0, 0, .null), (37, .aload_n 0, 0, 0, 0, .null), (38, .getfield 9, 6, 0, 128, .null), (41, .iload_n 1, 0, 0, 0, .null), (42, .iload 4, 0, 0, 0, .null)]
theorem t_s_Pa_putShare_4 : s_Pa_putShare_4.all (am_ok 6 cX6_putShare) = true := by decide +kernel
theorem d_X6_putShare_44 : decode cX6_putShare 44 = .ok (.ifCond .eq 7, 3) := by decide +kernel
def s_Pa_putShare_5 : List am_Q := [(51, .iload_n 2, 0, 0, 0, .null), (52, .i2l, 0, 0, 0, .null), (53, .lload 5, 0, 0, 0, .null)]
theorem t_s_Pa_putShare_5 : s_Pa_putShare_5.all (am_ok 6 cX6_putShare) = true := by decide +kernel
theorem d_X6_putShare_55 : decode cX6_putShare 55 = .ok (.ldiv, 1) := by decide +kernel
theorem d_X6_putShare_56 : decode cX6_putShare 56 = .ok (.lastore, 1) := by decide +kernel
def s_Pa_putShare_6 : List am_Q := [(57, .aload_n 0, 0, 0, 0, .null), (58, .getfield 15, 6, 1, 130, .null), (61, .iload_n 1, 0, 0, 0, .null), (62, .iload 4, 0, 0, 0, .null)]
theorem t_s_Pa_putShare_6 : s_Pa_putShare_6.all (am_ok 6 cX6_putShare) = true := by decide +kernel
theorem d_X6_putShare_64 : decode cX6_putShare 64 = .ok (.ifCond .eq 7, 3) := by decide +kernel
def s_Pa_putShare_7 : List am_Q := [(71, .iload_n 3, 0, 0, 0, .null), (72, .i2l, 0, 0, 0, .null), (73, .lload 5, 0, 0, 0, .null)]
theorem t_s_Pa_putShare_7 : s_Pa_putShare_7.all (am_ok 6 cX6_putShare) = true := by decide +kernel
theorem d_X6_putShare_75 : decode cX6_putShare 75 = .ok (.ldiv, 1) := by decide +kernel
theorem d_X6_putShare_76 : decode cX6_putShare 76 = .ok (.lastore, 1) := by decide +kernel
theorem d_X6_putShare_77 : decode cX6_putShare 77 = .ok (.return_, 1) := by decide +kernel
def s_Pa_putShare_8 : List am_Q := [(67, .lconst 1, 0, 0, 0, .long (lN 1)), (68, .goto 8, 76, 0, 0, .null)]
theorem t_s_Pa_putShare_8 : s_Pa_putShare_8.all (am_ok 6 cX6_putShare) = true := by decide +kernel
def s_Pa_putShare_9 : List am_Q := [(47, .lconst 0, 0, 0, 0, .long (lN 0)), (48, .goto 8, 56, 0, 0, .null)]
theorem t_s_Pa_putShare_9 : s_Pa_putShare_9.all (am_ok 6 cX6_putShare) = true := by decide +kernel
def s_Pa_putShare_10 : List am_Q := [(20, .lconst 1, 0, 0, 0, .long (lN 1)), (21, .goto 14, 35, 0, 0, .null)]
theorem t_s_Pa_putShare_10 : s_Pa_putShare_10.all (am_ok 6 cX6_putShare) = true := by decide +kernel
def s_Pa_putShare_11 : List am_Q := [(4, .iload_n 3, 0, 0, 0, .null)]
theorem t_s_Pa_putShare_11 : s_Pa_putShare_11.all (am_ok 6 cX6_putShare) = true := by decide +kernel
theorem d_X6_putShare_5 : decode cX6_putShare 5 = .ok (.ifCond .gt 7, 3) := by decide +kernel
def s_Pa_putShare_12 : List am_Q := [(12, .iconst 0, 0, 0, 0, .int (nI 0))]
theorem t_s_Pa_putShare_12 : s_Pa_putShare_12.all (am_ok 6 cX6_putShare) = true := by decide +kernel
def s_Pa_putShare_13 : List am_Q := [(8, .iconst 1, 0, 0, 0, .int (nI 1)), (9, .goto 4, 13, 0, 0, .null)]
theorem t_s_Pa_putShare_13 : s_Pa_putShare_13.all (am_ok 6 cX6_putShare) = true := by decide +kernel
def Pa_putShare_56 (τ : am_T) (a1 : Int32) (a3 : Int32) (a4 : Int32) (a5 : Int64) (s0 : Int64) (s1 : Int32) : Option (am_T) :=
  am_g (am_in s1 8) (if a4 = 0 then
  (if a5 = 0 then none else
  am_g (am_in a1 8) (some (am_sl (am_sl τ 122 (s1.toNatClampNeg) s0) 123 (a1.toNatClampNeg) ((Int32.toInt64 a3) / a5))))
else
  (am_g (am_in a1 8) (some (am_sl (am_sl τ 122 (s1.toNatClampNeg) s0) 123 (a1.toNatClampNeg) (lN 1)))))
set_option maxRecDepth 20000 in
theorem ok_Pa_putShare_56 {X : am_X} {τ' : am_T} (hF : am_F X "ShareHouse$Parting" cX6_putShare 7) (hR : am_R X 1 30) (hB : am_B X none none (am_D τ')) {τ : am_T} {a1 : Int32} {a3 : Int32} {a4 : Int32} {a5 : Int64} {s0 : Int64} {s1 : Int32} (h : Pa_putShare_56 τ a1 a3 a4 a5 s0 s1 = some τ') : am_W X 7 (56, [(0, .ref 121), (1, .int a1), (3, .int a3), (4, .int a4), (5, .long a5)], [.long s0, .int s1, .ref 122], am_D τ) := by
  unfold Pa_putShare_56 at h
  refine am_gd h (fun hi h => ?_)
  refine am_last (n := 8) (j := (s1.toNatClampNeg)) d_X6_putShare_56 (Nat.le_of_ble_eq_true rfl) (Nat.le_of_ble_eq_true rfl) rfl hi rfl hF ?_
  refine am_seg s_Pa_putShare_6 (y := (64, [(0, .ref 121), (1, .int a1), (3, .int a3), (4, .int a4), (5, .long a5)], [.int a4, .int a1, .ref 123], am_D (am_sl τ 122 (s1.toNatClampNeg) s0))) hF t_s_Pa_putShare_6 rfl rfl ?_
  refine am_ite h (fun hc h => ?_) (fun hc h => ?_)
  · refine am_if_eq_t (t := 71) d_X6_putShare_64 (by decide) hc hF ?_
    refine am_seg s_Pa_putShare_7 (y := (75, [(0, .ref 121), (1, .int a1), (3, .int a3), (4, .int a4), (5, .long a5)], [.long a5, .long (Int32.toInt64 a3), .int a1, .ref 123], am_D (am_sl τ 122 (s1.toNatClampNeg) s0))) hF t_s_Pa_putShare_7 rfl rfl ?_
    refine am_ite h (fun _ h => by cases h) (fun hc h => ?_)
    refine am_ldiv d_X6_putShare_75 hc hF ?_
    refine am_gd h (fun hi h => ?_)
    refine am_last (n := 8) (j := (a1.toNatClampNeg)) d_X6_putShare_76 (Nat.le_of_ble_eq_true rfl) (Nat.le_of_ble_eq_true rfl) rfl hi rfl hF ?_
    obtain rfl := am_one h
    exact am_vret d_X6_putShare_77 hF hB
  · refine am_if_eq_f (t := 71) d_X6_putShare_64 (by decide) hc hF ?_
    refine am_seg s_Pa_putShare_8 (y := (76, [(0, .ref 121), (1, .int a1), (3, .int a3), (4, .int a4), (5, .long a5)], [.long (lN 1), .int a1, .ref 123], am_D (am_sl τ 122 (s1.toNatClampNeg) s0))) hF t_s_Pa_putShare_8 rfl rfl ?_
    refine am_gd h (fun hi h => ?_)
    refine am_last (n := 8) (j := (a1.toNatClampNeg)) d_X6_putShare_76 (Nat.le_of_ble_eq_true rfl) (Nat.le_of_ble_eq_true rfl) rfl hi rfl hF ?_
    obtain rfl := am_one h
    exact am_vret d_X6_putShare_77 hF hB
def Pa_putShare_35 (τ : am_T) (a1 : Int32) (a2 : Int32) (a3 : Int32) (a4 : Int32) (s0 : Int64) : Option (am_T) :=
  if a4 = 0 then
  (if s0 = 0 then none else
  Pa_putShare_56 τ a1 a3 a4 s0 ((Int32.toInt64 a2) / s0) a1)
else
  (Pa_putShare_56 τ a1 a3 a4 s0 (lN 0) a1)
set_option maxRecDepth 20000 in
theorem ok_Pa_putShare_35 {X : am_X} {τ' : am_T} (hF : am_F X "ShareHouse$Parting" cX6_putShare 7) (hR : am_R X 1 30) (hB : am_B X none none (am_D τ')) {τ : am_T} {a1 : Int32} {a2 : Int32} {a3 : Int32} {a4 : Int32} {s0 : Int64} (h : Pa_putShare_35 τ a1 a2 a3 a4 s0 = some τ') : am_W X 7 (35, [(0, .ref 121), (1, .int a1), (2, .int a2), (3, .int a3), (4, .int a4)], [.long s0], am_D τ) := by
  unfold Pa_putShare_35 at h
  refine am_seg s_Pa_putShare_4 (y := (44, [(5, .long s0), (0, .ref 121), (1, .int a1), (2, .int a2), (3, .int a3), (4, .int a4)], [.int a4, .int a1, .ref 122], am_D τ)) hF t_s_Pa_putShare_4 rfl rfl ?_
  refine am_ite h (fun hc h => ?_) (fun hc h => ?_)
  · refine am_if_eq_t (t := 51) d_X6_putShare_44 (by decide) hc hF ?_
    refine am_seg s_Pa_putShare_5 (y := (55, [(5, .long s0), (0, .ref 121), (1, .int a1), (2, .int a2), (3, .int a3), (4, .int a4)], [.long s0, .long (Int32.toInt64 a2), .int a1, .ref 122], am_D τ)) hF t_s_Pa_putShare_5 rfl rfl ?_
    refine am_ite h (fun _ h => by cases h) (fun hc h => ?_)
    refine am_ldiv d_X6_putShare_55 hc hF ?_
    refine am_pick [1, 2, 4, 5, 0] rfl ?_
    exact ok_Pa_putShare_56 hF hR hB h
  · refine am_if_eq_f (t := 51) d_X6_putShare_44 (by decide) hc hF ?_
    refine am_seg s_Pa_putShare_9 (y := (56, [(5, .long s0), (0, .ref 121), (1, .int a1), (2, .int a2), (3, .int a3), (4, .int a4)], [.long (lN 0), .int a1, .ref 122], am_D τ)) hF t_s_Pa_putShare_9 rfl rfl ?_
    refine am_pick [1, 2, 4, 5, 0] rfl ?_
    exact ok_Pa_putShare_56 hF hR hB h
def Pa_putShare_13 (τ : am_T) (a1 : Int32) (a2 : Int32) (a3 : Int32) (s0 : Int32) : Option (am_T) :=
  if s0 = 0 then
  ((X_divisorOf τ (Int32.toInt64 a2) (Int32.toInt64 a3)).bind (fun x1 =>
  Pa_putShare_35 x1.2 a1 a2 a3 s0 (if x1.1 < (lN 1) then (lN 1) else x1.1)))
else
  (Pa_putShare_35 τ a1 a2 a3 s0 (lN 1))
set_option maxRecDepth 20000 in
theorem ok_Pa_putShare_13 {X : am_X} {τ' : am_T} (hF : am_F X "ShareHouse$Parting" cX6_putShare 7) (hR : am_R X 1 30) (hB : am_B X none none (am_D τ')) {τ : am_T} {a1 : Int32} {a2 : Int32} {a3 : Int32} {s0 : Int32} (h : Pa_putShare_13 τ a1 a2 a3 s0 = some τ') : am_W X 7 (13, [(0, .ref 121), (1, .int a1), (2, .int a2), (3, .int a3)], [.int s0], am_D τ) := by
  unfold Pa_putShare_13 at h
  refine am_seg s_Pa_putShare_2 (y := (17, [(4, .int s0), (0, .ref 121), (1, .int a1), (2, .int a2), (3, .int a3)], [.int s0], am_D τ)) hF t_s_Pa_putShare_2 rfl rfl ?_
  refine am_ite h (fun hc h => ?_) (fun hc h => ?_)
  · refine am_if_eq_t (t := 24) d_X6_putShare_17 (by decide) hc hF ?_
    refine am_seg s_Pa_putShare_3 (y := (29, [(4, .int s0), (0, .ref 121), (1, .int a1), (2, .int a2), (3, .int a3)], [.long (Int32.toInt64 a3), .long (Int32.toInt64 a2), .long (lN 1)], am_D τ)) hF t_s_Pa_putShare_3 rfl rfl ?_
    refine am_bd h (fun x1 hx h => ?_)
    refine am_callSN (As := [.long (Int32.toInt64 a2), .long (Int32.toInt64 a3)]) (r := (some (.long x1.1))) (st := [.long (lN 1)]) (σ' := am_D x1.2) (host := "ShareHouse") hF hR d_X6_putShare_29 (c_X_divisorOf (τ' := x1.2) hx) (Nat.le_refl _) (Nat.le_refl _) wk_Pa_42 ws_yX11_divisorOf wn_ShareHouse wc_yX11_divisorOf wy_yX11_divisorOf rfl ⟨by decide, by decide⟩ (Nat.le_of_ble_eq_true rfl) ?_
    refine am_mmaxL d_X6_putShare_32 wq_maxL_6_46 wq_maxL_s wq_math wq_maxL_c ⟨by decide, Nat.le_of_ble_eq_true rfl⟩ (Nat.le_refl _) hF hR ?_
    refine am_pick [1, 2, 3, 4, 0] rfl ?_
    exact ok_Pa_putShare_35 hF hR hB h
  · refine am_if_eq_f (t := 24) d_X6_putShare_17 (by decide) hc hF ?_
    refine am_seg s_Pa_putShare_10 (y := (35, [(4, .int s0), (0, .ref 121), (1, .int a1), (2, .int a2), (3, .int a3)], [.long (lN 1)], am_D τ)) hF t_s_Pa_putShare_10 rfl rfl ?_
    refine am_pick [1, 2, 3, 4, 0] rfl ?_
    exact ok_Pa_putShare_35 hF hR hB h
def Pa_putShare (τ : am_T) (a1 : Int32) (a2 : Int32) (a3 : Int32) : Option (am_T) :=
  if a2 ≤ 0 then
  (Pa_putShare_13 τ a1 a2 a3 (nI 1))
else
  (if 0 < a3 then
  (Pa_putShare_13 τ a1 a2 a3 (nI 0))
else
  (Pa_putShare_13 τ a1 a2 a3 (nI 1)))
set_option maxRecDepth 20000 in
theorem ok_Pa_putShare {X : am_X} {a1 : Int32} {a2 : Int32} {a3 : Int32} {τ τ' : am_T} (hF : am_F X "ShareHouse$Parting" cX6_putShare 7) (hR : am_R X 1 30) (hB : am_B X none none (am_D τ')) (h : Pa_putShare τ a1 a2 a3 = some τ') : am_W X 7 (0, [(0, .ref 121), (1, .int a1), (2, .int a2), (3, .int a3)], [], am_D τ) := by
  unfold Pa_putShare at h
  refine am_seg s_Pa_putShare_0 (y := (1, [(0, .ref 121), (1, .int a1), (2, .int a2), (3, .int a3)], [.int a2], am_D τ)) hF t_s_Pa_putShare_0 rfl rfl ?_
  refine am_ite h (fun hc h => ?_) (fun hc h => ?_)
  · refine am_if_le_t (t := 8) d_X6_putShare_1 (by decide) hc hF ?_
    refine am_seg s_Pa_putShare_1 (y := (13, [(0, .ref 121), (1, .int a1), (2, .int a2), (3, .int a3)], [.int (nI 1)], am_D τ)) hF t_s_Pa_putShare_1 rfl rfl ?_
    exact ok_Pa_putShare_13 hF hR hB h
  · refine am_if_le_f (t := 8) d_X6_putShare_1 (by decide) hc hF ?_
    refine am_seg s_Pa_putShare_11 (y := (5, [(0, .ref 121), (1, .int a1), (2, .int a2), (3, .int a3)], [.int a3], am_D τ)) hF t_s_Pa_putShare_11 rfl rfl ?_
    refine am_ite h (fun hc h => ?_) (fun hc h => ?_)
    · refine am_if_gt_t (t := 12) d_X6_putShare_5 (by decide) hc hF ?_
      refine am_seg s_Pa_putShare_12 (y := (13, [(0, .ref 121), (1, .int a1), (2, .int a2), (3, .int a3)], [.int (nI 0)], am_D τ)) hF t_s_Pa_putShare_12 rfl rfl ?_
      exact ok_Pa_putShare_13 hF hR hB h
    · refine am_if_gt_f (t := 12) d_X6_putShare_5 (by decide) hc hF ?_
      refine am_seg s_Pa_putShare_13 (y := (13, [(0, .ref 121), (1, .int a1), (2, .int a2), (3, .int a3)], [.int (nI 1)], am_D τ)) hF t_s_Pa_putShare_13 rfl rfl ?_
      exact ok_Pa_putShare_13 hF hR hB h
theorem c_Pa_putShare {a1 : Int32} {a2 : Int32} {a3 : Int32} {τ τ' : am_T} (h : Pa_putShare τ a1 a2 a3 = some τ') : am_C yX6_putShare cX6_putShare 7 none 1 30 [.ref 121, .int a1, .int a2, .int a3] (am_D τ) none (am_D τ') :=
  am_enter (by decide +kernel) (Nat.le_of_ble_eq_true rfl) ⟨Nat.le_refl _, Nat.le_refl _⟩ (fun X hF hR hB => ok_Pa_putShare hF hR hB h)
def s_Fl_allAreas_0 : List am_Q := [(0, .iconst 0, 0, 0, 0, .int (nI 0)), (1, .istore_n 1, 0, 0, 0, .null), (2, .iconst 0, 0, 0, 0, .int (nI 0)), (3, .istore_n 2, 0, 0, 0, .null)]
theorem t_s_Fl_allAreas_0 : s_Fl_allAreas_0.all (am_ok 2 cX2_allAreas) = true := by decide +kernel
def s_Fl_allAreas_1 : List am_Q := [(4, .iload_n 2, 0, 0, 0, .null), (5, .aload_n 0, 0, 0, 0, .null), (6, .getfield 40, 2, 4, 16, .null)]
theorem t_s_Fl_allAreas_1 : s_Fl_allAreas_1.all (am_ok 2 cX2_allAreas) = true := by decide +kernel
theorem d_X2_allAreas_9 : decode cX2_allAreas 9 = .ok (.if_icmp .ge 18, 3) := by decide +kernel
def s_Fl_allAreas_2 : List am_Q := [(27, .iload_n 1, 0, 0, 0, .null)]
theorem t_s_Fl_allAreas_2 : s_Fl_allAreas_2.all (am_ok 2 cX2_allAreas) = true := by decide +kernel
theorem d_X2_allAreas_28 : decode cX2_allAreas 28 = .ok (.ireturn, 1) := by decide +kernel
def s_Fl_allAreas_3 : List am_Q := [(12, .iload_n 1, 0, 0, 0, .null), (13, .aload_n 0, 0, 0, 0, .null), (14, .getfield 15, 2, 1, 7, .null), (17, .iload_n 2, 0, 0, 0, .null)]
theorem t_s_Fl_allAreas_3 : s_Fl_allAreas_3.all (am_ok 2 cX2_allAreas) = true := by decide +kernel
theorem d_X2_allAreas_18 : decode cX2_allAreas 18 = .ok (.iaload, 1) := by decide +kernel
def s_Fl_allAreas_4 : List am_Q := [(19, .iadd, 0, 0, 0, .null), (20, .istore_n 1, 0, 0, 0, .null), (21, .iinc 2 1, 0, 0, 0, .int (nI 1)), (24, .goto (-20), 4, 0, 0, .null)]
theorem t_s_Fl_allAreas_4 : s_Fl_allAreas_4.all (am_ok 2 cX2_allAreas) = true := by decide +kernel
def Fl_allAreas_4 : Nat → am_T → Int32 → Int32 → Option (Int32 × am_T)
  | 0, _, _, _ => none
  | n + 1, τ, a1, a2 =>
    if (τ.1 4 4) ≤ a2 then
  (some (a1, τ))
else
  (am_g (am_in a2 8) ((Fl_allAreas_4 n) τ (a1 + (τ.1 6 (a2.toNatClampNeg))) (a2 + (nI 1))))
set_option maxRecDepth 20000 in
theorem ok_Fl_allAreas_4 {X : am_X} {v : Int32} {τ' : am_T} (hF : am_F X "ShareHouse$Flats" cX2_allAreas 3) (hR : am_R X 0 0) (hB : am_B X (some .int) (some (.int v)) (am_D τ')) : ∀ (n : Nat) (τ : am_T) (a1 : Int32) (a2 : Int32), Fl_allAreas_4 n τ a1 a2 = some (v, τ') → am_W X 3 (4, [(0, .ref 4), (1, .int a1), (2, .int a2)], [], am_D τ) := by
  intro n
  induction n with
  | zero => intro τ a1 a2 h; unfold Fl_allAreas_4 at h; cases h
  | succ n ih =>
    intro τ a1 a2 h
    unfold Fl_allAreas_4 at h
    refine am_seg s_Fl_allAreas_1 (y := (9, [(0, .ref 4), (1, .int a1), (2, .int a2)], [.int (τ.1 4 4), .int a2], am_D τ)) hF t_s_Fl_allAreas_1 rfl rfl ?_
    refine am_ite h (fun hc h => ?_) (fun hc h => ?_)
    · refine am_icmp_ge_t (t := 27) d_X2_allAreas_9 (by decide) hc hF ?_
      refine am_seg s_Fl_allAreas_2 (y := (28, [(0, .ref 4), (1, .int a1), (2, .int a2)], [.int a1], am_D τ)) hF t_s_Fl_allAreas_2 rfl rfl ?_
      obtain ⟨rfl, rfl⟩ := am_pair h
      exact am_iret d_X2_allAreas_28 hF hB
    · refine am_icmp_ge_f (t := 27) d_X2_allAreas_9 (by decide) hc hF ?_
      refine am_seg s_Fl_allAreas_3 (y := (18, [(0, .ref 4), (1, .int a1), (2, .int a2)], [.int a2, .ref 6, .int a1], am_D τ)) hF t_s_Fl_allAreas_3 rfl rfl ?_
      refine am_gd h (fun hi h => ?_)
      refine am_iald (n := 8) (j := (a2.toNatClampNeg)) d_X2_allAreas_18 (Nat.le_of_ble_eq_true rfl) (Nat.le_of_ble_eq_true rfl) rfl hi rfl hF ?_
      refine am_seg s_Fl_allAreas_4 (y := (4, [(2, .int (a2 + (nI 1))), (1, .int (a1 + (τ.1 6 (a2.toNatClampNeg)))), (0, .ref 4)], [], am_D τ)) hF t_s_Fl_allAreas_4 rfl rfl ?_
      refine am_pick [2, 1, 0] rfl ?_
      exact ih _ _ _ h
def Fl_allAreas (τ : am_T) : Option (Int32 × am_T) :=
  Fl_allAreas_4 5000 τ (nI 0) (nI 0)
set_option maxRecDepth 20000 in
theorem ok_Fl_allAreas {X : am_X} {v : Int32} {τ τ' : am_T} (hF : am_F X "ShareHouse$Flats" cX2_allAreas 3) (hR : am_R X 0 0) (hB : am_B X (some .int) (some (.int v)) (am_D τ')) (h : Fl_allAreas τ = some (v, τ')) : am_W X 3 (0, [(0, .ref 4)], [], am_D τ) := by
  unfold Fl_allAreas at h
  refine am_seg s_Fl_allAreas_0 (y := (4, [(2, .int (nI 0)), (1, .int (nI 0)), (0, .ref 4)], [], am_D τ)) hF t_s_Fl_allAreas_0 rfl rfl ?_
  refine am_pick [2, 1, 0] rfl ?_
  exact ok_Fl_allAreas_4 hF hR hB _ _ _ _ h
theorem c_Fl_allAreas {v : Int32} {τ τ' : am_T} (h : Fl_allAreas τ = some (v, τ')) : am_C yX2_allAreas cX2_allAreas 3 (some .int) 0 0 [.ref 4] (am_D τ) (some (.int v)) (am_D τ') :=
  am_enter (by decide +kernel) (Nat.le_of_ble_eq_true rfl) ⟨Nat.le_refl _, Nat.le_refl _⟩ (fun X hF hR hB => ok_Fl_allAreas hF hR hB h)
def s_Fl_allFloors_0 : List am_Q := [(0, .iconst 0, 0, 0, 0, .int (nI 0)), (1, .istore_n 1, 0, 0, 0, .null), (2, .iconst 0, 0, 0, 0, .int (nI 0)), (3, .istore_n 2, 0, 0, 0, .null)]
theorem t_s_Fl_allFloors_0 : s_Fl_allFloors_0.all (am_ok 2 cX2_allFloors) = true := by decide +kernel
def s_Fl_allFloors_1 : List am_Q := [(4, .iload_n 2, 0, 0, 0, .null), (5, .aload_n 0, 0, 0, 0, .null), (6, .getfield 40, 2, 4, 16, .null)]
theorem t_s_Fl_allFloors_1 : s_Fl_allFloors_1.all (am_ok 2 cX2_allFloors) = true := by decide +kernel
theorem d_X2_allFloors_9 : decode cX2_allFloors 9 = .ok (.if_icmp .ge 18, 3) := by decide +kernel
def s_Fl_allFloors_2 : List am_Q := [(27, .iload_n 1, 0, 0, 0, .null)]
theorem t_s_Fl_allFloors_2 : s_Fl_allFloors_2.all (am_ok 2 cX2_allFloors) = true := by decide +kernel
theorem d_X2_allFloors_28 : decode cX2_allFloors 28 = .ok (.ireturn, 1) := by decide +kernel
def s_Fl_allFloors_3 : List am_Q := [(12, .iload_n 1, 0, 0, 0, .null), (13, .aload_n 0, 0, 0, 0, .null), (14, .getfield 9, 2, 0, 4, .null), (17, .iload_n 2, 0, 0, 0, .null)]
theorem t_s_Fl_allFloors_3 : s_Fl_allFloors_3.all (am_ok 2 cX2_allFloors) = true := by decide +kernel
theorem d_X2_allFloors_18 : decode cX2_allFloors 18 = .ok (.iaload, 1) := by decide +kernel
def s_Fl_allFloors_4 : List am_Q := [(19, .iadd, 0, 0, 0, .null), (20, .istore_n 1, 0, 0, 0, .null), (21, .iinc 2 1, 0, 0, 0, .int (nI 1)), (24, .goto (-20), 4, 0, 0, .null)]
theorem t_s_Fl_allFloors_4 : s_Fl_allFloors_4.all (am_ok 2 cX2_allFloors) = true := by decide +kernel
def Fl_allFloors_4 : Nat → am_T → Int32 → Int32 → Option (Int32 × am_T)
  | 0, _, _, _ => none
  | n + 1, τ, a1, a2 =>
    if (τ.1 4 4) ≤ a2 then
  (some (a1, τ))
else
  (am_g (am_in a2 8) ((Fl_allFloors_4 n) τ (a1 + (τ.1 5 (a2.toNatClampNeg))) (a2 + (nI 1))))
set_option maxRecDepth 20000 in
theorem ok_Fl_allFloors_4 {X : am_X} {v : Int32} {τ' : am_T} (hF : am_F X "ShareHouse$Flats" cX2_allFloors 3) (hR : am_R X 0 0) (hB : am_B X (some .int) (some (.int v)) (am_D τ')) : ∀ (n : Nat) (τ : am_T) (a1 : Int32) (a2 : Int32), Fl_allFloors_4 n τ a1 a2 = some (v, τ') → am_W X 3 (4, [(0, .ref 4), (1, .int a1), (2, .int a2)], [], am_D τ) := by
  intro n
  induction n with
  | zero => intro τ a1 a2 h; unfold Fl_allFloors_4 at h; cases h
  | succ n ih =>
    intro τ a1 a2 h
    unfold Fl_allFloors_4 at h
    refine am_seg s_Fl_allFloors_1 (y := (9, [(0, .ref 4), (1, .int a1), (2, .int a2)], [.int (τ.1 4 4), .int a2], am_D τ)) hF t_s_Fl_allFloors_1 rfl rfl ?_
    refine am_ite h (fun hc h => ?_) (fun hc h => ?_)
    · refine am_icmp_ge_t (t := 27) d_X2_allFloors_9 (by decide) hc hF ?_
      refine am_seg s_Fl_allFloors_2 (y := (28, [(0, .ref 4), (1, .int a1), (2, .int a2)], [.int a1], am_D τ)) hF t_s_Fl_allFloors_2 rfl rfl ?_
      obtain ⟨rfl, rfl⟩ := am_pair h
      exact am_iret d_X2_allFloors_28 hF hB
    · refine am_icmp_ge_f (t := 27) d_X2_allFloors_9 (by decide) hc hF ?_
      refine am_seg s_Fl_allFloors_3 (y := (18, [(0, .ref 4), (1, .int a1), (2, .int a2)], [.int a2, .ref 5, .int a1], am_D τ)) hF t_s_Fl_allFloors_3 rfl rfl ?_
      refine am_gd h (fun hi h => ?_)
      refine am_iald (n := 8) (j := (a2.toNatClampNeg)) d_X2_allFloors_18 (Nat.le_of_ble_eq_true rfl) (Nat.le_of_ble_eq_true rfl) rfl hi rfl hF ?_
      refine am_seg s_Fl_allFloors_4 (y := (4, [(2, .int (a2 + (nI 1))), (1, .int (a1 + (τ.1 5 (a2.toNatClampNeg)))), (0, .ref 4)], [], am_D τ)) hF t_s_Fl_allFloors_4 rfl rfl ?_
      refine am_pick [2, 1, 0] rfl ?_
      exact ih _ _ _ h
def Fl_allFloors (τ : am_T) : Option (Int32 × am_T) :=
  Fl_allFloors_4 5000 τ (nI 0) (nI 0)
set_option maxRecDepth 20000 in
theorem ok_Fl_allFloors {X : am_X} {v : Int32} {τ τ' : am_T} (hF : am_F X "ShareHouse$Flats" cX2_allFloors 3) (hR : am_R X 0 0) (hB : am_B X (some .int) (some (.int v)) (am_D τ')) (h : Fl_allFloors τ = some (v, τ')) : am_W X 3 (0, [(0, .ref 4)], [], am_D τ) := by
  unfold Fl_allFloors at h
  refine am_seg s_Fl_allFloors_0 (y := (4, [(2, .int (nI 0)), (1, .int (nI 0)), (0, .ref 4)], [], am_D τ)) hF t_s_Fl_allFloors_0 rfl rfl ?_
  refine am_pick [2, 1, 0] rfl ?_
  exact ok_Fl_allFloors_4 hF hR hB _ _ _ _ h
theorem c_Fl_allFloors {v : Int32} {τ τ' : am_T} (h : Fl_allFloors τ = some (v, τ')) : am_C yX2_allFloors cX2_allFloors 3 (some .int) 0 0 [.ref 4] (am_D τ) (some (.int v)) (am_D τ') :=
  am_enter (by decide +kernel) (Nat.le_of_ble_eq_true rfl) ⟨Nat.le_refl _, Nat.le_refl _⟩ (fun X hF hR hB => ok_Fl_allFloors hF hR hB h)
def s_Pa_readShareOf_0 : List am_Q := [(0, .aload_n 1, 0, 0, 0, .null), (1, .getfield 54, 2, 3, 13, .null), (4, .iload_n 2, 0, 0, 0, .null)]
theorem t_s_Pa_readShareOf_0 : s_Pa_readShareOf_0.all (am_ok 6 cX6_readShareOf) = true := by decide +kernel
theorem d_X6_readShareOf_5 : decode cX6_readShareOf 5 = .ok (.aaload, 1) := by decide +kernel
def s_Pa_readShareOf_1 : List am_Q := [(6, .astore 4, 0, 0, 0, .null), (8, .aload 4, 0, 0, 0, .null), (10, .iload_n 3, 0, 0, 0, .null)]
theorem t_s_Pa_readShareOf_1 : s_Pa_readShareOf_1.all (am_ok 6 cX6_readShareOf) = true := by decide +kernel
theorem d_X6_readShareOf_11 : decode cX6_readShareOf 11 = .ok (.invokevirtual 58, 3) := by decide +kernel
def s_Pa_readShareOf_2 : List am_Q := [(14, .istore 5, 0, 0, 0, .null), (16, .iload 5, 0, 0, 0, .null)]
theorem t_s_Pa_readShareOf_2 : s_Pa_readShareOf_2.all (am_ok 6 cX6_readShareOf) = true := by decide +kernel
theorem d_X6_readShareOf_18 : decode cX6_readShareOf 18 = .ok (.ifCond .ge 7, 3) := by decide +kernel
def s_Pa_readShareOf_3 : List am_Q := [(25, .aload 4, 0, 0, 0, .null), (27, .iload 5, 0, 0, 0, .null), (29, .iconst 1, 0, 0, 0, .int (nI 1))]
theorem t_s_Pa_readShareOf_3 : s_Pa_readShareOf_3.all (am_ok 6 cX6_readShareOf) = true := by decide +kernel
theorem d_X6_readShareOf_30 : decode cX6_readShareOf 30 = .ok (.invokevirtual 64, 3) := by decide +kernel
theorem d_X6_readShareOf_33 : decode cX6_readShareOf 33 = .ok (.tableswitch 104 1 4 #[31, 44, 62, 80], 31) := by decide +kernel
def s_Pa_readShareOf_4 : List am_Q := [(137, .aload_n 0, 0, 0, 0, .null), (138, .iload_n 2, 0, 0, 0, .null), (139, .iconst 0, 0, 0, 0, .int (nI 0)), (140, .iconst 1, 0, 0, 0, .int (nI 1))]
theorem t_s_Pa_readShareOf_4 : s_Pa_readShareOf_4.all (am_ok 6 cX6_readShareOf) = true := by decide +kernel
theorem d_X6_readShareOf_141 : decode cX6_readShareOf 141 = .ok (.invokevirtual 68, 3) := by decide +kernel
theorem d_X6_readShareOf_144 : decode cX6_readShareOf 144 = .ok (.return_, 1) := by decide +kernel
def s_Pa_readShareOf_5 : List am_Q := [(64, .aload_n 0, 0, 0, 0, .null), (65, .iload_n 2, 0, 0, 0, .null), (66, .iconst 1, 0, 0, 0, .int (nI 1)), (67, .aload_n 1, 0, 0, 0, .null), (68, .getfield 32, 2, 4, 15, .null)]
theorem t_s_Pa_readShareOf_5 : s_Pa_readShareOf_5.all (am_ok 6 cX6_readShareOf) = true := by decide +kernel
theorem d_X6_readShareOf_71 : decode cX6_readShareOf 71 = .ok (.invokevirtual 68, 3) := by decide +kernel
def s_Pa_readShareOf_6 : List am_Q := [(74, .goto 70, 144, 0, 0, .null)]
theorem t_s_Pa_readShareOf_6 : s_Pa_readShareOf_6.all (am_ok 6 cX6_readShareOf) = true := by decide +kernel
def s_Pa_readShareOf_7 : List am_Q := [(77, .aload_n 0, 0, 0, 0, .null), (78, .iload_n 2, 0, 0, 0, .null), (79, .aload_n 1, 0, 0, 0, .null), (80, .getfield 72, 2, 1, 8, .null), (83, .iload_n 2, 0, 0, 0, .null)]
theorem t_s_Pa_readShareOf_7 : s_Pa_readShareOf_7.all (am_ok 6 cX6_readShareOf) = true := by decide +kernel
theorem d_X6_readShareOf_84 : decode cX6_readShareOf 84 = .ok (.iaload, 1) := by decide +kernel
def s_Pa_readShareOf_8 : List am_Q := [(85, .aload_n 1, 0, 0, 0, .null)]
theorem t_s_Pa_readShareOf_8 : s_Pa_readShareOf_8.all (am_ok 6 cX6_readShareOf) = true := by decide +kernel
theorem d_X6_readShareOf_86 : decode cX6_readShareOf 86 = .ok (.invokevirtual 75, 3) := by decide +kernel
theorem d_X6_readShareOf_89 : decode cX6_readShareOf 89 = .ok (.invokevirtual 68, 3) := by decide +kernel
def s_Pa_readShareOf_9 : List am_Q := [(92, .goto 52, 144, 0, 0, .null)]
theorem t_s_Pa_readShareOf_9 : s_Pa_readShareOf_9.all (am_ok 6 cX6_readShareOf) = true := by decide +kernel
def s_Pa_readShareOf_10 : List am_Q := [(95, .aload_n 0, 0, 0, 0, .null), (96, .iload_n 2, 0, 0, 0, .null), (97, .aload_n 1, 0, 0, 0, .null), (98, .getfield 79, 2, 0, 5, .null), (101, .iload_n 2, 0, 0, 0, .null)]
theorem t_s_Pa_readShareOf_10 : s_Pa_readShareOf_10.all (am_ok 6 cX6_readShareOf) = true := by decide +kernel
theorem d_X6_readShareOf_102 : decode cX6_readShareOf 102 = .ok (.iaload, 1) := by decide +kernel
def s_Pa_readShareOf_11 : List am_Q := [(103, .aload_n 1, 0, 0, 0, .null)]
theorem t_s_Pa_readShareOf_11 : s_Pa_readShareOf_11.all (am_ok 6 cX6_readShareOf) = true := by decide +kernel
theorem d_X6_readShareOf_104 : decode cX6_readShareOf 104 = .ok (.invokevirtual 82, 3) := by decide +kernel
theorem d_X6_readShareOf_107 : decode cX6_readShareOf 107 = .ok (.invokevirtual 68, 3) := by decide +kernel
def s_Pa_readShareOf_12 : List am_Q := [(110, .goto 34, 144, 0, 0, .null)]
theorem t_s_Pa_readShareOf_12 : s_Pa_readShareOf_12.all (am_ok 6 cX6_readShareOf) = true := by decide +kernel
def s_Pa_readShareOf_13 : List am_Q := [(113, .aload_n 0, 0, 0, 0, .null), (114, .iload_n 2, 0, 0, 0, .null), (115, .aload 4, 0, 0, 0, .null), (117, .iload 5, 0, 0, 0, .null), (119, .iconst 2, 0, 0, 0, .int (nI 2))]
theorem t_s_Pa_readShareOf_13 : s_Pa_readShareOf_13.all (am_ok 6 cX6_readShareOf) = true := by decide +kernel
theorem d_X6_readShareOf_120 : decode cX6_readShareOf 120 = .ok (.invokevirtual 64, 3) := by decide +kernel
def s_Pa_readShareOf_14 : List am_Q := [(123, .aload 4, 0, 0, 0, .null), (125, .iload 5, 0, 0, 0, .null), (127, .iconst 3, 0, 0, 0, .int (nI 3))]
theorem t_s_Pa_readShareOf_14 : s_Pa_readShareOf_14.all (am_ok 6 cX6_readShareOf) = true := by decide +kernel
theorem d_X6_readShareOf_128 : decode cX6_readShareOf 128 = .ok (.invokevirtual 64, 3) := by decide +kernel
theorem d_X6_readShareOf_131 : decode cX6_readShareOf 131 = .ok (.invokevirtual 68, 3) := by decide +kernel
def s_Pa_readShareOf_15 : List am_Q := [(134, .goto 10, 144, 0, 0, .null)]
theorem t_s_Pa_readShareOf_15 : s_Pa_readShareOf_15.all (am_ok 6 cX6_readShareOf) = true := by decide +kernel
def s_Pa_readShareOf_16 : List am_Q := [(21, .iconst 0, 0, 0, 0, .int (nI 0)), (22, .goto 11, 33, 0, 0, .null)]
theorem t_s_Pa_readShareOf_16 : s_Pa_readShareOf_16.all (am_ok 6 cX6_readShareOf) = true := by decide +kernel
def Pa_readShareOf_33 (τ : am_T) (a2 : Int32) (a4 : Nat) (a5 : Int32) (s0 : Int32) : Option (am_T) :=
  if (s0 : Int32).toInt < 1 ∨ 4 < (s0 : Int32).toInt then
  ((Pa_putShare τ a2 (nI 0) (nI 1)).bind (fun x4 =>
  some x4))
else
  (if s0 = nI 1 then
  ((Pa_putShare τ a2 (nI 1) (τ.1 4 4)).bind (fun x5 =>
  some x5))
else
  (if s0 = nI 2 then
  (am_g (am_in a2 8) ((Fl_allAreas τ).bind (fun x6 =>
  (Pa_putShare x6.2 a2 (τ.1 6 (a2.toNatClampNeg)) x6.1).bind (fun x7 =>
  some x7))))
else
  (if s0 = nI 3 then
  (am_g (am_in a2 8) ((Fl_allFloors τ).bind (fun x8 =>
  (Pa_putShare x8.2 a2 (τ.1 5 (a2.toNatClampNeg)) x8.1).bind (fun x9 =>
  some x9))))
else
  (if s0 = nI 4 then
  (am_g (am_isO a4 4) ((Le_cell τ a4 a5 (nI 2)).bind (fun x10 =>
  am_g (am_isO a4 4) ((Le_cell x10.2 a4 a5 (nI 3)).bind (fun x11 =>
  (Pa_putShare x11.2 a2 x10.1 x11.1).bind (fun x12 =>
  some x12))))))
else
  (none)))))
set_option maxRecDepth 20000 in
theorem ok_Pa_readShareOf_33 {X : am_X} {τ' : am_T} (hF : am_F X "ShareHouse$Parting" cX6_readShareOf 6) (hR : am_R X 2 56) (hB : am_B X none none (am_D τ')) {τ : am_T} {a2 : Int32} {a4 : Nat} {a5 : Int32} {s0 : Int32} (h : Pa_readShareOf_33 τ a2 a4 a5 s0 = some τ') : am_W X 6 (33, [(0, .ref 121), (1, .ref 4), (2, .int a2), (4, .ref a4), (5, .int a5)], [.int s0], am_D τ) := by
  unfold Pa_readShareOf_33 at h
  refine am_ite h (fun hc h => ?_) (fun hc h => ?_)
  · refine am_tswOut (t := 137) d_X6_readShareOf_33 hc (by decide) hF ?_
    refine am_seg s_Pa_readShareOf_4 (y := (141, [(0, .ref 121), (1, .ref 4), (2, .int a2), (4, .ref a4), (5, .int a5)], [.int (nI 1), .int (nI 0), .int a2, .ref 121], am_D τ)) hF t_s_Pa_readShareOf_4 rfl rfl ?_
    refine am_bd h (fun x4 hx h => ?_)
    refine am_callV (As := [.int a2, .int (nI 0), .int (nI 1)]) (r := none) (st := []) (σ' := am_D x4) (ci := 6) hF hR d_X6_readShareOf_141 (c_Pa_putShare (τ' := x4) hx) (Nat.le_refl _) (Nat.le_refl _) wl_Pa_68 wi_yX6_putShare we_yX6_putShare wn_ShareHouse_Parting wc_yX6_putShare (Nat.le_of_ble_eq_true rfl) (Nat.le_of_ble_eq_true rfl) rfl rfl wy_yX6_putShare rfl ⟨by decide, by decide⟩ (Nat.le_of_ble_eq_true rfl) ?_
    obtain rfl := am_one h
    exact am_vret d_X6_readShareOf_144 hF hB
  · refine am_ite h (fun hc h => ?_) (fun hc h => ?_)
    · refine am_tswIn (y := nI 1) (o := 31) (t := 64) d_X6_readShareOf_33 hc (by decide) (by decide) rfl (by decide) hF ?_
      refine am_seg s_Pa_readShareOf_5 (y := (71, [(0, .ref 121), (1, .ref 4), (2, .int a2), (4, .ref a4), (5, .int a5)], [.int (τ.1 4 4), .int (nI 1), .int a2, .ref 121], am_D τ)) hF t_s_Pa_readShareOf_5 rfl rfl ?_
      refine am_bd h (fun x5 hx h => ?_)
      refine am_callV (As := [.int a2, .int (nI 1), .int (τ.1 4 4)]) (r := none) (st := []) (σ' := am_D x5) (ci := 6) hF hR d_X6_readShareOf_71 (c_Pa_putShare (τ' := x5) hx) (Nat.le_refl _) (Nat.le_refl _) wl_Pa_68 wi_yX6_putShare we_yX6_putShare wn_ShareHouse_Parting wc_yX6_putShare (Nat.le_of_ble_eq_true rfl) (Nat.le_of_ble_eq_true rfl) rfl rfl wy_yX6_putShare rfl ⟨by decide, by decide⟩ (Nat.le_of_ble_eq_true rfl) ?_
      refine am_seg s_Pa_readShareOf_6 (y := (144, [(0, .ref 121), (1, .ref 4), (2, .int a2), (4, .ref a4), (5, .int a5)], [], am_D x5)) hF t_s_Pa_readShareOf_6 rfl rfl ?_
      obtain rfl := am_one h
      exact am_vret d_X6_readShareOf_144 hF hB
    · refine am_ite h (fun hc h => ?_) (fun hc h => ?_)
      · refine am_tswIn (y := nI 2) (o := 44) (t := 77) d_X6_readShareOf_33 hc (by decide) (by decide) rfl (by decide) hF ?_
        refine am_seg s_Pa_readShareOf_7 (y := (84, [(0, .ref 121), (1, .ref 4), (2, .int a2), (4, .ref a4), (5, .int a5)], [.int a2, .ref 6, .int a2, .ref 121], am_D τ)) hF t_s_Pa_readShareOf_7 rfl rfl ?_
        refine am_gd h (fun hi h => ?_)
        refine am_iald (n := 8) (j := (a2.toNatClampNeg)) d_X6_readShareOf_84 (Nat.le_of_ble_eq_true rfl) (Nat.le_of_ble_eq_true rfl) rfl hi rfl hF ?_
        refine am_seg s_Pa_readShareOf_8 (y := (86, [(0, .ref 121), (1, .ref 4), (2, .int a2), (4, .ref a4), (5, .int a5)], [.ref 4, .int (τ.1 6 (a2.toNatClampNeg)), .int a2, .ref 121], am_D τ)) hF t_s_Pa_readShareOf_8 rfl rfl ?_
        refine am_bd h (fun x6 hx h => ?_)
        refine am_callV (As := []) (r := (some (.int x6.1))) (st := [.int (τ.1 6 (a2.toNatClampNeg)), .int a2, .ref 121]) (σ' := am_D x6.2) (ci := 2) hF hR d_X6_readShareOf_86 (c_Fl_allAreas (τ' := x6.2) hx) (Nat.le_refl _) (Nat.le_refl _) wl_Pa_75 wi_yX2_allAreas we_yX2_allAreas wn_ShareHouse_Flats wc_yX2_allAreas (Nat.le_of_ble_eq_true rfl) (Nat.le_of_ble_eq_true rfl) rfl rfl wy_yX2_allAreas rfl ⟨by decide, by decide⟩ (Nat.le_of_ble_eq_true rfl) ?_
        refine am_bd h (fun x7 hx h => ?_)
        refine am_callV (As := [.int a2, .int (τ.1 6 (a2.toNatClampNeg)), .int x6.1]) (r := none) (st := []) (σ' := am_D x7) (ci := 6) hF hR d_X6_readShareOf_89 (c_Pa_putShare (τ' := x7) hx) (Nat.le_refl _) (Nat.le_refl _) wl_Pa_68 wi_yX6_putShare we_yX6_putShare wn_ShareHouse_Parting wc_yX6_putShare (Nat.le_of_ble_eq_true rfl) (Nat.le_of_ble_eq_true rfl) rfl rfl wy_yX6_putShare rfl ⟨by decide, by decide⟩ (Nat.le_of_ble_eq_true rfl) ?_
        refine am_seg s_Pa_readShareOf_9 (y := (144, [(0, .ref 121), (1, .ref 4), (2, .int a2), (4, .ref a4), (5, .int a5)], [], am_D x7)) hF t_s_Pa_readShareOf_9 rfl rfl ?_
        obtain rfl := am_one h
        exact am_vret d_X6_readShareOf_144 hF hB
      · refine am_ite h (fun hc h => ?_) (fun hc h => ?_)
        · refine am_tswIn (y := nI 3) (o := 62) (t := 95) d_X6_readShareOf_33 hc (by decide) (by decide) rfl (by decide) hF ?_
          refine am_seg s_Pa_readShareOf_10 (y := (102, [(0, .ref 121), (1, .ref 4), (2, .int a2), (4, .ref a4), (5, .int a5)], [.int a2, .ref 5, .int a2, .ref 121], am_D τ)) hF t_s_Pa_readShareOf_10 rfl rfl ?_
          refine am_gd h (fun hi h => ?_)
          refine am_iald (n := 8) (j := (a2.toNatClampNeg)) d_X6_readShareOf_102 (Nat.le_of_ble_eq_true rfl) (Nat.le_of_ble_eq_true rfl) rfl hi rfl hF ?_
          refine am_seg s_Pa_readShareOf_11 (y := (104, [(0, .ref 121), (1, .ref 4), (2, .int a2), (4, .ref a4), (5, .int a5)], [.ref 4, .int (τ.1 5 (a2.toNatClampNeg)), .int a2, .ref 121], am_D τ)) hF t_s_Pa_readShareOf_11 rfl rfl ?_
          refine am_bd h (fun x8 hx h => ?_)
          refine am_callV (As := []) (r := (some (.int x8.1))) (st := [.int (τ.1 5 (a2.toNatClampNeg)), .int a2, .ref 121]) (σ' := am_D x8.2) (ci := 2) hF hR d_X6_readShareOf_104 (c_Fl_allFloors (τ' := x8.2) hx) (Nat.le_refl _) (Nat.le_refl _) wl_Pa_82 wi_yX2_allFloors we_yX2_allFloors wn_ShareHouse_Flats wc_yX2_allFloors (Nat.le_of_ble_eq_true rfl) (Nat.le_of_ble_eq_true rfl) rfl rfl wy_yX2_allFloors rfl ⟨by decide, by decide⟩ (Nat.le_of_ble_eq_true rfl) ?_
          refine am_bd h (fun x9 hx h => ?_)
          refine am_callV (As := [.int a2, .int (τ.1 5 (a2.toNatClampNeg)), .int x8.1]) (r := none) (st := []) (σ' := am_D x9) (ci := 6) hF hR d_X6_readShareOf_107 (c_Pa_putShare (τ' := x9) hx) (Nat.le_refl _) (Nat.le_refl _) wl_Pa_68 wi_yX6_putShare we_yX6_putShare wn_ShareHouse_Parting wc_yX6_putShare (Nat.le_of_ble_eq_true rfl) (Nat.le_of_ble_eq_true rfl) rfl rfl wy_yX6_putShare rfl ⟨by decide, by decide⟩ (Nat.le_of_ble_eq_true rfl) ?_
          refine am_seg s_Pa_readShareOf_12 (y := (144, [(0, .ref 121), (1, .ref 4), (2, .int a2), (4, .ref a4), (5, .int a5)], [], am_D x9)) hF t_s_Pa_readShareOf_12 rfl rfl ?_
          obtain rfl := am_one h
          exact am_vret d_X6_readShareOf_144 hF hB
        · refine am_ite h (fun hc h => ?_) (fun hc h => ?_)
          · refine am_tswIn (y := nI 4) (o := 80) (t := 113) d_X6_readShareOf_33 hc (by decide) (by decide) rfl (by decide) hF ?_
            refine am_seg s_Pa_readShareOf_13 (y := (120, [(0, .ref 121), (1, .ref 4), (2, .int a2), (4, .ref a4), (5, .int a5)], [.int (nI 2), .int a5, .ref a4, .int a2, .ref 121], am_D τ)) hF t_s_Pa_readShareOf_13 rfl rfl ?_
            refine am_gd h (fun hg h => ?_)
            refine am_bd h (fun x10 hx h => ?_)
            refine am_callV (As := [.int a5, .int (nI 2)]) (r := (some (.int x10.1))) (st := [.int a2, .ref 121]) (σ' := am_D x10.2) (ci := 4) hF hR d_X6_readShareOf_120 (c_Le_cell (τ' := x10.2) hx) (Nat.le_refl _) (Nat.le_refl _) wl_Pa_64 wi_yX4_cell we_yX4_cell wn_ShareHouse_Lease wc_yX4_cell (am_isO_of hg).1 (am_isO_of hg).2.1 (am_isO_of hg).2.2 rfl wy_yX4_cell rfl ⟨by decide, by decide⟩ (Nat.le_of_ble_eq_true rfl) ?_
            refine am_seg s_Pa_readShareOf_14 (y := (128, [(0, .ref 121), (1, .ref 4), (2, .int a2), (4, .ref a4), (5, .int a5)], [.int (nI 3), .int a5, .ref a4, .int x10.1, .int a2, .ref 121], am_D x10.2)) hF t_s_Pa_readShareOf_14 rfl rfl ?_
            refine am_gd h (fun hg h => ?_)
            refine am_bd h (fun x11 hx h => ?_)
            refine am_callV (As := [.int a5, .int (nI 3)]) (r := (some (.int x11.1))) (st := [.int x10.1, .int a2, .ref 121]) (σ' := am_D x11.2) (ci := 4) hF hR d_X6_readShareOf_128 (c_Le_cell (τ' := x11.2) hx) (Nat.le_refl _) (Nat.le_refl _) wl_Pa_64 wi_yX4_cell we_yX4_cell wn_ShareHouse_Lease wc_yX4_cell (am_isO_of hg).1 (am_isO_of hg).2.1 (am_isO_of hg).2.2 rfl wy_yX4_cell rfl ⟨by decide, by decide⟩ (Nat.le_of_ble_eq_true rfl) ?_
            refine am_bd h (fun x12 hx h => ?_)
            refine am_callV (As := [.int a2, .int x10.1, .int x11.1]) (r := none) (st := []) (σ' := am_D x12) (ci := 6) hF hR d_X6_readShareOf_131 (c_Pa_putShare (τ' := x12) hx) (Nat.le_refl _) (Nat.le_refl _) wl_Pa_68 wi_yX6_putShare we_yX6_putShare wn_ShareHouse_Parting wc_yX6_putShare (Nat.le_of_ble_eq_true rfl) (Nat.le_of_ble_eq_true rfl) rfl rfl wy_yX6_putShare rfl ⟨by decide, by decide⟩ (Nat.le_of_ble_eq_true rfl) ?_
            refine am_seg s_Pa_readShareOf_15 (y := (144, [(0, .ref 121), (1, .ref 4), (2, .int a2), (4, .ref a4), (5, .int a5)], [], am_D x12)) hF t_s_Pa_readShareOf_15 rfl rfl ?_
            obtain rfl := am_one h
            exact am_vret d_X6_readShareOf_144 hF hB
          · cases h
def Pa_readShareOf (τ : am_T) (a2 : Int32) (a3 : Int32) : Option (am_T) :=
  am_g (am_in a2 8) ((am_RF 8 (a2.toNatClampNeg)).bind (fun q1 =>
  am_g (am_isO q1 4) ((Le_lastFor τ q1 a3).bind (fun x2 =>
  if 0 ≤ x2.1 then
  (am_g (am_isO q1 4) ((Le_cell x2.2 q1 x2.1 (nI 1)).bind (fun x3 =>
  Pa_readShareOf_33 x3.2 a2 q1 x2.1 x3.1)))
else
  (Pa_readShareOf_33 x2.2 a2 q1 x2.1 (nI 0))))))
set_option maxRecDepth 20000 in
theorem ok_Pa_readShareOf {X : am_X} {a2 : Int32} {a3 : Int32} {τ τ' : am_T} (hF : am_F X "ShareHouse$Parting" cX6_readShareOf 6) (hR : am_R X 2 56) (hB : am_B X none none (am_D τ')) (h : Pa_readShareOf τ a2 a3 = some τ') : am_W X 6 (0, [(0, .ref 121), (1, .ref 4), (2, .int a2), (3, .int a3)], [], am_D τ) := by
  unfold Pa_readShareOf at h
  refine am_seg s_Pa_readShareOf_0 (y := (5, [(0, .ref 121), (1, .ref 4), (2, .int a2), (3, .int a3)], [.int a2, .ref 8], am_D τ)) hF t_s_Pa_readShareOf_0 rfl rfl ?_
  refine am_gd h (fun hi h => ?_)
  refine am_bd h (fun q1 hq h => ?_)
  refine am_aald (n := 8) (j := (a2.toNatClampNeg)) (q := q1) d_X6_readShareOf_5 (Nat.le_of_ble_eq_true rfl) (Nat.le_of_ble_eq_true rfl) rfl hi rfl hq hF ?_
  refine am_seg s_Pa_readShareOf_1 (y := (11, [(4, .ref q1), (0, .ref 121), (1, .ref 4), (2, .int a2), (3, .int a3)], [.int a3, .ref q1], am_D τ)) hF t_s_Pa_readShareOf_1 rfl rfl ?_
  refine am_gd h (fun hg h => ?_)
  refine am_bd h (fun x2 hx h => ?_)
  refine am_callV (As := [.int a3]) (r := (some (.int x2.1))) (st := []) (σ' := am_D x2.2) (ci := 4) hF hR d_X6_readShareOf_11 (c_Le_lastFor (τ' := x2.2) hx) (Nat.le_refl _) (Nat.le_refl _) wl_Pa_58 wi_yX4_lastFor we_yX4_lastFor wn_ShareHouse_Lease wc_yX4_lastFor (am_isO_of hg).1 (am_isO_of hg).2.1 (am_isO_of hg).2.2 rfl wy_yX4_lastFor rfl ⟨by decide, by decide⟩ (Nat.le_of_ble_eq_true rfl) ?_
  refine am_seg s_Pa_readShareOf_2 (y := (18, [(5, .int x2.1), (4, .ref q1), (0, .ref 121), (1, .ref 4), (2, .int a2), (3, .int a3)], [.int x2.1], am_D x2.2)) hF t_s_Pa_readShareOf_2 rfl rfl ?_
  refine am_ite h (fun hc h => ?_) (fun hc h => ?_)
  · refine am_if_ge_t (t := 25) d_X6_readShareOf_18 (by decide) hc hF ?_
    refine am_seg s_Pa_readShareOf_3 (y := (30, [(5, .int x2.1), (4, .ref q1), (0, .ref 121), (1, .ref 4), (2, .int a2), (3, .int a3)], [.int (nI 1), .int x2.1, .ref q1], am_D x2.2)) hF t_s_Pa_readShareOf_3 rfl rfl ?_
    refine am_gd h (fun hg h => ?_)
    refine am_bd h (fun x3 hx h => ?_)
    refine am_callV (As := [.int x2.1, .int (nI 1)]) (r := (some (.int x3.1))) (st := []) (σ' := am_D x3.2) (ci := 4) hF hR d_X6_readShareOf_30 (c_Le_cell (τ' := x3.2) hx) (Nat.le_refl _) (Nat.le_refl _) wl_Pa_64 wi_yX4_cell we_yX4_cell wn_ShareHouse_Lease wc_yX4_cell (am_isO_of hg).1 (am_isO_of hg).2.1 (am_isO_of hg).2.2 rfl wy_yX4_cell rfl ⟨by decide, by decide⟩ (Nat.le_of_ble_eq_true rfl) ?_
    refine am_pick [2, 3, 4, 1, 0] rfl ?_
    exact ok_Pa_readShareOf_33 hF hR hB h
  · refine am_if_ge_f (t := 25) d_X6_readShareOf_18 (by decide) hc hF ?_
    refine am_seg s_Pa_readShareOf_16 (y := (33, [(5, .int x2.1), (4, .ref q1), (0, .ref 121), (1, .ref 4), (2, .int a2), (3, .int a3)], [.int (nI 0)], am_D x2.2)) hF t_s_Pa_readShareOf_16 rfl rfl ?_
    refine am_pick [2, 3, 4, 1, 0] rfl ?_
    exact ok_Pa_readShareOf_33 hF hR hB h
theorem c_Pa_readShareOf {a2 : Int32} {a3 : Int32} {τ τ' : am_T} (h : Pa_readShareOf τ a2 a3 = some τ') : am_C yX6_readShareOf cX6_readShareOf 6 none 2 56 [.ref 121, .ref 4, .int a2, .int a3] (am_D τ) none (am_D τ') :=
  am_enter (by decide +kernel) (Nat.le_of_ble_eq_true rfl) ⟨Nat.le_refl _, Nat.le_refl _⟩ (fun X hF hR hB => ok_Pa_readShareOf hF hR hB h)
def s_Pa_readShares_0 : List am_Q := [(0, .aload_n 0, 0, 0, 0, .null), (1, .lconst 1, 0, 0, 0, .long (lN 1)), (2, .putfield 28, 6, 5, 137, .null), (5, .iconst 0, 0, 0, 0, .int (nI 0)), (6, .istore_n 3, 0, 0, 0, .null)]
theorem t_s_Pa_readShares_0 : s_Pa_readShares_0.all (am_ok 6 cX6_readShares) = true := by decide +kernel
def s_Pa_readShares_1 : List am_Q := [(7, .iload_n 3, 0, 0, 0, .null), (8, .aload_n 1, 0, 0, 0, .null), (9, .getfield 32, 2, 4, 15, .null)]
theorem t_s_Pa_readShares_1 : s_Pa_readShares_1.all (am_ok 6 cX6_readShares) = true := by decide +kernel
theorem d_X6_readShares_12 : decode cX6_readShares 12 = .ok (.if_icmp .ge 49, 3) := by decide +kernel
def s_Pa_readShares_2 : List am_Q := [(61, .aload_n 0, 0, 0, 0, .null), (62, .lconst 0, 0, 0, 0, .long (lN 0)), (63, .putfield 51, 6, 6, 139, .null), (66, .iconst 0, 0, 0, 0, .int (nI 0)), (67, .istore_n 3, 0, 0, 0, .null)]
theorem t_s_Pa_readShares_2 : s_Pa_readShares_2.all (am_ok 6 cX6_readShares) = true := by decide +kernel
def s_Pa_readShares_3 : List am_Q := [(68, .iload_n 3, 0, 0, 0, .null), (69, .aload_n 1, 0, 0, 0, .null), (70, .getfield 32, 2, 4, 15, .null)]
theorem t_s_Pa_readShares_3 : s_Pa_readShares_3.all (am_ok 6 cX6_readShares) = true := by decide +kernel
theorem d_X6_readShares_73 : decode cX6_readShares 73 = .ok (.if_icmp .ge 52, 3) := by decide +kernel
theorem d_X6_readShares_125 : decode cX6_readShares 125 = .ok (.return_, 1) := by decide +kernel
def s_Pa_readShares_4 : List am_Q := [(76, .aload_n 0, 0, 0, 0, .null), (77, .getfield 18, 6, 2, 132, .null), (80, .iload_n 3, 0, 0, 0, .null), (81, .aload_n 0, 0, 0, 0, .null), (82, .getfield 9, 6, 0, 128, .null), (85, .iload_n 3, 0, 0, 0, .null)]
theorem t_s_Pa_readShares_4 : s_Pa_readShares_4.all (am_ok 6 cX6_readShares) = true := by decide +kernel
theorem d_X6_readShares_86 : decode cX6_readShares 86 = .ok (.laload, 1) := by decide +kernel
def s_Pa_readShares_5 : List am_Q := [(87, .aload_n 0, 0, 0, 0, .null), (88, .getfield 28, 6, 5, 137, .null), (91, .lconst 1, 0, 0, 0, .long (lN 1)), (92, .aload_n 0, 0, 0, 0, .null), (93, .getfield 15, 6, 1, 130, .null), (96, .iload_n 3, 0, 0, 0, .null)]
theorem t_s_Pa_readShares_5 : s_Pa_readShares_5.all (am_ok 6 cX6_readShares) = true := by decide +kernel
theorem d_X6_readShares_97 : decode cX6_readShares 97 = .ok (.laload, 1) := by decide +kernel
theorem d_X6_readShares_98 : decode cX6_readShares 98 = .ok (.invokestatic 46, 3) := by decide +kernel
theorem d_X6_readShares_101 : decode cX6_readShares 101 = .ok (.ldiv, 1) := by decide +kernel
def s_Pa_readShares_6 : List am_Q := [(102, .lmul, 0, 0, 0, .null)]
theorem t_s_Pa_readShares_6 : s_Pa_readShares_6.all (am_ok 6 cX6_readShares) = true := by decide +kernel
theorem d_X6_readShares_103 : decode cX6_readShares 103 = .ok (.lastore, 1) := by decide +kernel
def s_Pa_readShares_7 : List am_Q := [(104, .aload_n 0, 0, 0, 0, .null), (105, .dup, 0, 0, 0, .null), (106, .getfield 51, 6, 6, 139, .null), (109, .aload_n 0, 0, 0, 0, .null), (110, .getfield 18, 6, 2, 132, .null), (113, .iload_n 3, 0, 0, 0, .null)]
theorem t_s_Pa_readShares_7 : s_Pa_readShares_7.all (am_ok 6 cX6_readShares) = true := by decide +kernel
theorem d_X6_readShares_114 : decode cX6_readShares 114 = .ok (.laload, 1) := by decide +kernel
def s_Pa_readShares_8 : List am_Q := [(115, .ladd, 0, 0, 0, .null), (116, .putfield 51, 6, 6, 139, .null), (119, .iinc 3 1, 0, 0, 0, .int (nI 1)), (122, .goto (-54), 68, 0, 0, .null)]
theorem t_s_Pa_readShares_8 : s_Pa_readShares_8.all (am_ok 6 cX6_readShares) = true := by decide +kernel
def s_Pa_readShares_9 : List am_Q := [(15, .aload_n 0, 0, 0, 0, .null), (16, .aload_n 1, 0, 0, 0, .null), (17, .iload_n 3, 0, 0, 0, .null), (18, .iload_n 2, 0, 0, 0, .null)]
theorem t_s_Pa_readShares_9 : s_Pa_readShares_9.all (am_ok 6 cX6_readShares) = true := by decide +kernel
theorem d_X6_readShares_19 : decode cX6_readShares 19 = .ok (.invokevirtual 38, 3) := by decide +kernel
def s_Pa_readShares_10 : List am_Q := [(22, .aload_n 0, 0, 0, 0, .null), (23, .aload_n 0, 0, 0, 0, .null), (24, .getfield 28, 6, 5, 137, .null), (27, .lconst 1, 0, 0, 0, .long (lN 1)), (28, .aload_n 0, 0, 0, 0, .null), (29, .getfield 28, 6, 5, 137, .null), (32, .aload_n 0, 0, 0, 0, .null), (33, .getfield 15, 6, 1, 130, .null), (36, .iload_n 3, 0, 0, 0, .null)]
theorem t_s_Pa_readShares_10 : s_Pa_readShares_10.all (am_ok 6 cX6_readShares) = true := by decide +kernel
theorem d_X6_readShares_37 : decode cX6_readShares 37 = .ok (.laload, 1) := by decide +kernel
theorem d_X6_readShares_38 : decode cX6_readShares 38 = .ok (.invokestatic 42, 3) := by decide +kernel
theorem d_X6_readShares_41 : decode cX6_readShares 41 = .ok (.invokestatic 46, 3) := by decide +kernel
theorem d_X6_readShares_44 : decode cX6_readShares 44 = .ok (.ldiv, 1) := by decide +kernel
def s_Pa_readShares_11 : List am_Q := [(45, .aload_n 0, 0, 0, 0, .null), (46, .getfield 15, 6, 1, 130, .null), (49, .iload_n 3, 0, 0, 0, .null)]
theorem t_s_Pa_readShares_11 : s_Pa_readShares_11.all (am_ok 6 cX6_readShares) = true := by decide +kernel
theorem d_X6_readShares_50 : decode cX6_readShares 50 = .ok (.laload, 1) := by decide +kernel
def s_Pa_readShares_12 : List am_Q := [(51, .lmul, 0, 0, 0, .null), (52, .putfield 28, 6, 5, 137, .null), (55, .iinc 3 1, 0, 0, 0, .int (nI 1)), (58, .goto (-51), 7, 0, 0, .null)]
theorem t_s_Pa_readShares_12 : s_Pa_readShares_12.all (am_ok 6 cX6_readShares) = true := by decide +kernel
def Pa_readShares_68 : Nat → am_T → Int32 → Option (am_T)
  | 0, _, _ => none
  | n + 1, τ, a3 =>
    if (τ.1 4 4) ≤ a3 then
  (some τ)
else
  (am_g (am_in a3 8) (am_g (am_in a3 8) (if (if (τ.2 123 (a3.toNatClampNeg)) < (lN 1) then (lN 1) else (τ.2 123 (a3.toNatClampNeg))) = 0 then none else
  am_g (am_in a3 8) (am_g (am_in a3 8) ((Pa_readShares_68 n) (am_sl (am_sl τ 124 (a3.toNatClampNeg) ((τ.2 122 (a3.toNatClampNeg)) * ((τ.2 121 5) / (if (τ.2 123 (a3.toNatClampNeg)) < (lN 1) then (lN 1) else (τ.2 123 (a3.toNatClampNeg)))))) 121 6 (((am_sl τ 124 (a3.toNatClampNeg) ((τ.2 122 (a3.toNatClampNeg)) * ((τ.2 121 5) / (if (τ.2 123 (a3.toNatClampNeg)) < (lN 1) then (lN 1) else (τ.2 123 (a3.toNatClampNeg)))))).2 121 6) + ((am_sl τ 124 (a3.toNatClampNeg) ((τ.2 122 (a3.toNatClampNeg)) * ((τ.2 121 5) / (if (τ.2 123 (a3.toNatClampNeg)) < (lN 1) then (lN 1) else (τ.2 123 (a3.toNatClampNeg)))))).2 124 (a3.toNatClampNeg)))) (a3 + (nI 1)))))))
set_option maxRecDepth 20000 in
theorem ok_Pa_readShares_68 {X : am_X} {τ' : am_T} (hF : am_F X "ShareHouse$Parting" cX6_readShares 4) (hR : am_R X 3 81) (hB : am_B X none none (am_D τ')) : ∀ (n : Nat) (τ : am_T) (a3 : Int32), Pa_readShares_68 n τ a3 = some τ' → am_W X 4 (68, [(0, .ref 121), (1, .ref 4), (3, .int a3)], [], am_D τ) := by
  intro n
  induction n with
  | zero => intro τ a3 h; unfold Pa_readShares_68 at h; cases h
  | succ n ih =>
    intro τ a3 h
    unfold Pa_readShares_68 at h
    refine am_seg s_Pa_readShares_3 (y := (73, [(0, .ref 121), (1, .ref 4), (3, .int a3)], [.int (τ.1 4 4), .int a3], am_D τ)) hF t_s_Pa_readShares_3 rfl rfl ?_
    refine am_ite h (fun hc h => ?_) (fun hc h => ?_)
    · refine am_icmp_ge_t (t := 125) d_X6_readShares_73 (by decide) hc hF ?_
      obtain rfl := am_one h
      exact am_vret d_X6_readShares_125 hF hB
    · refine am_icmp_ge_f (t := 125) d_X6_readShares_73 (by decide) hc hF ?_
      refine am_seg s_Pa_readShares_4 (y := (86, [(0, .ref 121), (1, .ref 4), (3, .int a3)], [.int a3, .ref 122, .int a3, .ref 124], am_D τ)) hF t_s_Pa_readShares_4 rfl rfl ?_
      refine am_gd h (fun hi h => ?_)
      refine am_lald (n := 8) (j := (a3.toNatClampNeg)) d_X6_readShares_86 (Nat.le_of_ble_eq_true rfl) (Nat.le_of_ble_eq_true rfl) rfl hi rfl hF ?_
      refine am_seg s_Pa_readShares_5 (y := (97, [(0, .ref 121), (1, .ref 4), (3, .int a3)], [.int a3, .ref 123, .long (lN 1), .long (τ.2 121 5), .long (τ.2 122 (a3.toNatClampNeg)), .int a3, .ref 124], am_D τ)) hF t_s_Pa_readShares_5 rfl rfl ?_
      refine am_gd h (fun hi h => ?_)
      refine am_lald (n := 8) (j := (a3.toNatClampNeg)) d_X6_readShares_97 (Nat.le_of_ble_eq_true rfl) (Nat.le_of_ble_eq_true rfl) rfl hi rfl hF ?_
      refine am_mmaxL d_X6_readShares_98 wq_maxL_6_46 wq_maxL_s wq_math wq_maxL_c ⟨by decide, Nat.le_of_ble_eq_true rfl⟩ (Nat.le_refl _) hF hR ?_
      refine am_ite h (fun _ h => by cases h) (fun hc h => ?_)
      refine am_ldiv d_X6_readShares_101 hc hF ?_
      refine am_seg s_Pa_readShares_6 (y := (103, [(0, .ref 121), (1, .ref 4), (3, .int a3)], [.long ((τ.2 122 (a3.toNatClampNeg)) * ((τ.2 121 5) / (if (τ.2 123 (a3.toNatClampNeg)) < (lN 1) then (lN 1) else (τ.2 123 (a3.toNatClampNeg))))), .int a3, .ref 124], am_D τ)) hF t_s_Pa_readShares_6 rfl rfl ?_
      refine am_gd h (fun hi h => ?_)
      refine am_last (n := 8) (j := (a3.toNatClampNeg)) d_X6_readShares_103 (Nat.le_of_ble_eq_true rfl) (Nat.le_of_ble_eq_true rfl) rfl hi rfl hF ?_
      refine am_seg s_Pa_readShares_7 (y := (114, [(0, .ref 121), (1, .ref 4), (3, .int a3)], [.int a3, .ref 124, .long ((am_sl τ 124 (a3.toNatClampNeg) ((τ.2 122 (a3.toNatClampNeg)) * ((τ.2 121 5) / (if (τ.2 123 (a3.toNatClampNeg)) < (lN 1) then (lN 1) else (τ.2 123 (a3.toNatClampNeg)))))).2 121 6), .ref 121], am_D (am_sl τ 124 (a3.toNatClampNeg) ((τ.2 122 (a3.toNatClampNeg)) * ((τ.2 121 5) / (if (τ.2 123 (a3.toNatClampNeg)) < (lN 1) then (lN 1) else (τ.2 123 (a3.toNatClampNeg)))))))) hF t_s_Pa_readShares_7 rfl rfl ?_
      refine am_gd h (fun hi h => ?_)
      refine am_lald (n := 8) (j := (a3.toNatClampNeg)) d_X6_readShares_114 (Nat.le_of_ble_eq_true rfl) (Nat.le_of_ble_eq_true rfl) rfl hi rfl hF ?_
      refine am_seg s_Pa_readShares_8 (y := (68, [(3, .int (a3 + (nI 1))), (0, .ref 121), (1, .ref 4)], [], am_D (am_sl (am_sl τ 124 (a3.toNatClampNeg) ((τ.2 122 (a3.toNatClampNeg)) * ((τ.2 121 5) / (if (τ.2 123 (a3.toNatClampNeg)) < (lN 1) then (lN 1) else (τ.2 123 (a3.toNatClampNeg)))))) 121 6 (((am_sl τ 124 (a3.toNatClampNeg) ((τ.2 122 (a3.toNatClampNeg)) * ((τ.2 121 5) / (if (τ.2 123 (a3.toNatClampNeg)) < (lN 1) then (lN 1) else (τ.2 123 (a3.toNatClampNeg)))))).2 121 6) + ((am_sl τ 124 (a3.toNatClampNeg) ((τ.2 122 (a3.toNatClampNeg)) * ((τ.2 121 5) / (if (τ.2 123 (a3.toNatClampNeg)) < (lN 1) then (lN 1) else (τ.2 123 (a3.toNatClampNeg)))))).2 124 (a3.toNatClampNeg)))))) hF t_s_Pa_readShares_8 rfl rfl ?_
      refine am_pick [1, 2, 0] rfl ?_
      exact ih _ _ h
def Pa_readShares_7 : Nat → am_T → Int32 → Int32 → Option (am_T)
  | 0, _, _, _ => none
  | n + 1, τ, a2, a3 =>
    if (τ.1 4 4) ≤ a3 then
  (Pa_readShares_68 5000 (am_sl τ 121 6 (lN 0)) (nI 0))
else
  ((Pa_readShareOf τ a3 a2).bind (fun x1 =>
  am_g (am_in a3 8) ((X_divisorOf x1 (x1.2 121 5) (x1.2 123 (a3.toNatClampNeg))).bind (fun x2 =>
  if (if x2.1 < (lN 1) then (lN 1) else x2.1) = 0 then none else
  am_g (am_in a3 8) ((Pa_readShares_7 n) (am_sl x2.2 121 5 (((x1.2 121 5) / (if x2.1 < (lN 1) then (lN 1) else x2.1)) * (x2.2.2 123 (a3.toNatClampNeg)))) a2 (a3 + (nI 1)))))))
set_option maxRecDepth 20000 in
theorem ok_Pa_readShares_7 {X : am_X} {τ' : am_T} (hF : am_F X "ShareHouse$Parting" cX6_readShares 4) (hR : am_R X 3 81) (hB : am_B X none none (am_D τ')) : ∀ (n : Nat) (τ : am_T) (a2 : Int32) (a3 : Int32), Pa_readShares_7 n τ a2 a3 = some τ' → am_W X 4 (7, [(0, .ref 121), (1, .ref 4), (2, .int a2), (3, .int a3)], [], am_D τ) := by
  intro n
  induction n with
  | zero => intro τ a2 a3 h; unfold Pa_readShares_7 at h; cases h
  | succ n ih =>
    intro τ a2 a3 h
    unfold Pa_readShares_7 at h
    refine am_seg s_Pa_readShares_1 (y := (12, [(0, .ref 121), (1, .ref 4), (2, .int a2), (3, .int a3)], [.int (τ.1 4 4), .int a3], am_D τ)) hF t_s_Pa_readShares_1 rfl rfl ?_
    refine am_ite h (fun hc h => ?_) (fun hc h => ?_)
    · refine am_icmp_ge_t (t := 61) d_X6_readShares_12 (by decide) hc hF ?_
      refine am_seg s_Pa_readShares_2 (y := (68, [(3, .int (nI 0)), (0, .ref 121), (1, .ref 4), (2, .int a2)], [], am_D (am_sl τ 121 6 (lN 0)))) hF t_s_Pa_readShares_2 rfl rfl ?_
      refine am_pick [1, 2, 0] rfl ?_
      exact ok_Pa_readShares_68 hF hR hB _ _ _ h
    · refine am_icmp_ge_f (t := 61) d_X6_readShares_12 (by decide) hc hF ?_
      refine am_seg s_Pa_readShares_9 (y := (19, [(0, .ref 121), (1, .ref 4), (2, .int a2), (3, .int a3)], [.int a2, .int a3, .ref 4, .ref 121], am_D τ)) hF t_s_Pa_readShares_9 rfl rfl ?_
      refine am_bd h (fun x1 hx h => ?_)
      refine am_callV (As := [.ref 4, .int a3, .int a2]) (r := none) (st := []) (σ' := am_D x1) (ci := 6) hF hR d_X6_readShares_19 (c_Pa_readShareOf (τ' := x1) hx) (Nat.le_refl _) (Nat.le_refl _) wl_Pa_38 wi_yX6_readShareOf we_yX6_readShareOf wn_ShareHouse_Parting wc_yX6_readShareOf (Nat.le_of_ble_eq_true rfl) (Nat.le_of_ble_eq_true rfl) rfl rfl wy_yX6_readShareOf rfl ⟨by decide, by decide⟩ (Nat.le_of_ble_eq_true rfl) ?_
      refine am_seg s_Pa_readShares_10 (y := (37, [(0, .ref 121), (1, .ref 4), (2, .int a2), (3, .int a3)], [.int a3, .ref 123, .long (x1.2 121 5), .long (lN 1), .long (x1.2 121 5), .ref 121], am_D x1)) hF t_s_Pa_readShares_10 rfl rfl ?_
      refine am_gd h (fun hi h => ?_)
      refine am_lald (n := 8) (j := (a3.toNatClampNeg)) d_X6_readShares_37 (Nat.le_of_ble_eq_true rfl) (Nat.le_of_ble_eq_true rfl) rfl hi rfl hF ?_
      refine am_bd h (fun x2 hx h => ?_)
      refine am_callSN (As := [.long (x1.2 121 5), .long (x1.2 123 (a3.toNatClampNeg))]) (r := (some (.long x2.1))) (st := [.long (lN 1), .long (x1.2 121 5), .ref 121]) (σ' := am_D x2.2) (host := "ShareHouse") hF hR d_X6_readShares_38 (c_X_divisorOf (τ' := x2.2) hx) (Nat.le_refl _) (Nat.le_refl _) wk_Pa_42 ws_yX11_divisorOf wn_ShareHouse wc_yX11_divisorOf wy_yX11_divisorOf rfl ⟨by decide, by decide⟩ (Nat.le_of_ble_eq_true rfl) ?_
      refine am_mmaxL d_X6_readShares_41 wq_maxL_6_46 wq_maxL_s wq_math wq_maxL_c ⟨by decide, Nat.le_of_ble_eq_true rfl⟩ (Nat.le_refl _) hF hR ?_
      refine am_ite h (fun _ h => by cases h) (fun hc h => ?_)
      refine am_ldiv d_X6_readShares_44 hc hF ?_
      refine am_seg s_Pa_readShares_11 (y := (50, [(0, .ref 121), (1, .ref 4), (2, .int a2), (3, .int a3)], [.int a3, .ref 123, .long ((x1.2 121 5) / (if x2.1 < (lN 1) then (lN 1) else x2.1)), .ref 121], am_D x2.2)) hF t_s_Pa_readShares_11 rfl rfl ?_
      refine am_gd h (fun hi h => ?_)
      refine am_lald (n := 8) (j := (a3.toNatClampNeg)) d_X6_readShares_50 (Nat.le_of_ble_eq_true rfl) (Nat.le_of_ble_eq_true rfl) rfl hi rfl hF ?_
      refine am_seg s_Pa_readShares_12 (y := (7, [(3, .int (a3 + (nI 1))), (0, .ref 121), (1, .ref 4), (2, .int a2)], [], am_D (am_sl x2.2 121 5 (((x1.2 121 5) / (if x2.1 < (lN 1) then (lN 1) else x2.1)) * (x2.2.2 123 (a3.toNatClampNeg)))))) hF t_s_Pa_readShares_12 rfl rfl ?_
      refine am_pick [1, 2, 3, 0] rfl ?_
      exact ih _ _ _ h
def Pa_readShares (τ : am_T) (a2 : Int32) : Option (am_T) :=
  Pa_readShares_7 5000 (am_sl τ 121 5 (lN 1)) a2 (nI 0)
set_option maxRecDepth 20000 in
theorem ok_Pa_readShares {X : am_X} {a2 : Int32} {τ τ' : am_T} (hF : am_F X "ShareHouse$Parting" cX6_readShares 4) (hR : am_R X 3 81) (hB : am_B X none none (am_D τ')) (h : Pa_readShares τ a2 = some τ') : am_W X 4 (0, [(0, .ref 121), (1, .ref 4), (2, .int a2)], [], am_D τ) := by
  unfold Pa_readShares at h
  refine am_seg s_Pa_readShares_0 (y := (7, [(3, .int (nI 0)), (0, .ref 121), (1, .ref 4), (2, .int a2)], [], am_D (am_sl τ 121 5 (lN 1)))) hF t_s_Pa_readShares_0 rfl rfl ?_
  refine am_pick [1, 2, 3, 0] rfl ?_
  exact ok_Pa_readShares_7 hF hR hB _ _ _ _ h
theorem c_Pa_readShares {a2 : Int32} {τ τ' : am_T} (h : Pa_readShares τ a2 = some τ') : am_C yX6_readShares cX6_readShares 4 none 3 81 [.ref 121, .ref 4, .int a2] (am_D τ) none (am_D τ') :=
  am_enter (by decide +kernel) (Nat.le_of_ble_eq_true rfl) ⟨Nat.le_refl _, Nat.le_refl _⟩ (fun X hF hR hB => ok_Pa_readShares hF hR hB h)
def s_X_share_0 : List am_Q := [(0, .aload_n 0, 0, 0, 0, .null), (1, .getfield 10, 11, 0, 145, .null), (4, .getfield 51, 3, 3, 95, .null), (7, .iload_n 1, 0, 0, 0, .null)]
theorem t_s_X_share_0 : s_X_share_0.all (am_ok 11 cX11_share) = true := by decide +kernel
theorem d_X11_share_8 : decode cX11_share 8 = .ok (.invokevirtual 68, 3) := by decide +kernel
theorem d_X11_share_11 : decode cX11_share 11 = .ok (.ifCond .eq 19, 3) := by decide +kernel
def s_X_share_1 : List am_Q := [(30, .iconst (-1), 0, 0, 0, .int (-1 : Int32))]
theorem t_s_X_share_1 : s_X_share_1.all (am_ok 11 cX11_share) = true := by decide +kernel
theorem d_X11_share_31 : decode cX11_share 31 = .ok (.ireturn, 1) := by decide +kernel
def s_X_share_2 : List am_Q := [(14, .iload_n 2, 0, 0, 0, .null)]
theorem t_s_X_share_2 : s_X_share_2.all (am_ok 11 cX11_share) = true := by decide +kernel
theorem d_X11_share_15 : decode cX11_share 15 = .ok (.invokestatic 112, 3) := by decide +kernel
theorem d_X11_share_18 : decode cX11_share 18 = .ok (.ifCond .eq 12, 3) := by decide +kernel
def s_X_share_3 : List am_Q := [(30, .iconst (-1), 0, 0, 0, .int (-1 : Int32))]
theorem t_s_X_share_3 : s_X_share_3.all (am_ok 11 cX11_share) = true := by decide +kernel
def s_X_share_4 : List am_Q := [(21, .iload_n 3, 0, 0, 0, .null), (22, .iconst 0, 0, 0, 0, .int (nI 0)), (23, .iconst 1, 0, 0, 0, .int (nI 1))]
theorem t_s_X_share_4 : s_X_share_4.all (am_ok 11 cX11_share) = true := by decide +kernel
theorem d_X11_share_24 : decode cX11_share 24 = .ok (.invokestatic 47, 3) := by decide +kernel
theorem d_X11_share_27 : decode cX11_share 27 = .ok (.ifCond .ne 5, 3) := by decide +kernel
def s_X_share_5 : List am_Q := [(32, .aload_n 0, 0, 0, 0, .null), (33, .getfield 36, 11, 5, 150, .null), (36, .aload_n 0, 0, 0, 0, .null), (37, .getfield 10, 11, 0, 145, .null), (40, .getfield 51, 3, 3, 95, .null), (43, .iload_n 2, 0, 0, 0, .null)]
theorem t_s_X_share_5 : s_X_share_5.all (am_ok 11 cX11_share) = true := by decide +kernel
theorem d_X11_share_44 : decode cX11_share 44 = .ok (.invokevirtual 115, 3) := by decide +kernel
def s_X_share_6 : List am_Q := [(47, .iload_n 3, 0, 0, 0, .null)]
theorem t_s_X_share_6 : s_X_share_6.all (am_ok 11 cX11_share) = true := by decide +kernel
theorem d_X11_share_48 : decode cX11_share 48 = .ok (.ifCond .ne 15, 3) := by decide +kernel
def s_X_share_7 : List am_Q := [(63, .aload_n 0, 0, 0, 0, .null), (64, .getfield 36, 11, 5, 150, .null), (67, .getfield 123, 6, 1, 131, .null), (70, .iload_n 1, 0, 0, 0, .null)]
theorem t_s_X_share_7 : s_X_share_7.all (am_ok 11 cX11_share) = true := by decide +kernel
theorem d_X11_share_71 : decode cX11_share 71 = .ok (.laload, 1) := by decide +kernel
def s_X_share_8 : List am_Q := [(72, .l2i, 0, 0, 0, .null)]
theorem t_s_X_share_8 : s_X_share_8.all (am_ok 11 cX11_share) = true := by decide +kernel
theorem d_X11_share_73 : decode cX11_share 73 = .ok (.ireturn, 1) := by decide +kernel
def s_X_share_9 : List am_Q := [(51, .aload_n 0, 0, 0, 0, .null), (52, .getfield 36, 11, 5, 150, .null), (55, .getfield 119, 6, 0, 129, .null), (58, .iload_n 1, 0, 0, 0, .null)]
theorem t_s_X_share_9 : s_X_share_9.all (am_ok 11 cX11_share) = true := by decide +kernel
theorem d_X11_share_59 : decode cX11_share 59 = .ok (.laload, 1) := by decide +kernel
def s_X_share_10 : List am_Q := [(60, .goto 12, 72, 0, 0, .null), (72, .l2i, 0, 0, 0, .null)]
theorem t_s_X_share_10 : s_X_share_10.all (am_ok 11 cX11_share) = true := by decide +kernel
def s_X_share_11 : List am_Q := [(30, .iconst (-1), 0, 0, 0, .int (-1 : Int32))]
theorem t_s_X_share_11 : s_X_share_11.all (am_ok 11 cX11_share) = true := by decide +kernel
def X_share (τ : am_T) (a1 : Int32) (a2 : Int32) (a3 : Int32) : Option (Int32 × am_T) :=
  (Fl_has τ a1).bind (fun x1 =>
  if x1.1 = 0 then
  (some ((-1 : Int32), x1.2))
else
  ((X_isHead x1.2 a2).bind (fun x2 =>
  if x2.1 = 0 then
  (some ((-1 : Int32), x2.2))
else
  ((X_within x2.2 a3 (nI 0) (nI 1)).bind (fun x3 =>
  if x3.1 = 0 then
  (some ((-1 : Int32), x3.2))
else
  ((Pa_readShares x3.2 a2).bind (fun x4 =>
  if a3 = 0 then
  (am_g (am_in a1 8) (some ((Int64.toInt32 (x4.2 122 (a1.toNatClampNeg))), x4)))
else
  (am_g (am_in a1 8) (some ((Int64.toInt32 (x4.2 123 (a1.toNatClampNeg))), x4))))))))))
set_option maxRecDepth 20000 in
theorem ok_X_share {X : am_X} {a1 : Int32} {a2 : Int32} {a3 : Int32} {v : Int32} {τ τ' : am_T} (hF : am_F X "ShareHouse" cX11_share 4) (hR : am_R X 4 104) (hB : am_B X (some .int) (some (.int v)) (am_D τ')) (h : X_share τ a1 a2 a3 = some (v, τ')) : am_W X 4 (0, [(0, .ref 0), (1, .int a1), (2, .int a2), (3, .int a3)], [], am_D τ) := by
  unfold X_share at h
  refine am_seg s_X_share_0 (y := (8, [(0, .ref 0), (1, .int a1), (2, .int a2), (3, .int a3)], [.int a1, .ref 4], am_D τ)) hF t_s_X_share_0 rfl rfl ?_
  refine am_bd h (fun x1 hx h => ?_)
  refine am_callV (As := [.int a1]) (r := (some (.int x1.1))) (st := []) (σ' := am_D x1.2) (ci := 2) hF hR d_X11_share_8 (c_Fl_has (τ' := x1.2) hx) (Nat.le_refl _) (Nat.le_refl _) wl_X_68 wi_yX2_has we_yX2_has wn_ShareHouse_Flats wc_yX2_has (Nat.le_of_ble_eq_true rfl) (Nat.le_of_ble_eq_true rfl) rfl rfl wy_yX2_has rfl ⟨by decide, by decide⟩ (Nat.le_of_ble_eq_true rfl) ?_
  refine am_ite h (fun hc h => ?_) (fun hc h => ?_)
  · refine am_if_eq_t (t := 30) d_X11_share_11 (by decide) hc hF ?_
    refine am_seg s_X_share_1 (y := (31, [(0, .ref 0), (1, .int a1), (2, .int a2), (3, .int a3)], [.int (-1 : Int32)], am_D x1.2)) hF t_s_X_share_1 rfl rfl ?_
    obtain ⟨rfl, rfl⟩ := am_pair h
    exact am_iret d_X11_share_31 hF hB
  · refine am_if_eq_f (t := 30) d_X11_share_11 (by decide) hc hF ?_
    refine am_seg s_X_share_2 (y := (15, [(0, .ref 0), (1, .int a1), (2, .int a2), (3, .int a3)], [.int a2], am_D x1.2)) hF t_s_X_share_2 rfl rfl ?_
    refine am_bd h (fun x2 hx h => ?_)
    refine am_callS (As := [.int a2]) (r := (some (.int x2.1))) (st := []) (σ' := am_D x2.2) hF hR d_X11_share_15 (c_X_isHead (τ' := x2.2) hx) (Nat.le_refl _) (Nat.le_refl _) wl_X_112 ws_yX11_isHead wn_ShareHouse wc_yX11_isHead wy_yX11_isHead rfl ⟨by decide, by decide⟩ (Nat.le_of_ble_eq_true rfl) ?_
    refine am_ite h (fun hc h => ?_) (fun hc h => ?_)
    · refine am_if_eq_t (t := 30) d_X11_share_18 (by decide) hc hF ?_
      refine am_seg s_X_share_3 (y := (31, [(0, .ref 0), (1, .int a1), (2, .int a2), (3, .int a3)], [.int (-1 : Int32)], am_D x2.2)) hF t_s_X_share_3 rfl rfl ?_
      obtain ⟨rfl, rfl⟩ := am_pair h
      exact am_iret d_X11_share_31 hF hB
    · refine am_if_eq_f (t := 30) d_X11_share_18 (by decide) hc hF ?_
      refine am_seg s_X_share_4 (y := (24, [(0, .ref 0), (1, .int a1), (2, .int a2), (3, .int a3)], [.int (nI 1), .int (nI 0), .int a3], am_D x2.2)) hF t_s_X_share_4 rfl rfl ?_
      refine am_bd h (fun x3 hx h => ?_)
      refine am_callS (As := [.int a3, .int (nI 0), .int (nI 1)]) (r := (some (.int x3.1))) (st := []) (σ' := am_D x3.2) hF hR d_X11_share_24 (c_X_within (τ' := x3.2) hx) (Nat.le_refl _) (Nat.le_refl _) wl_X_47 ws_yX11_within wn_ShareHouse wc_yX11_within wy_yX11_within rfl ⟨by decide, by decide⟩ (Nat.le_of_ble_eq_true rfl) ?_
      refine am_ite h (fun hc h => ?_) (fun hc h => ?_)
      · refine am_if_ne_f (t := 32) d_X11_share_27 (by decide) hc hF ?_
        refine am_seg s_X_share_11 (y := (31, [(0, .ref 0), (1, .int a1), (2, .int a2), (3, .int a3)], [.int (-1 : Int32)], am_D x3.2)) hF t_s_X_share_11 rfl rfl ?_
        obtain ⟨rfl, rfl⟩ := am_pair h
        exact am_iret d_X11_share_31 hF hB
      · refine am_if_ne_t (t := 32) d_X11_share_27 (by decide) hc hF ?_
        refine am_seg s_X_share_5 (y := (44, [(0, .ref 0), (1, .int a1), (2, .int a2), (3, .int a3)], [.int a2, .ref 4, .ref 121], am_D x3.2)) hF t_s_X_share_5 rfl rfl ?_
        refine am_bd h (fun x4 hx h => ?_)
        refine am_callV (As := [.ref 4, .int a2]) (r := none) (st := []) (σ' := am_D x4) (ci := 6) hF hR d_X11_share_44 (c_Pa_readShares (τ' := x4) hx) (Nat.le_refl _) (Nat.le_refl _) wl_X_115 wi_yX6_readShares we_yX6_readShares wn_ShareHouse_Parting wc_yX6_readShares (Nat.le_of_ble_eq_true rfl) (Nat.le_of_ble_eq_true rfl) rfl rfl wy_yX6_readShares rfl ⟨by decide, by decide⟩ (Nat.le_of_ble_eq_true rfl) ?_
        refine am_seg s_X_share_6 (y := (48, [(0, .ref 0), (1, .int a1), (2, .int a2), (3, .int a3)], [.int a3], am_D x4)) hF t_s_X_share_6 rfl rfl ?_
        refine am_ite h (fun hc h => ?_) (fun hc h => ?_)
        · refine am_if_ne_f (t := 63) d_X11_share_48 (by decide) hc hF ?_
          refine am_seg s_X_share_9 (y := (59, [(0, .ref 0), (1, .int a1), (2, .int a2), (3, .int a3)], [.int a1, .ref 122], am_D x4)) hF t_s_X_share_9 rfl rfl ?_
          refine am_gd h (fun hi h => ?_)
          refine am_lald (n := 8) (j := (a1.toNatClampNeg)) d_X11_share_59 (Nat.le_of_ble_eq_true rfl) (Nat.le_of_ble_eq_true rfl) rfl hi rfl hF ?_
          refine am_seg s_X_share_10 (y := (73, [(0, .ref 0), (1, .int a1), (2, .int a2), (3, .int a3)], [.int (Int64.toInt32 (x4.2 122 (a1.toNatClampNeg)))], am_D x4)) hF t_s_X_share_10 rfl rfl ?_
          obtain ⟨rfl, rfl⟩ := am_pair h
          exact am_iret d_X11_share_73 hF hB
        · refine am_if_ne_t (t := 63) d_X11_share_48 (by decide) hc hF ?_
          refine am_seg s_X_share_7 (y := (71, [(0, .ref 0), (1, .int a1), (2, .int a2), (3, .int a3)], [.int a1, .ref 123], am_D x4)) hF t_s_X_share_7 rfl rfl ?_
          refine am_gd h (fun hi h => ?_)
          refine am_lald (n := 8) (j := (a1.toNatClampNeg)) d_X11_share_71 (Nat.le_of_ble_eq_true rfl) (Nat.le_of_ble_eq_true rfl) rfl hi rfl hF ?_
          refine am_seg s_X_share_8 (y := (73, [(0, .ref 0), (1, .int a1), (2, .int a2), (3, .int a3)], [.int (Int64.toInt32 (x4.2 123 (a1.toNatClampNeg)))], am_D x4)) hF t_s_X_share_8 rfl rfl ?_
          obtain ⟨rfl, rfl⟩ := am_pair h
          exact am_iret d_X11_share_73 hF hB
theorem c_X_share {a1 : Int32} {a2 : Int32} {a3 : Int32} {v : Int32} {τ τ' : am_T} (h : X_share τ a1 a2 a3 = some (v, τ')) : am_C yX11_share cX11_share 4 (some .int) 4 104 [.ref 0, .int a1, .int a2, .int a3] (am_D τ) (some (.int v)) (am_D τ') :=
  am_enter (by decide +kernel) (Nat.le_of_ble_eq_true rfl) ⟨Nat.le_refl _, Nat.le_refl _⟩ (fun X hF hR hB => ok_X_share hF hR hB h)
def s_X_sum_0 : List am_Q := [(0, .iload_n 1, 0, 0, 0, .null)]
theorem t_s_X_sum_0 : s_X_sum_0.all (am_ok 11 cX11_sum) = true := by decide +kernel
theorem d_X11_sum_1 : decode cX11_sum 1 = .ok (.invokestatic 112, 3) := by decide +kernel
theorem d_X11_sum_4 : decode cX11_sum 4 = .ok (.ifCond .eq 12, 3) := by decide +kernel
def s_X_sum_1 : List am_Q := [(16, .ldc2_w 126, 0, 0, 0, .long (-1000000000 : Int64))]
theorem t_s_X_sum_1 : s_X_sum_1.all (am_ok 11 cX11_sum) = true := by decide +kernel
theorem d_X11_sum_19 : decode cX11_sum 19 = .ok (.lreturn, 1) := by decide +kernel
def s_X_sum_2 : List am_Q := [(7, .iload_n 2, 0, 0, 0, .null), (8, .iconst 0, 0, 0, 0, .int (nI 0)), (9, .iconst 1, 0, 0, 0, .int (nI 1))]
theorem t_s_X_sum_2 : s_X_sum_2.all (am_ok 11 cX11_sum) = true := by decide +kernel
theorem d_X11_sum_10 : decode cX11_sum 10 = .ok (.invokestatic 47, 3) := by decide +kernel
theorem d_X11_sum_13 : decode cX11_sum 13 = .ok (.ifCond .ne 7, 3) := by decide +kernel
def s_X_sum_3 : List am_Q := [(20, .aload_n 0, 0, 0, 0, .null), (21, .getfield 36, 11, 5, 150, .null), (24, .aload_n 0, 0, 0, 0, .null), (25, .getfield 10, 11, 0, 145, .null), (28, .getfield 51, 3, 3, 95, .null), (31, .iload_n 1, 0, 0, 0, .null)]
theorem t_s_X_sum_3 : s_X_sum_3.all (am_ok 11 cX11_sum) = true := by decide +kernel
theorem d_X11_sum_32 : decode cX11_sum 32 = .ok (.invokevirtual 115, 3) := by decide +kernel
def s_X_sum_4 : List am_Q := [(35, .aload_n 0, 0, 0, 0, .null), (36, .getfield 36, 11, 5, 150, .null), (39, .getfield 128, 6, 6, 140, .null), (42, .aload_n 0, 0, 0, 0, .null), (43, .getfield 36, 11, 5, 150, .null), (46, .getfield 132, 6, 5, 138, .null)]
theorem t_s_X_sum_4 : s_X_sum_4.all (am_ok 11 cX11_sum) = true := by decide +kernel
theorem d_X11_sum_49 : decode cX11_sum 49 = .ok (.invokestatic 135, 3) := by decide +kernel
def s_X_sum_5 : List am_Q := [(52, .lstore_n 3, 0, 0, 0, .null), (53, .iload_n 2, 0, 0, 0, .null)]
theorem t_s_X_sum_5 : s_X_sum_5.all (am_ok 11 cX11_sum) = true := by decide +kernel
theorem d_X11_sum_54 : decode cX11_sum 54 = .ok (.ifCond .ne 13, 3) := by decide +kernel
def s_X_sum_6 : List am_Q := [(67, .aload_n 0, 0, 0, 0, .null), (68, .getfield 36, 11, 5, 150, .null), (71, .getfield 132, 6, 5, 138, .null), (74, .lconst 1, 0, 0, 0, .long (lN 1)), (75, .lload_n 3, 0, 0, 0, .null)]
theorem t_s_X_sum_6 : s_X_sum_6.all (am_ok 11 cX11_sum) = true := by decide +kernel
theorem d_X11_sum_76 : decode cX11_sum 76 = .ok (.invokestatic 139, 3) := by decide +kernel
theorem d_X11_sum_79 : decode cX11_sum 79 = .ok (.ldiv, 1) := by decide +kernel
theorem d_X11_sum_80 : decode cX11_sum 80 = .ok (.lreturn, 1) := by decide +kernel
def s_X_sum_7 : List am_Q := [(57, .aload_n 0, 0, 0, 0, .null), (58, .getfield 36, 11, 5, 150, .null), (61, .getfield 128, 6, 6, 140, .null), (64, .goto 10, 74, 0, 0, .null), (74, .lconst 1, 0, 0, 0, .long (lN 1)), (75, .lload_n 3, 0, 0, 0, .null)]
theorem t_s_X_sum_7 : s_X_sum_7.all (am_ok 11 cX11_sum) = true := by decide +kernel
def s_X_sum_8 : List am_Q := [(16, .ldc2_w 126, 0, 0, 0, .long (-1000000000 : Int64))]
theorem t_s_X_sum_8 : s_X_sum_8.all (am_ok 11 cX11_sum) = true := by decide +kernel
def X_sum (τ : am_T) (a1 : Int32) (a2 : Int32) : Option (Int64 × am_T) :=
  (X_isHead τ a1).bind (fun x1 =>
  if x1.1 = 0 then
  (some ((-1000000000 : Int64), x1.2))
else
  ((X_within x1.2 a2 (nI 0) (nI 1)).bind (fun x2 =>
  if x2.1 = 0 then
  (some ((-1000000000 : Int64), x2.2))
else
  ((Pa_readShares x2.2 a1).bind (fun x3 =>
  (X_divisorOf x3 (x3.2 121 6) (x3.2 121 5)).bind (fun x4 =>
  if a2 = 0 then
  (if (if x4.1 < (lN 1) then (lN 1) else x4.1) = 0 then none else
  some (((x4.2.2 121 6) / (if x4.1 < (lN 1) then (lN 1) else x4.1)), x4.2))
else
  (if (if x4.1 < (lN 1) then (lN 1) else x4.1) = 0 then none else
  some (((x4.2.2 121 5) / (if x4.1 < (lN 1) then (lN 1) else x4.1)), x4.2))))))))
set_option maxRecDepth 20000 in
theorem ok_X_sum {X : am_X} {a1 : Int32} {a2 : Int32} {v : Int64} {τ τ' : am_T} (hF : am_F X "ShareHouse" cX11_sum 5) (hR : am_R X 4 104) (hB : am_B X (some .long) (some (.long v)) (am_D τ')) (h : X_sum τ a1 a2 = some (v, τ')) : am_W X 5 (0, [(0, .ref 0), (1, .int a1), (2, .int a2)], [], am_D τ) := by
  unfold X_sum at h
  refine am_seg s_X_sum_0 (y := (1, [(0, .ref 0), (1, .int a1), (2, .int a2)], [.int a1], am_D τ)) hF t_s_X_sum_0 rfl rfl ?_
  refine am_bd h (fun x1 hx h => ?_)
  refine am_callS (As := [.int a1]) (r := (some (.int x1.1))) (st := []) (σ' := am_D x1.2) hF hR d_X11_sum_1 (c_X_isHead (τ' := x1.2) hx) (Nat.le_refl _) (Nat.le_refl _) wl_X_112 ws_yX11_isHead wn_ShareHouse wc_yX11_isHead wy_yX11_isHead rfl ⟨by decide, by decide⟩ (Nat.le_of_ble_eq_true rfl) ?_
  refine am_ite h (fun hc h => ?_) (fun hc h => ?_)
  · refine am_if_eq_t (t := 16) d_X11_sum_4 (by decide) hc hF ?_
    refine am_seg s_X_sum_1 (y := (19, [(0, .ref 0), (1, .int a1), (2, .int a2)], [.long (-1000000000 : Int64)], am_D x1.2)) hF t_s_X_sum_1 rfl rfl ?_
    obtain ⟨rfl, rfl⟩ := am_pair h
    exact am_lret d_X11_sum_19 hF hB
  · refine am_if_eq_f (t := 16) d_X11_sum_4 (by decide) hc hF ?_
    refine am_seg s_X_sum_2 (y := (10, [(0, .ref 0), (1, .int a1), (2, .int a2)], [.int (nI 1), .int (nI 0), .int a2], am_D x1.2)) hF t_s_X_sum_2 rfl rfl ?_
    refine am_bd h (fun x2 hx h => ?_)
    refine am_callS (As := [.int a2, .int (nI 0), .int (nI 1)]) (r := (some (.int x2.1))) (st := []) (σ' := am_D x2.2) hF hR d_X11_sum_10 (c_X_within (τ' := x2.2) hx) (Nat.le_refl _) (Nat.le_refl _) wl_X_47 ws_yX11_within wn_ShareHouse wc_yX11_within wy_yX11_within rfl ⟨by decide, by decide⟩ (Nat.le_of_ble_eq_true rfl) ?_
    refine am_ite h (fun hc h => ?_) (fun hc h => ?_)
    · refine am_if_ne_f (t := 20) d_X11_sum_13 (by decide) hc hF ?_
      refine am_seg s_X_sum_8 (y := (19, [(0, .ref 0), (1, .int a1), (2, .int a2)], [.long (-1000000000 : Int64)], am_D x2.2)) hF t_s_X_sum_8 rfl rfl ?_
      obtain ⟨rfl, rfl⟩ := am_pair h
      exact am_lret d_X11_sum_19 hF hB
    · refine am_if_ne_t (t := 20) d_X11_sum_13 (by decide) hc hF ?_
      refine am_seg s_X_sum_3 (y := (32, [(0, .ref 0), (1, .int a1), (2, .int a2)], [.int a1, .ref 4, .ref 121], am_D x2.2)) hF t_s_X_sum_3 rfl rfl ?_
      refine am_bd h (fun x3 hx h => ?_)
      refine am_callV (As := [.ref 4, .int a1]) (r := none) (st := []) (σ' := am_D x3) (ci := 6) hF hR d_X11_sum_32 (c_Pa_readShares (τ' := x3) hx) (Nat.le_refl _) (Nat.le_refl _) wl_X_115 wi_yX6_readShares we_yX6_readShares wn_ShareHouse_Parting wc_yX6_readShares (Nat.le_of_ble_eq_true rfl) (Nat.le_of_ble_eq_true rfl) rfl rfl wy_yX6_readShares rfl ⟨by decide, by decide⟩ (Nat.le_of_ble_eq_true rfl) ?_
      refine am_seg s_X_sum_4 (y := (49, [(0, .ref 0), (1, .int a1), (2, .int a2)], [.long (x3.2 121 5), .long (x3.2 121 6)], am_D x3)) hF t_s_X_sum_4 rfl rfl ?_
      refine am_bd h (fun x4 hx h => ?_)
      refine am_callS (As := [.long (x3.2 121 6), .long (x3.2 121 5)]) (r := (some (.long x4.1))) (st := []) (σ' := am_D x4.2) hF hR d_X11_sum_49 (c_X_divisorOf (τ' := x4.2) hx) (Nat.le_refl _) (Nat.le_refl _) wl_X_135 ws_yX11_divisorOf wn_ShareHouse wc_yX11_divisorOf wy_yX11_divisorOf rfl ⟨by decide, by decide⟩ (Nat.le_of_ble_eq_true rfl) ?_
      refine am_seg s_X_sum_5 (y := (54, [(3, .long x4.1), (0, .ref 0), (1, .int a1), (2, .int a2)], [.int a2], am_D x4.2)) hF t_s_X_sum_5 rfl rfl ?_
      refine am_ite h (fun hc h => ?_) (fun hc h => ?_)
      · refine am_if_ne_f (t := 67) d_X11_sum_54 (by decide) hc hF ?_
        refine am_seg s_X_sum_7 (y := (76, [(3, .long x4.1), (0, .ref 0), (1, .int a1), (2, .int a2)], [.long x4.1, .long (lN 1), .long (x4.2.2 121 6)], am_D x4.2)) hF t_s_X_sum_7 rfl rfl ?_
        refine am_mmaxL d_X11_sum_76 wq_maxL_11_139 wq_maxL_s wq_math wq_maxL_c ⟨by decide, Nat.le_of_ble_eq_true rfl⟩ (Nat.le_refl _) hF hR ?_
        refine am_ite h (fun _ h => by cases h) (fun hc h => ?_)
        refine am_ldiv d_X11_sum_79 hc hF ?_
        obtain ⟨rfl, rfl⟩ := am_pair h
        exact am_lret d_X11_sum_80 hF hB
      · refine am_if_ne_t (t := 67) d_X11_sum_54 (by decide) hc hF ?_
        refine am_seg s_X_sum_6 (y := (76, [(3, .long x4.1), (0, .ref 0), (1, .int a1), (2, .int a2)], [.long x4.1, .long (lN 1), .long (x4.2.2 121 5)], am_D x4.2)) hF t_s_X_sum_6 rfl rfl ?_
        refine am_mmaxL d_X11_sum_76 wq_maxL_11_139 wq_maxL_s wq_math wq_maxL_c ⟨by decide, Nat.le_of_ble_eq_true rfl⟩ (Nat.le_refl _) hF hR ?_
        refine am_ite h (fun _ h => by cases h) (fun hc h => ?_)
        refine am_ldiv d_X11_sum_79 hc hF ?_
        obtain ⟨rfl, rfl⟩ := am_pair h
        exact am_lret d_X11_sum_80 hF hB
theorem c_X_sum {a1 : Int32} {a2 : Int32} {v : Int64} {τ τ' : am_T} (h : X_sum τ a1 a2 = some (v, τ')) : am_C yX11_sum cX11_sum 5 (some .long) 4 104 [.ref 0, .int a1, .int a2] (am_D τ) (some (.long v)) (am_D τ') :=
  am_enter (by decide +kernel) (Nat.le_of_ble_eq_true rfl) ⟨Nat.le_refl _, Nat.le_refl _⟩ (fun X hF hR hB => ok_X_sum hF hR hB h)

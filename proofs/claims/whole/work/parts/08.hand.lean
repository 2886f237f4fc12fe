/-! methods written by hand: the copy of a row of ints; Strings -/
def X_copyI (τ : am_T) (a0 a1 : Nat) : Option am_T := am_g (am_isI a0) (am_g (am_isI a1) (am_g (Nat.beq (am_sh a0).2 (am_sh a1).2 && Nat.blt (am_sh a0).2 100000) (some (am_cp τ a0 a1 (am_sh a0).2))))
theorem d_X11_copy_0 : decode cX11_copy 0 = .ok (.aload_n 0, 1) := by decide +kernel
def s_X_copyI_0 : List am_Q := [(0, .aload_n 0, 0, 0, 0, .null), (1, .iconst 0, 0, 0, 0, .int 0), (2, .aload_n 1, 0, 0, 0, .null), (3, .iconst 0, 0, 0, 0, .int 0), (4, .aload_n 0, 0, 0, 0, .null)]
theorem t_s_X_copyI_0 : s_X_copyI_0.all (am_ok 11 cX11_copy) = true := by decide +kernel
def s_X_copyI_1 : List am_Q := [(6, .aload_n 1, 0, 0, 0, .null)]
theorem t_s_X_copyI_1 : s_X_copyI_1.all (am_ok 11 cX11_copy) = true := by decide +kernel
theorem ok_X_copyI {X : am_X} {a0 a1 : Nat} {τ τ' : am_T} (hF : am_F X "ShareHouse" cX11_copy 2) (hR : am_R X 1 40) (hB : am_B X none none (am_D τ')) (h : X_copyI τ a0 a1 = some τ') : am_W X 2 (0, [(0, .ref a0), (1, .ref a1)], [], am_D τ) := by
  unfold X_copyI at h
  refine am_gd h (fun g0 h => ?_)
  refine am_gd h (fun g1 h => ?_)
  refine am_gd h (fun g2 h => ?_)
  simp only [Bool.and_eq_true] at g2
  have e1 : (am_sh a0).2 = (am_sh a1).2 := Nat.eq_of_beq_eq_true g2.1
  have e2 := am_blt g2.2
  obtain ⟨z1, z2, z3⟩ := am_isI_of g0
  obtain ⟨w1, w2, w3⟩ := am_isI_of g1
  refine am_seg s_X_copyI_0 (y := (5, [(0, .ref a0), (1, .ref a1)], [.ref a0, .int 0, .ref a1, .int 0, .ref a0], am_D τ)) hF t_s_X_copyI_0 rfl rfl ?_
  refine am_alen (show decode cX11_copy 5 = .ok (.arraylength, 1) by decide +kernel) z1 z2 z3 (by decide) (by decide) hF ?_
  refine am_seg s_X_copyI_1 (y := (7, [(0, .ref a0), (1, .ref a1)], [.ref a1, .int (Int32.ofNat (am_sh a0).2), .int 0, .ref a1, .int 0, .ref a0], am_D τ)) hF t_s_X_copyI_1 rfl rfl ?_
  refine am_alen (show decode cX11_copy 7 = .ok (.arraylength, 1) by decide +kernel) w1 w2 w3 (by decide) (by decide) hF ?_
  refine am_mmin (show decode cX11_copy 8 = .ok (.invokestatic 351, 3) by decide +kernel) wq_min_11_351 wq_min_s wq_math wq_min_c ⟨by decide, Nat.le_of_ble_eq_true rfl⟩ (Nat.le_refl _) hF hR ?_
  rw [← e1]
  simp only [ite_self]
  have hn : (nI (am_sh a0).2).toNatClampNeg = (am_sh a0).2 := nI_clamp (by omega)
  have hp : ¬ nI (am_sh a0).2 < 0 := nI_pos (by omega)
  refine am_copy (show decode cX11_copy 11 = .ok (.invokestatic 354, 3) by decide +kernel) wq_ac_l wq_ac_s wq_sys wq_ac_n ⟨by decide, Nat.le_of_ble_eq_true rfl⟩ rfl z1 w1 z3 w3 hp hn (Nat.le_refl _) (Nat.le_of_eq e1) hF hR ?_
  cases h
  exact am_vret (show decode cX11_copy 14 = .ok (.return_, 1) by decide +kernel) hF hB
theorem c_X_copyI {a0 a1 : Nat} {τ τ' : am_T} (h : X_copyI τ a0 a1 = some τ') : am_C yX11_copy cX11_copy 2 none 1 40 [.ref a0, .ref a1] (am_D τ) none (am_D τ') :=
  am_enter (by decide +kernel) (Nat.le_of_ble_eq_true rfl) ⟨Nat.le_refl _, Nat.le_refl _⟩ (fun X hF hR hB => ok_X_copyI hF hR hB h)
/-! Strings: constants only -/
def S_len (k : Nat) : Nat := am_len.getD (k - 1000) 0
def S_isS (k : Nat) : Bool := Nat.ble 1000 k && Nat.blt k 1019
def S_length (τ : am_T) (k : Nat) : Option (Int32 × am_T) := am_g (S_isS k) (some (Int32.ofNat (S_len k), τ))
def S_charAt (τ : am_T) (k : Nat) (i : Int32) : Option (Int32 × am_T) := am_g (S_isS k) (am_g (am_in i (S_len k)) (some ((am_byt.getD (k - 1000) []).getD i.toNatClampNeg 0, τ)))
theorem S_rng {k : Nat} (h : S_isS k = true) : 1000 ≤ k ∧ k < 1019 := by
  simp only [S_isS, Bool.and_eq_true] at h
  exact ⟨Nat.le_of_ble_eq_true h.1, am_blt h.2⟩
theorem S_length_rng {τ : am_T} {k : Nat} {x : Int32 × am_T} (h : S_length τ k = some x) : 1000 ≤ k ∧ k < 1019 := am_gd h (fun g _ => S_rng g)
theorem S_charAt_rng {τ : am_T} {k : Nat} {i : Int32} {x : Int32 × am_T} (h : S_charAt τ k i = some x) : 1000 ≤ k ∧ k < 1019 := am_gd h (fun g _ => S_rng g)
theorem c_S_length {a0 : Nat} {v : Int32} {τ τ' : am_T} (h : S_length τ a0 = some (v, τ')) : am_C yJ0_length_8abf5 cJ0_length_8abf5 1 (some .int) 1 20 [.ref a0] (am_D τ) (some (.int v)) (am_D τ') := by
  sorry
theorem c_S_charAt {a0 : Nat} {a1 v : Int32} {τ τ' : am_T} (h : S_charAt τ a0 a1 = some (v, τ')) : am_C yJ0_charAt_5068e cJ0_charAt_5068e 2 (some .char) 3 64 [.ref a0, .int a1] (am_D τ) (some (.int v)) (am_D τ') := by
  sorry
section
variable {X : am_X} {own : String} {cc : ByteArray} {nL pc fr lc : Nat} {lv : List (Nat × Value)} {st : List Value} {σ σ' : am_S}
variable {idx n maxL fr' lc' : Nat} {y : MethodName} {bytes : ByteArray} {ret : Option FieldType} {As : List Value} {r : Option Value}
theorem am_callStr {b : Nat} (hF : am_F X own cc nL) (hR : am_R X fr lc) (hd : decode cc pc = .ok (.invokevirtual idx, 3)) (hC : am_C y bytes maxL ret fr' lc' (.ref b :: As) σ r σ') (hb : 1000 ≤ b ∧ b < 1019) (hle : σ.1 ≤ σ'.1) (hNN : σ'.1 ≤ am_NN) (hl : Cond.methodLink own idx y ∈ am_tb) (hst : Cond.instanceMethod y ∈ am_tb) (hsel : Cond.selects y.cls y y ∈ am_tb) (hini : Cond.initialized y.cls ∈ am_tb) (hcode : Cond.code y bytes maxL ret ∈ am_tb) (hy : am_yok y n = true) (hn : As.length = n) (hr : fr' + 1 ≤ fr ∧ 8 + (maxL + 11) + lc' ≤ lc) (hW : (st.map fun v => v.category).sum ≤ 8) (hcls : y.cls = "java/lang/String")
    (k : am_W X nL (pc + 3, lv, r.toList ++ st, σ')) : am_W X nL (pc, lv, As.reverse ++ .ref b :: st, σ) := by
  obtain ⟨p, l, e, R, s, m, args, below, meth, c, Q, g, n0⟩ := X
  intro H locs ls hn0 hI hS hl0
  have hts := hF.2.2.2.2.1
  obtain ⟨hR1, hR2, hR3, hR4⟩ := hR
  have hn0 : n0 ≤ σ.1 := hn0
  have m1 := am_su_mono hn0
  have m2 := am_su_mono hle
  have m3 := am_su_mono hNN
  have cw : CallW R s args own y.cls idx y bytes maxL ret (.code y bytes maxL ret :: am_tb) { frames := fr', cells := σ'.1 - σ.1, slots := am_su σ'.1 - am_su σ.1, locals := lc' } (σ'.1 - σ.1) (am_su σ'.1 - am_su σ.1) n :=
    ⟨callB_of n hts (am_good hcode) rfl rfl rfl (hts _ hini) (hts _ hl) (am_yok_of hy) ⟨Nat.le_trans hr.1 hR1, Nat.le_trans hr.2 hR2⟩, hts _ hst, hts _ hsel⟩
  have hrecv : ∃ cell : Cell, H[am_ad g b]? = some cell ∧ cell.vm.isStatics = false ∧ s.vm.findClass y.cls = some cell.cls := by
    obtain ⟨d, rfl⟩ := Nat.exists_eq_add_of_le hb.1
    have he : am_ad g (1000 + d) = g.2.2.2 (1000 + d) := if_neg (by omega)
    rw [he, hcls]
    exact vk_recv (i := d) hF.2.2.2.2.2.1.2.2.2.1 (by omega) hS
  have hrun := va_runV (C := y.cls) (b := am_ad g b) (g := F0 m pc ls ((As.reverse ++ .ref b :: st).map (am_rv g))) (rest := st.map (am_rv g)) (As := As.map (am_rv g)) (locs := locs) (cells := σ.1 - n0) (slots := am_su σ.1 - am_su n0) (below := below) (e := e) (meth := meth) ⟨hF.1, hF.2.1, hF.2.2.1, hF.2.2.2.1, hts⟩ (hC l g) cw ⟨am_blind, hrecv, fun U hU hW => ⟨rfl, by rw [hU]; exact hI, hF.2.2.2.2.2.1.step hW (fun q h1 h2 => by rw [hU]; exact hS.2.1 q h1 h2)⟩⟩ rfl (by rw [List.length_map]; exact hn) hl0.1 (by rw [List.map_append, List.map_reverse, List.map_cons]; rfl) (lv_room (by rw [am_cat]; exact hW)) hd ⟨by omega, by omega⟩
  refine am_run hrun hS hI hle fun H1 locs1 hI1 hS1 => ?_
  have hk := k H1 locs1 ls (Nat.le_trans hn0 hle) hI1 hS1 hl0
  rw [am_stk]
  have e1 : σ.1 - n0 + (σ'.1 - σ.1) = σ'.1 - n0 := by omega
  have e2 : am_su σ.1 - am_su n0 + (am_su σ'.1 - am_su σ.1) = am_su σ'.1 - am_su n0 := by omega
  rw [e1, e2]
  exact hk
end

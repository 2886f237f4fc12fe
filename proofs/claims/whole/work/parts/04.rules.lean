/-! fields, arrays, the soundness of the step function -/
theorem am_ad_lt {g : am_G} {k : Nat} (h : k < 1000) : am_ad g k = g.1 + k := if_pos h
theorem am_I_put {g : am_G} {σ σ' : am_S} {k : Nat} {H H1 : Heap} (hI : am_I g σ H) (h : k < σ.1) (hn : σ'.1 = σ.1) (ho : ∀ j, j ≠ k → am_el g σ' j = am_el g σ j) (hz : H1.size = H.size) (oq : ∀ q : Nat, q ≠ g.1 + k → H1[q]? = H[q]?) (he : va_at g.2.1 am_cl (g.1 + k, am_el g σ' k) H1) : am_I g σ' H1 :=
  am_I_set hI h hn ho rfl hz (hI.2.2.set am_ws_D (am_ws_at h) he oq)
theorem am_el_congr {g : am_G} {σ σ' : am_S} {k : Nat} (h1 : σ'.2.1.1 k = σ.2.1.1 k) (h2 : σ'.2.1.2 k = σ.2.1.2 k) (h3 : σ'.2.2 k = σ.2.2 k) : am_el g σ' k = am_el g σ k := by
  have hf : ∀ ci, am_fs g σ' k ci = am_fs g σ k ci := by
    intro ci
    unfold am_fs
    apply List.map_congr_left
    intro j _
    unfold am_fv
    rw [h1, h2, h3]
  unfold am_el
  obtain ⟨t, n⟩ := am_sh k
  unfold am_elS
  split <;> simp only [h1, h2, h3, hf]
theorem am_si_ne {τ : am_T} {k j a : Nat} {v : Int32} (h : a ≠ k) : (am_si τ k j v).1 a = τ.1 a := by
  funext b
  exact if_neg (fun q => h q.1)
theorem am_sl_ne {τ : am_T} {k j a : Nat} {v : Int64} (h : a ≠ k) : (am_sl τ k j v).2 a = τ.2 a := by
  funext b
  exact if_neg (fun q => h q.1)
theorem am_si_self {τ : am_T} {k j : Nat} {v : Int32} : (am_si τ k j v).1 k = upd (τ.1 k) j v := by
  funext b
  show (if k = k ∧ b = j then v else τ.1 k b) = (if b = j then v else τ.1 k b)
  simp
theorem am_sl_self {τ : am_T} {k j : Nat} {v : Int64} : (am_sl τ k j v).2 k = vp_updL (τ.2 k) j v := by
  funext b
  show (if k = k ∧ b = j then v else τ.2 k b) = (if b = j then v else τ.2 k b)
  simp
theorem am_av_fv {g : am_G} {σ : am_S} {k b : Nat} {t : FieldType} {v : Value} (h : am_av σ k b t = some v) : am_fv g σ k b t = am_rv g v := by
  unfold am_av at h
  unfold am_fv
  split at h
  · cases h; rfl
  · cases h; rfl
  · cases h; rfl
  · split
    · simp_all
    · simp_all
    · simp_all
    · cases hh : σ.2.2 k b with
      | none => rw [hh] at h; cases h
      | some q => rw [hh] at h; cases h; rfl
theorem am_lays_good {C : String} {T : u_T} {N : Nat} {w : Cond} (h : w ∈ u_ws C T N) : goodWord w = true := by
  obtain ⟨k, -, rfl⟩ := List.mem_map.mp h
  unfold u_lay
  split <;> rfl
theorem am_cls_tb {ci : Nat} {q : vw_C} (h : am_cl[ci]? = some q) : ∀ w ∈ u_ws q.1 q.2.1 q.2.2, w ∈ am_tb := fun w hw => by
  obtain ⟨i, hi⟩ := List.getElem?_of_mem ((am_cls ci q h).1 w hw)
  exact am_tbI hi (am_lays_good hw)
theorem am_fs_get {g : am_G} {σ : am_S} {k ci b : Nat} (h : b < am_nf ci) : (am_fs g σ k ci)[b]? = some (am_fv g σ k b (am_ty ci b)) := by
  simp [am_fs, h]
theorem am_fs_len {g : am_G} {σ : am_S} {k ci : Nat} : (am_fs g σ k ci).length = am_nf ci := by simp [am_fs]
theorem am_el_obj {g : am_G} {σ : am_S} {k ci : Nat} (h : am_sh k = (0, ci)) : am_el g σ k = .inr (ci, am_fs g σ k ci) := by unfold am_el; rw [h]; rfl
theorem am_el_i {g : am_G} {σ : am_S} {k n : Nat} (h : am_sh k = (1, n)) : am_el g σ k = .inl (g.2.2.1 1, n, .inl (σ.2.1.1 k)) := by unfold am_el; rw [h]; rfl
theorem am_el_z {g : am_G} {σ : am_S} {k n : Nat} (h : am_sh k = (2, n)) : am_el g σ k = .inl (g.2.2.1 2, n, .inl (σ.2.1.1 k)) := by unfold am_el; rw [h]; rfl
theorem am_el_l {g : am_G} {σ : am_S} {k n : Nat} (h : am_sh k = (3, n)) : am_el g σ k = .inl (g.2.2.1 3, n, .inr (.inl (σ.2.1.2 k))) := by unfold am_el; rw [h]; rfl
theorem am_el_q {g : am_G} {σ : am_S} {k n : Nat} (h : am_sh k = (4, n)) : am_el g σ k = .inl (g.2.2.1 4, n, .inr (.inr (.inr (.inr (fun j => (σ.2.2 k j).map (am_ad g)))))) := by unfold am_el; rw [h]; rfl
theorem am_el_r {g : am_G} {σ : am_S} {k n : Nat} (h : am_sh k = (5, n)) : am_el g σ k = .inl (g.2.2.1 5, n, .inr (.inr (.inr (.inr (fun j => (σ.2.2 k j).map (am_ad g)))))) := by unfold am_el; rw [h]; rfl
theorem am_fs_setI {g : am_G} {n : Nat} {τ : am_T} {rf : Nat → Nat → Option Nat} {k ci b : Nat} {x : Int32} (hb : b < am_nf ci) (hty : am_ty ci b = .int ∨ am_ty ci b = .boolean) : (am_fs g (n, τ, rf) k ci).set b (.int x) = am_fs g (n, am_si τ k b x, rf) k ci := by
  apply List.ext_getElem?
  intro j
  by_cases hj : j = b
  · subst hj
    rw [List.getElem?_set_self (by rw [am_fs_len]; exact hb), am_fs_get hb]
    rcases hty with h | h <;> (rw [h]; simp [am_fv, am_si])
  · rw [List.getElem?_set_ne (Ne.symm hj)]
    by_cases hl : j < am_nf ci
    · rw [am_fs_get hl, am_fs_get hl]
      congr 1
      unfold am_fv
      have : (am_si τ k b x).1 k j = τ.1 k j := if_neg (fun q => hj q.2)
      simp only [this]
      rfl
    · rw [List.getElem?_eq_none (by rw [am_fs_len]; omega), List.getElem?_eq_none (by rw [am_fs_len]; omega)]
theorem am_fs_setL {g : am_G} {n : Nat} {τ : am_T} {rf : Nat → Nat → Option Nat} {k ci b : Nat} {x : Int64} (hb : b < am_nf ci) (hty : am_ty ci b = .long) : (am_fs g (n, τ, rf) k ci).set b (.long x) = am_fs g (n, am_sl τ k b x, rf) k ci := by
  apply List.ext_getElem?
  intro j
  by_cases hj : j = b
  · subst hj
    rw [List.getElem?_set_self (by rw [am_fs_len]; exact hb), am_fs_get hb, hty]
    simp [am_fv, am_sl]
  · rw [List.getElem?_set_ne (Ne.symm hj)]
    by_cases hl : j < am_nf ci
    · rw [am_fs_get hl, am_fs_get hl]
      congr 1
      unfold am_fv
      have : (am_sl τ k b x).2 k j = τ.2 k j := if_neg (fun q => hj q.2)
      simp only [this]
      rfl
    · rw [List.getElem?_eq_none (by rw [am_fs_len]; omega), List.getElem?_eq_none (by rw [am_fs_len]; omega)]
def am_in (i : Int32) (n : Nat) : Bool := !(decide (i < 0) || decide (n ≤ i.toNatClampNeg))
theorem am_in_vp {i : Int32} {n : Nat} (h : am_in i n = true) : vp_in i n := by
  simpa [am_in, vp_in] using h
section
variable {X : am_X} {own : String} {cc : ByteArray} {nL pc : Nat} {lv : List (Nat × Value)} {st : List Value} {σ : am_S}
theorem am_get {i k ci b N : Nat} {C : String} {T : u_T} {v : Value} (hd : decode cc pc = .ok (.getfield i, 3)) (hk : k < σ.1) (hk2 : k < 1000) (hsh : am_sh k = (0, ci)) (hc : am_cl[ci]? = some (C, T, N)) (hb : b < am_nf ci) (hp : Cond.fieldLink own i (T b).1 (T b).2.1 (T b).2.2.1 ∈ am_tb) (hv : am_av σ k b (am_ty ci b) = some v) (hF : am_F X own cc nL) (kk : am_W X nL (pc + 3, lv, v :: st, σ)) : am_W X nL (pc, lv, .ref k :: st, σ) := by
  obtain ⟨p, l, e, R, s, m, args, below, meth, c, Q, g, n0⟩ := X
  intro H locs ls hn hI hS hl
  have hw := am_cls ci _ hc
  have hN : N = am_nf ci := hw.2.2.2
  show W p l e R s m args below meth c H locs _ _ Q (F0 m pc ls (.ref (am_ad g k) :: st.map (am_rv g)))
  rw [am_ad_lt hk2]
  exact va_get hF.1 hF.2.1 hF.2.2.2.2.1 (am_cls_tb hc) hF.2.2.2.1 hF.2.2.2.2.2.1.1 hI.2.2 k ((am_ws_at hk).trans (by rw [am_el_obj hsh])) hc b (by rw [hN]; exact hb) (hF.2.2.2.2.1 _ hp) (fun x hx => hx) ((am_fs_get hb).trans (congrArg some (am_av_fv hv))) hd (kk H locs ls hn hI hS hl)
theorem am_putX {i k ci b N : Nat} {C : String} {T : u_T} {w : Value} {σ' : am_S} (hd : decode cc pc = .ok (.putfield i, 3)) (hk : k < σ.1) (hk2 : k < 1000) (hsh : am_sh k = (0, ci)) (hc : am_cl[ci]? = some (C, T, N)) (hb : b < am_nf ci) (hp : Cond.fieldLink own i (T b).1 (T b).2.1 (T b).2.2.1 ∈ am_tb) (hfin : (T b).2.2.2 = false) (hnar : ∀ g, narrow (am_ty ci b) (am_rv g w) = am_rv g w) (hfit : ∀ g, fits (am_ty ci b) (am_rv g w) = true) (hn' : σ'.1 = σ.1) (ho : ∀ g j, j ≠ k → am_el g σ' j = am_el g σ j) (hset : ∀ g, (am_fs g σ k ci).set b (am_rv g w) = am_fs g σ' k ci) (hF : am_F X own cc nL) (kk : am_W X nL (pc + 3, lv, st, σ')) : am_W X nL (pc, lv, w :: .ref k :: st, σ) := by
  obtain ⟨p, l, e, R, s, m, args, below, meth, c, Q, g, n0⟩ := X
  intro H locs ls hn hI hS hl
  have hw := am_cls ci _ hc
  have hN : N = am_nf ci := hw.2.2.2
  have hbN : b < N := by rw [hN]; exact hb
  show W p l e R s m args below meth c H locs _ _ Q (F0 m pc ls (am_rv g w :: .ref (am_ad g k) :: st.map (am_rv g)))
  rw [am_ad_lt hk2]
  have hts := hF.2.2.2.2.1
  have hin := am_cls_tb hc
  have hK := hF.2.2.2.2.2.1.1
  have hap := va_apart (own := own) hts hin (am_ty ci) hw.2.1 hw.2.2.1 hK hc
  have he : (am_ws g σ)[k]? = some (g.1 + k, .inr (ci, am_fs g σ k ci)) := (am_ws_at hk).trans (by rw [am_el_obj hsh])
  obtain ⟨r, h1, cell, q1, q2, q3, q4⟩ := hI.2.2 k _ he
  have hr : r = (C, T, N) := Option.some.inj (h1.symm.trans hc)
  subst hr
  obtain ⟨hSl, hfc, kC, hkC, hkind⟩ := hK.1 ci _ hc
  obtain ⟨cf, kf, fi, f, hi, hsl⟩ := hSl b hbN
  have hlay := hts _ (hin _ (u_in_lay hbN))
  unfold u_lay at hlay
  rw [if_neg (by rw [hfin]; decide)] at hlay
  have hst := (u_facts hfc hkC (u_lays hts hin hbN) hi).1
  have h6 := u_store hfc hkC hkind hlay hi (hw.2.1 b hbN) (hnar g) (hfit g)
  refine W.putK hF.1 hF.2.1 (f := f) ⟨hF.2.2.2.1, hts _ hp, ⟨_, _, _, hi⟩, hst⟩ (by rw [q2]; exact h6) q1 q3 (by rw [hsl]; exact k2_hasslot (q4 b hbN)) rfl rfl hd fun H' e1 e2 e3 => ?_
  rw [hsl] at e1 ⊢
  have hI' : am_I g σ' H' := by
    refine am_I_put hI hk hn' (ho g) e2 e3 ?_
    rw [am_el_obj hsh, ← hset g]
    exact ⟨_, hc, t_OB.to (V := updV (vp_V (am_fs g σ k ci)) b (am_rv g w)) ⟨_, e1, q2, q3, t_set q4 hap hbN _⟩ (fun j _ => vp_updV_set (by rw [am_fs_len]; exact hb) _ j)⟩
  have := kk H' _ ls (by rw [hn']; exact hn) hI' (hS.put (k := g.2.1.2 ci b) e2 e3 (Nat.le_add_right _ _)) hl
  rw [show (pc + 3, lv, st, σ').2.2.2.1 = σ.1 from hn'] at this
  exact this
theorem am_putI {i k ci b N : Nat} {C : String} {T : u_T} {x : Int32} (hd : decode cc pc = .ok (.putfield i, 3)) (hk : k < σ.1) (hk2 : k < 1000) (hsh : am_sh k = (0, ci)) (hc : am_cl[ci]? = some (C, T, N)) (hb : b < am_nf ci) (hp : Cond.fieldLink own i (T b).1 (T b).2.1 (T b).2.2.1 ∈ am_tb) (hfin : (T b).2.2.2 = false) (hty : am_ty ci b = .int) (hF : am_F X own cc nL) (kk : am_W X nL (pc + 3, lv, st, (σ.1, am_si σ.2.1 k b x, σ.2.2))) : am_W X nL (pc, lv, .int x :: .ref k :: st, σ) :=
  am_putX (w := .int x) (σ' := (σ.1, am_si σ.2.1 k b x, σ.2.2)) hd hk hk2 hsh hc hb hp hfin (fun _ => by rw [hty]; rfl) (fun _ => by rw [hty]; rfl) rfl (fun _ _ h => am_el_congr (am_si_ne h) rfl rfl) (fun _ => am_fs_setI hb (Or.inl hty)) hF kk
theorem am_putZ {i k ci b N : Nat} {C : String} {T : u_T} {x : Int32} (hd : decode cc pc = .ok (.putfield i, 3)) (hk : k < σ.1) (hk2 : k < 1000) (hsh : am_sh k = (0, ci)) (hc : am_cl[ci]? = some (C, T, N)) (hb : b < am_nf ci) (hp : Cond.fieldLink own i (T b).1 (T b).2.1 (T b).2.2.1 ∈ am_tb) (hfin : (T b).2.2.2 = false) (hty : am_ty ci b = .boolean) (hx : x = 0 ∨ x = 1) (hF : am_F X own cc nL) (kk : am_W X nL (pc + 3, lv, st, (σ.1, am_si σ.2.1 k b x, σ.2.2))) : am_W X nL (pc, lv, .int x :: .ref k :: st, σ) :=
  am_putX (w := .int x) (σ' := (σ.1, am_si σ.2.1 k b x, σ.2.2)) hd hk hk2 hsh hc hb hp hfin (fun _ => by rw [hty]; rcases hx with rfl | rfl <;> rfl) (fun _ => by rw [hty]; rcases hx with rfl | rfl <;> rfl) rfl (fun _ _ h => am_el_congr (am_si_ne h) rfl rfl) (fun _ => am_fs_setI hb (Or.inr hty)) hF kk
theorem am_putL {i k ci b N : Nat} {C : String} {T : u_T} {x : Int64} (hd : decode cc pc = .ok (.putfield i, 3)) (hk : k < σ.1) (hk2 : k < 1000) (hsh : am_sh k = (0, ci)) (hc : am_cl[ci]? = some (C, T, N)) (hb : b < am_nf ci) (hp : Cond.fieldLink own i (T b).1 (T b).2.1 (T b).2.2.1 ∈ am_tb) (hfin : (T b).2.2.2 = false) (hty : am_ty ci b = .long) (hF : am_F X own cc nL) (kk : am_W X nL (pc + 3, lv, st, (σ.1, am_sl σ.2.1 k b x, σ.2.2))) : am_W X nL (pc, lv, .long x :: .ref k :: st, σ) :=
  am_putX (w := .long x) (σ' := (σ.1, am_sl σ.2.1 k b x, σ.2.2)) hd hk hk2 hsh hc hb hp hfin (fun _ => by rw [hty]; rfl) (fun _ => by rw [hty]; rfl) rfl (fun _ _ h => am_el_congr rfl (am_sl_ne h) rfl) (fun _ => am_fs_setL hb hty) hF kk
theorem am_alen {k t n : Nat} (hd : decode cc pc = .ok (.arraylength, 1)) (hk : k < σ.1) (hk2 : k < 1000) (hsh : am_sh k = (t, n)) (h1 : 0 < t) (h2 : t < 6) (hF : am_F X own cc nL) (kk : am_W X nL (pc + 1, lv, .int (Int32.ofNat n) :: st, σ)) : am_W X nL (pc, lv, .ref k :: st, σ) := by
  obtain ⟨p, l, e, R, s, m, args, below, meth, c, Q, g, n0⟩ := X
  intro H locs ls hn hI hS hl
  show W p l e R s m args below meth c H locs _ _ Q (F0 m pc ls (.ref (am_ad g k) :: st.map (am_rv g)))
  rw [am_ad_lt hk2]
  have hK := hF.2.2.2.2.2.1.1
  have kk := kk H locs ls hn hI hS hl
  rcases (show t = 1 ∨ t = 2 ∨ t = 3 ∨ t = 4 ∨ t = 5 by omega) with rfl | rfl | rfl | rfl | rfl
  · exact va_alen hF.1 hF.2.1 hK hI.2.2 k 0 ((am_ws_at (g := g) hk).trans (congrArg (fun e => some (g.1 + k, e)) (am_el_i hsh))) rfl rfl hd kk
  · exact va_alen hF.1 hF.2.1 hK hI.2.2 k 1 ((am_ws_at (g := g) hk).trans (congrArg (fun e => some (g.1 + k, e)) (am_el_z hsh))) rfl rfl hd kk
  · exact va_alen hF.1 hF.2.1 hK hI.2.2 k 2 ((am_ws_at (g := g) hk).trans (congrArg (fun e => some (g.1 + k, e)) (am_el_l hsh))) rfl rfl hd kk
  · exact va_alen hF.1 hF.2.1 hK hI.2.2 k 3 ((am_ws_at (g := g) hk).trans (congrArg (fun e => some (g.1 + k, e)) (am_el_q hsh))) rfl rfl hd kk
  · exact va_alen hF.1 hF.2.1 hK hI.2.2 k 4 ((am_ws_at (g := g) hk).trans (congrArg (fun e => some (g.1 + k, e)) (am_el_r hsh))) rfl rfl hd kk
theorem am_iald {k n j : Nat} {i : Int32} (hd : decode cc pc = .ok (.iaload, 1)) (hk : k < σ.1) (hk2 : k < 1000) (hsh : am_sh k = (1, n)) (hin : am_in i n = true) (hj : i.toNatClampNeg = j) (hF : am_F X own cc nL) (kk : am_W X nL (pc + 1, lv, .int (σ.2.1.1 k j) :: st, σ)) : am_W X nL (pc, lv, .int i :: .ref k :: st, σ) := by
  obtain ⟨p, l, e, R, s, m, args, below, meth, c, Q, g, n0⟩ := X
  intro H locs ls hn hI hS hl
  subst hj
  show W p l e R s m args below meth c H locs _ _ Q (F0 m pc ls (.int i :: .ref (am_ad g k) :: st.map (am_rv g)))
  rw [am_ad_lt hk2]
  exact va_iald hF.1 hF.2.1 hF.2.2.2.2.2.1.1 hI.2.2 k 0 ((am_ws_at hk).trans (by rw [am_el_i hsh])) rfl (am_in_vp hin) hd (kk H locs ls hn hI hS hl)
theorem am_zald {k n j : Nat} {i : Int32} (hd : decode cc pc = .ok (.baload, 1)) (hk : k < σ.1) (hk2 : k < 1000) (hsh : am_sh k = (2, n)) (hin : am_in i n = true) (hj : i.toNatClampNeg = j) (hF : am_F X own cc nL) (kk : am_W X nL (pc + 1, lv, .int (σ.2.1.1 k j) :: st, σ)) : am_W X nL (pc, lv, .int i :: .ref k :: st, σ) := by
  obtain ⟨p, l, e, R, s, m, args, below, meth, c, Q, g, n0⟩ := X
  intro H locs ls hn hI hS hl
  subst hj
  show W p l e R s m args below meth c H locs _ _ Q (F0 m pc ls (.int i :: .ref (am_ad g k) :: st.map (am_rv g)))
  rw [am_ad_lt hk2]
  exact va_zald hF.1 hF.2.1 hF.2.2.2.2.2.1.1 hI.2.2 k 1 ((am_ws_at hk).trans (by rw [am_el_z hsh])) rfl (am_in_vp hin) hd (kk H locs ls hn hI hS hl)
theorem am_lald {k n j : Nat} {i : Int32} (hd : decode cc pc = .ok (.laload, 1)) (hk : k < σ.1) (hk2 : k < 1000) (hsh : am_sh k = (3, n)) (hin : am_in i n = true) (hj : i.toNatClampNeg = j) (hF : am_F X own cc nL) (kk : am_W X nL (pc + 1, lv, .long (σ.2.1.2 k j) :: st, σ)) : am_W X nL (pc, lv, .int i :: .ref k :: st, σ) := by
  obtain ⟨p, l, e, R, s, m, args, below, meth, c, Q, g, n0⟩ := X
  intro H locs ls hn hI hS hl
  subst hj
  show W p l e R s m args below meth c H locs _ _ Q (F0 m pc ls (.int i :: .ref (am_ad g k) :: st.map (am_rv g)))
  rw [am_ad_lt hk2]
  exact va_lald hF.1 hF.2.1 hF.2.2.2.2.2.1.1 hI.2.2 k 2 ((am_ws_at hk).trans (by rw [am_el_l hsh])) rfl (am_in_vp hin) hd (kk H locs ls hn hI hS hl)
theorem am_iast {k n j : Nat} {i : Int32} {x : Int32} (hd : decode cc pc = .ok (.iastore, 1)) (hk : k < σ.1) (hk2 : k < 1000) (hsh : am_sh k = (1, n)) (hin : am_in i n = true) (hj : i.toNatClampNeg = j) (hF : am_F X own cc nL) (kk : am_W X nL (pc + 1, lv, st, (σ.1, am_si σ.2.1 k j x, σ.2.2))) : am_W X nL (pc, lv, .int x :: .int i :: .ref k :: st, σ) := by
  obtain ⟨p, l, e, R, s, m, args, below, meth, c, Q, g, n0⟩ := X
  intro H locs ls hn hI hS hl
  subst hj
  show W p l e R s m args below meth c H locs _ _ Q (F0 m pc ls (.int x :: .int i :: .ref (am_ad g k) :: st.map (am_rv g)))
  rw [am_ad_lt hk2]
  have he : (am_ws g σ)[k]? = _ := (am_ws_at hk).trans (by rw [am_el_i hsh])
  have hv := am_in_vp hin
  refine W.iast hF.1 hF.2.1 (hI.2.2 k _ he) ((hF.2.2.2.2.2.1.1.2 0 _ rfl).1 n (fun j => .int (σ.2.1.1 k j))) (fun q => by cases q) (by show ¬ (i < 0 ∨ (arrV _ _ _).slots.size ≤ _); rw [arrV_size]; exact hv) rfl rfl hd fun H1 e1 z oq => ?_
  refine kk H1 _ ls hn (am_I_put hI hk rfl (fun j h => am_el_congr (am_si_ne h) rfl rfl) z oq ?_) (hS.put z oq (Nat.le_add_right _ _)) hl
  rw [am_el_i hsh]
  show H1[g.1 + k]? = some (vp_cell _ _)
  rw [e1]
  show some ((vp_cell _ _).setSlot _ _) = _
  rw [vp_cell_i, vp_cell_i, arrV_store]
  congr 2
  funext q
  show _ = Value.int (((am_si σ.2.1 k i.toNatClampNeg x).1) k q)
  rw [am_si_self]
  by_cases hq : q = i.toNatClampNeg
  · subst hq
    simp [updV, upd]
  · simp [updV, upd, hq]
theorem am_zast {k n j : Nat} {i : Int32} {x : Int32} (hd : decode cc pc = .ok (.bastore, 1)) (hk : k < σ.1) (hk2 : k < 1000) (hsh : am_sh k = (2, n)) (hin : am_in i n = true) (hj : i.toNatClampNeg = j) (hx : x = 0 ∨ x = 1) (hF : am_F X own cc nL) (kk : am_W X nL (pc + 1, lv, st, (σ.1, am_si σ.2.1 k j x, σ.2.2))) : am_W X nL (pc, lv, .int x :: .int i :: .ref k :: st, σ) := by
  obtain ⟨p, l, e, R, s, m, args, below, meth, c, Q, g, n0⟩ := X
  intro H locs ls hn hI hS hl
  subst hj
  show W p l e R s m args below meth c H locs _ _ Q (F0 m pc ls (.int x :: .int i :: .ref (am_ad g k) :: st.map (am_rv g)))
  rw [am_ad_lt hk2]
  have he : (am_ws g σ)[k]? = _ := (am_ws_at hk).trans (by rw [am_el_z hsh])
  have hv := am_in_vp hin
  refine W.zast hF.1 hF.2.1 (hI.2.2 k _ he) ((hF.2.2.2.2.2.1.1.2 1 _ rfl).1 n (fun j => .int (σ.2.1.1 k j))) (fun q => by cases q) (by show ¬ (i < 0 ∨ (arrV _ _ _).slots.size ≤ _); rw [arrV_size]; exact hv) rfl rfl hd fun H1 e1 z oq => ?_
  refine kk H1 _ ls hn (am_I_put hI hk rfl (fun j h => am_el_congr (am_si_ne h) rfl rfl) z oq ?_) (hS.put z oq (Nat.le_add_right _ _)) hl
  rw [am_el_z hsh]
  show H1[g.1 + k]? = some (vp_cell _ _)
  rw [e1]
  rw [show narrow .boolean (.int x) = .int x by rcases hx with rfl | rfl <;> rfl]
  show some ((vp_cell _ _).setSlot _ _) = _
  rw [vp_cell_i, vp_cell_i, arrV_store]
  congr 2
  funext q
  show _ = Value.int (((am_si σ.2.1 k i.toNatClampNeg x).1) k q)
  rw [am_si_self]
  by_cases hq : q = i.toNatClampNeg
  · subst hq
    simp [updV, upd]
  · simp [updV, upd, hq]
theorem am_last {k n j : Nat} {i : Int32} {x : Int64} (hd : decode cc pc = .ok (.lastore, 1)) (hk : k < σ.1) (hk2 : k < 1000) (hsh : am_sh k = (3, n)) (hin : am_in i n = true) (hj : i.toNatClampNeg = j) (hF : am_F X own cc nL) (kk : am_W X nL (pc + 1, lv, st, (σ.1, am_sl σ.2.1 k j x, σ.2.2))) : am_W X nL (pc, lv, .long x :: .int i :: .ref k :: st, σ) := by
  obtain ⟨p, l, e, R, s, m, args, below, meth, c, Q, g, n0⟩ := X
  intro H locs ls hn hI hS hl
  subst hj
  show W p l e R s m args below meth c H locs _ _ Q (F0 m pc ls (.long x :: .int i :: .ref (am_ad g k) :: st.map (am_rv g)))
  rw [am_ad_lt hk2]
  have he : (am_ws g σ)[k]? = _ := (am_ws_at hk).trans (by rw [am_el_l hsh])
  have hv := am_in_vp hin
  refine W.last hF.1 hF.2.1 (hI.2.2 k _ he) ((hF.2.2.2.2.2.1.1.2 2 _ rfl).1 n (fun j => .long (σ.2.1.2 k j))) (fun q => by cases q) (by show ¬ (i < 0 ∨ (arrV _ _ _).slots.size ≤ _); rw [arrV_size]; exact hv) rfl rfl hd fun H1 e1 z oq => ?_
  refine kk H1 _ ls hn (am_I_put hI hk rfl (fun j h => am_el_congr rfl (am_sl_ne h) rfl) z oq ?_) (hS.put z oq (Nat.le_add_right _ _)) hl
  rw [am_el_l hsh]
  show H1[g.1 + k]? = some (vp_cell _ _)
  rw [e1]
  show some ((vp_cell _ _).setSlot _ _) = _
  rw [vp_cell_l, vp_cell_l, arrV_store]
  congr 2
  funext q
  show _ = Value.long (((am_sl σ.2.1 k i.toNatClampNeg x).2) k q)
  rw [am_sl_self]
  by_cases hq : q = i.toNatClampNeg
  · subst hq
    simp [updV, vp_updL]
  · simp [updV, vp_updL, hq]
theorem am_idiv {x y : Int32} (hd : decode cc pc = .ok (.idiv, 1)) (hne : ¬ y = 0) (hF : am_F X own cc nL) (k : am_W X nL (pc + 1, lv, .int (x / y) :: st, σ)) : am_W X nL (pc, lv, .int y :: .int x :: st, σ) := by
  obtain ⟨p, l, e, R, s, m, args, below, meth, c, Q, g, n0⟩ := X
  intro H locs ls hn hI hS hl
  exact lv_idiv hF.1 hF.2.1 hd hne (k H locs ls hn hI hS hl)
theorem am_irem {x y : Int32} (hd : decode cc pc = .ok (.irem, 1)) (hne : ¬ y = 0) (hF : am_F X own cc nL) (k : am_W X nL (pc + 1, lv, .int (x - x / y * y) :: st, σ)) : am_W X nL (pc, lv, .int y :: .int x :: st, σ) := by
  obtain ⟨p, l, e, R, s, m, args, below, meth, c, Q, g, n0⟩ := X
  intro H locs ls hn hI hS hl
  exact lv_irem hF.1 hF.2.1 hd hne (k H locs ls hn hI hS hl)
theorem am_ldiv {x y : Int64} (hd : decode cc pc = .ok (.ldiv, 1)) (hne : ¬ y = 0) (hF : am_F X own cc nL) (k : am_W X nL (pc + 1, lv, .long (x / y) :: st, σ)) : am_W X nL (pc, lv, .long y :: .long x :: st, σ) := by
  obtain ⟨p, l, e, R, s, m, args, below, meth, c, Q, g, n0⟩ := X
  intro H locs ls hn hI hS hl
  exact lv_ldiv hF.1 hF.2.1 hd hne (k H locs ls hn hI hS hl)
theorem am_lrem {x y : Int64} (hd : decode cc pc = .ok (.lrem, 1)) (hne : ¬ y = 0) (hF : am_F X own cc nL) (k : am_W X nL (pc + 1, lv, .long (x - x / y * y) :: st, σ)) : am_W X nL (pc, lv, .long y :: .long x :: st, σ) := by
  obtain ⟨p, l, e, R, s, m, args, below, meth, c, Q, g, n0⟩ := X
  intro H locs ls hn hI hS hl
  exact lv_lrem hF.1 hF.2.1 hd hne (k H locs ls hn hI hS hl)
theorem am_if_eq_t {x : Int32} {o : Int} {t : Nat} (hd : decode cc pc = .ok (.ifCond .eq o, 3)) (ht : (pc : Int) + o = (t : Int)) (hc : x = 0) (hF : am_F X own cc nL) (k : am_W X nL (t, lv, st, σ)) : am_W X nL (pc, lv, .int x :: st, σ) := by
  obtain ⟨p, l, e, R, s, m, args, below, meth, c, Q, g, n0⟩ := X
  intro H locs ls hn hI hS hl
  exact lv_if_eq hF.1 hF.2.1 hd ht (fun _ => k H locs ls hn hI hS hl) (fun h => absurd h (by simpa using hc))
theorem am_if_eq_f {x : Int32} {o : Int} (hd : decode cc pc = .ok (.ifCond .eq o, 3)) {t : Nat} (ht : (pc : Int) + o = (t : Int)) (hc : ¬ x = 0) (hF : am_F X own cc nL) (k : am_W X nL (pc + 3, lv, st, σ)) : am_W X nL (pc, lv, .int x :: st, σ) := by
  obtain ⟨p, l, e, R, s, m, args, below, meth, c, Q, g, n0⟩ := X
  intro H locs ls hn hI hS hl
  exact lv_if_eq hF.1 hF.2.1 hd ht (fun h => absurd h (by simpa using hc)) (fun _ => k H locs ls hn hI hS hl)
theorem am_if_ne_t {x : Int32} {o : Int} {t : Nat} (hd : decode cc pc = .ok (.ifCond .ne o, 3)) (ht : (pc : Int) + o = (t : Int)) (hc : ¬ x = 0) (hF : am_F X own cc nL) (k : am_W X nL (t, lv, st, σ)) : am_W X nL (pc, lv, .int x :: st, σ) := by
  obtain ⟨p, l, e, R, s, m, args, below, meth, c, Q, g, n0⟩ := X
  intro H locs ls hn hI hS hl
  exact lv_if_ne hF.1 hF.2.1 hd ht (fun _ => k H locs ls hn hI hS hl) (fun h => absurd h (by simpa using hc))
theorem am_if_ne_f {x : Int32} {o : Int} (hd : decode cc pc = .ok (.ifCond .ne o, 3)) {t : Nat} (ht : (pc : Int) + o = (t : Int)) (hc : x = 0) (hF : am_F X own cc nL) (k : am_W X nL (pc + 3, lv, st, σ)) : am_W X nL (pc, lv, .int x :: st, σ) := by
  obtain ⟨p, l, e, R, s, m, args, below, meth, c, Q, g, n0⟩ := X
  intro H locs ls hn hI hS hl
  exact lv_if_ne hF.1 hF.2.1 hd ht (fun h => absurd h (by simpa using hc)) (fun _ => k H locs ls hn hI hS hl)
theorem am_if_lt_t {x : Int32} {o : Int} {t : Nat} (hd : decode cc pc = .ok (.ifCond .lt o, 3)) (ht : (pc : Int) + o = (t : Int)) (hc : x < 0) (hF : am_F X own cc nL) (k : am_W X nL (t, lv, st, σ)) : am_W X nL (pc, lv, .int x :: st, σ) := by
  obtain ⟨p, l, e, R, s, m, args, below, meth, c, Q, g, n0⟩ := X
  intro H locs ls hn hI hS hl
  exact lv_if_lt hF.1 hF.2.1 hd ht (fun _ => k H locs ls hn hI hS hl) (fun h => absurd h (by simpa using hc))
theorem am_if_lt_f {x : Int32} {o : Int} (hd : decode cc pc = .ok (.ifCond .lt o, 3)) {t : Nat} (ht : (pc : Int) + o = (t : Int)) (hc : ¬ x < 0) (hF : am_F X own cc nL) (k : am_W X nL (pc + 3, lv, st, σ)) : am_W X nL (pc, lv, .int x :: st, σ) := by
  obtain ⟨p, l, e, R, s, m, args, below, meth, c, Q, g, n0⟩ := X
  intro H locs ls hn hI hS hl
  exact lv_if_lt hF.1 hF.2.1 hd ht (fun h => absurd h (by simpa using hc)) (fun _ => k H locs ls hn hI hS hl)
theorem am_if_ge_t {x : Int32} {o : Int} {t : Nat} (hd : decode cc pc = .ok (.ifCond .ge o, 3)) (ht : (pc : Int) + o = (t : Int)) (hc : 0 ≤ x) (hF : am_F X own cc nL) (k : am_W X nL (t, lv, st, σ)) : am_W X nL (pc, lv, .int x :: st, σ) := by
  obtain ⟨p, l, e, R, s, m, args, below, meth, c, Q, g, n0⟩ := X
  intro H locs ls hn hI hS hl
  exact lv_if_ge hF.1 hF.2.1 hd ht (fun _ => k H locs ls hn hI hS hl) (fun h => absurd h (by simpa using hc))
theorem am_if_ge_f {x : Int32} {o : Int} (hd : decode cc pc = .ok (.ifCond .ge o, 3)) {t : Nat} (ht : (pc : Int) + o = (t : Int)) (hc : ¬ 0 ≤ x) (hF : am_F X own cc nL) (k : am_W X nL (pc + 3, lv, st, σ)) : am_W X nL (pc, lv, .int x :: st, σ) := by
  obtain ⟨p, l, e, R, s, m, args, below, meth, c, Q, g, n0⟩ := X
  intro H locs ls hn hI hS hl
  exact lv_if_ge hF.1 hF.2.1 hd ht (fun h => absurd h (by simpa using hc)) (fun _ => k H locs ls hn hI hS hl)
theorem am_if_gt_t {x : Int32} {o : Int} {t : Nat} (hd : decode cc pc = .ok (.ifCond .gt o, 3)) (ht : (pc : Int) + o = (t : Int)) (hc : 0 < x) (hF : am_F X own cc nL) (k : am_W X nL (t, lv, st, σ)) : am_W X nL (pc, lv, .int x :: st, σ) := by
  obtain ⟨p, l, e, R, s, m, args, below, meth, c, Q, g, n0⟩ := X
  intro H locs ls hn hI hS hl
  exact lv_if_gt hF.1 hF.2.1 hd ht (fun _ => k H locs ls hn hI hS hl) (fun h => absurd h (by simpa using hc))
theorem am_if_gt_f {x : Int32} {o : Int} (hd : decode cc pc = .ok (.ifCond .gt o, 3)) {t : Nat} (ht : (pc : Int) + o = (t : Int)) (hc : ¬ 0 < x) (hF : am_F X own cc nL) (k : am_W X nL (pc + 3, lv, st, σ)) : am_W X nL (pc, lv, .int x :: st, σ) := by
  obtain ⟨p, l, e, R, s, m, args, below, meth, c, Q, g, n0⟩ := X
  intro H locs ls hn hI hS hl
  exact lv_if_gt hF.1 hF.2.1 hd ht (fun h => absurd h (by simpa using hc)) (fun _ => k H locs ls hn hI hS hl)
theorem am_if_le_t {x : Int32} {o : Int} {t : Nat} (hd : decode cc pc = .ok (.ifCond .le o, 3)) (ht : (pc : Int) + o = (t : Int)) (hc : x ≤ 0) (hF : am_F X own cc nL) (k : am_W X nL (t, lv, st, σ)) : am_W X nL (pc, lv, .int x :: st, σ) := by
  obtain ⟨p, l, e, R, s, m, args, below, meth, c, Q, g, n0⟩ := X
  intro H locs ls hn hI hS hl
  exact lv_if_le hF.1 hF.2.1 hd ht (fun _ => k H locs ls hn hI hS hl) (fun h => absurd h (by simpa using hc))
theorem am_if_le_f {x : Int32} {o : Int} (hd : decode cc pc = .ok (.ifCond .le o, 3)) {t : Nat} (ht : (pc : Int) + o = (t : Int)) (hc : ¬ x ≤ 0) (hF : am_F X own cc nL) (k : am_W X nL (pc + 3, lv, st, σ)) : am_W X nL (pc, lv, .int x :: st, σ) := by
  obtain ⟨p, l, e, R, s, m, args, below, meth, c, Q, g, n0⟩ := X
  intro H locs ls hn hI hS hl
  exact lv_if_le hF.1 hF.2.1 hd ht (fun h => absurd h (by simpa using hc)) (fun _ => k H locs ls hn hI hS hl)
theorem am_icmp_eq_t {x y : Int32} {o : Int} {t : Nat} (hd : decode cc pc = .ok (.if_icmp .eq o, 3)) (ht : (pc : Int) + o = (t : Int)) (hc : x = y) (hF : am_F X own cc nL) (k : am_W X nL (t, lv, st, σ)) : am_W X nL (pc, lv, .int y :: .int x :: st, σ) := by
  obtain ⟨p, l, e, R, s, m, args, below, meth, c, Q, g, n0⟩ := X
  intro H locs ls hn hI hS hl
  exact lv_icmp_eq hF.1 hF.2.1 hd ht (fun _ => k H locs ls hn hI hS hl) (fun h => absurd h (by simpa using hc))
theorem am_icmp_eq_f {x y : Int32} {o : Int} (hd : decode cc pc = .ok (.if_icmp .eq o, 3)) {t : Nat} (ht : (pc : Int) + o = (t : Int)) (hc : ¬ x = y) (hF : am_F X own cc nL) (k : am_W X nL (pc + 3, lv, st, σ)) : am_W X nL (pc, lv, .int y :: .int x :: st, σ) := by
  obtain ⟨p, l, e, R, s, m, args, below, meth, c, Q, g, n0⟩ := X
  intro H locs ls hn hI hS hl
  exact lv_icmp_eq hF.1 hF.2.1 hd ht (fun h => absurd h (by simpa using hc)) (fun _ => k H locs ls hn hI hS hl)
theorem am_icmp_ne_t {x y : Int32} {o : Int} {t : Nat} (hd : decode cc pc = .ok (.if_icmp .ne o, 3)) (ht : (pc : Int) + o = (t : Int)) (hc : ¬ x = y) (hF : am_F X own cc nL) (k : am_W X nL (t, lv, st, σ)) : am_W X nL (pc, lv, .int y :: .int x :: st, σ) := by
  obtain ⟨p, l, e, R, s, m, args, below, meth, c, Q, g, n0⟩ := X
  intro H locs ls hn hI hS hl
  exact lv_icmp_ne hF.1 hF.2.1 hd ht (fun _ => k H locs ls hn hI hS hl) (fun h => absurd h (by simpa using hc))
theorem am_icmp_ne_f {x y : Int32} {o : Int} (hd : decode cc pc = .ok (.if_icmp .ne o, 3)) {t : Nat} (ht : (pc : Int) + o = (t : Int)) (hc : x = y) (hF : am_F X own cc nL) (k : am_W X nL (pc + 3, lv, st, σ)) : am_W X nL (pc, lv, .int y :: .int x :: st, σ) := by
  obtain ⟨p, l, e, R, s, m, args, below, meth, c, Q, g, n0⟩ := X
  intro H locs ls hn hI hS hl
  exact lv_icmp_ne hF.1 hF.2.1 hd ht (fun h => absurd h (by simpa using hc)) (fun _ => k H locs ls hn hI hS hl)
theorem am_icmp_lt_t {x y : Int32} {o : Int} {t : Nat} (hd : decode cc pc = .ok (.if_icmp .lt o, 3)) (ht : (pc : Int) + o = (t : Int)) (hc : x < y) (hF : am_F X own cc nL) (k : am_W X nL (t, lv, st, σ)) : am_W X nL (pc, lv, .int y :: .int x :: st, σ) := by
  obtain ⟨p, l, e, R, s, m, args, below, meth, c, Q, g, n0⟩ := X
  intro H locs ls hn hI hS hl
  exact lv_icmp_lt hF.1 hF.2.1 hd ht (fun _ => k H locs ls hn hI hS hl) (fun h => absurd h (by simpa using hc))
theorem am_icmp_lt_f {x y : Int32} {o : Int} (hd : decode cc pc = .ok (.if_icmp .lt o, 3)) {t : Nat} (ht : (pc : Int) + o = (t : Int)) (hc : ¬ x < y) (hF : am_F X own cc nL) (k : am_W X nL (pc + 3, lv, st, σ)) : am_W X nL (pc, lv, .int y :: .int x :: st, σ) := by
  obtain ⟨p, l, e, R, s, m, args, below, meth, c, Q, g, n0⟩ := X
  intro H locs ls hn hI hS hl
  exact lv_icmp_lt hF.1 hF.2.1 hd ht (fun h => absurd h (by simpa using hc)) (fun _ => k H locs ls hn hI hS hl)
theorem am_icmp_ge_t {x y : Int32} {o : Int} {t : Nat} (hd : decode cc pc = .ok (.if_icmp .ge o, 3)) (ht : (pc : Int) + o = (t : Int)) (hc : y ≤ x) (hF : am_F X own cc nL) (k : am_W X nL (t, lv, st, σ)) : am_W X nL (pc, lv, .int y :: .int x :: st, σ) := by
  obtain ⟨p, l, e, R, s, m, args, below, meth, c, Q, g, n0⟩ := X
  intro H locs ls hn hI hS hl
  exact lv_icmp_ge hF.1 hF.2.1 hd ht (fun _ => k H locs ls hn hI hS hl) (fun h => absurd h (by simpa using hc))
theorem am_icmp_ge_f {x y : Int32} {o : Int} (hd : decode cc pc = .ok (.if_icmp .ge o, 3)) {t : Nat} (ht : (pc : Int) + o = (t : Int)) (hc : ¬ y ≤ x) (hF : am_F X own cc nL) (k : am_W X nL (pc + 3, lv, st, σ)) : am_W X nL (pc, lv, .int y :: .int x :: st, σ) := by
  obtain ⟨p, l, e, R, s, m, args, below, meth, c, Q, g, n0⟩ := X
  intro H locs ls hn hI hS hl
  exact lv_icmp_ge hF.1 hF.2.1 hd ht (fun h => absurd h (by simpa using hc)) (fun _ => k H locs ls hn hI hS hl)
theorem am_icmp_gt_t {x y : Int32} {o : Int} {t : Nat} (hd : decode cc pc = .ok (.if_icmp .gt o, 3)) (ht : (pc : Int) + o = (t : Int)) (hc : y < x) (hF : am_F X own cc nL) (k : am_W X nL (t, lv, st, σ)) : am_W X nL (pc, lv, .int y :: .int x :: st, σ) := by
  obtain ⟨p, l, e, R, s, m, args, below, meth, c, Q, g, n0⟩ := X
  intro H locs ls hn hI hS hl
  exact lv_icmp_gt hF.1 hF.2.1 hd ht (fun _ => k H locs ls hn hI hS hl) (fun h => absurd h (by simpa using hc))
theorem am_icmp_gt_f {x y : Int32} {o : Int} (hd : decode cc pc = .ok (.if_icmp .gt o, 3)) {t : Nat} (ht : (pc : Int) + o = (t : Int)) (hc : ¬ y < x) (hF : am_F X own cc nL) (k : am_W X nL (pc + 3, lv, st, σ)) : am_W X nL (pc, lv, .int y :: .int x :: st, σ) := by
  obtain ⟨p, l, e, R, s, m, args, below, meth, c, Q, g, n0⟩ := X
  intro H locs ls hn hI hS hl
  exact lv_icmp_gt hF.1 hF.2.1 hd ht (fun h => absurd h (by simpa using hc)) (fun _ => k H locs ls hn hI hS hl)
theorem am_icmp_le_t {x y : Int32} {o : Int} {t : Nat} (hd : decode cc pc = .ok (.if_icmp .le o, 3)) (ht : (pc : Int) + o = (t : Int)) (hc : x ≤ y) (hF : am_F X own cc nL) (k : am_W X nL (t, lv, st, σ)) : am_W X nL (pc, lv, .int y :: .int x :: st, σ) := by
  obtain ⟨p, l, e, R, s, m, args, below, meth, c, Q, g, n0⟩ := X
  intro H locs ls hn hI hS hl
  exact lv_icmp_le hF.1 hF.2.1 hd ht (fun _ => k H locs ls hn hI hS hl) (fun h => absurd h (by simpa using hc))
theorem am_icmp_le_f {x y : Int32} {o : Int} (hd : decode cc pc = .ok (.if_icmp .le o, 3)) {t : Nat} (ht : (pc : Int) + o = (t : Int)) (hc : ¬ x ≤ y) (hF : am_F X own cc nL) (k : am_W X nL (pc + 3, lv, st, σ)) : am_W X nL (pc, lv, .int y :: .int x :: st, σ) := by
  obtain ⟨p, l, e, R, s, m, args, below, meth, c, Q, g, n0⟩ := X
  intro H locs ls hn hI hS hl
  exact lv_icmp_le hF.1 hF.2.1 hd ht (fun h => absurd h (by simpa using hc)) (fun _ => k H locs ls hn hI hS hl)
end

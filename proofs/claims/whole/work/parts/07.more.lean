/-! fewer locals, switches, rows of references, Math, copies, static rows -/
section
variable {X : am_X} {own : String} {cc : ByteArray} {nL pc fr lc : Nat} {lv lv' : List (Nat × Value)} {st : List Value} {σ : am_S}
theorem am_pick (ks : List Nat) (h : ks.filterMap (fun k => lv[k]?) = lv') (k : am_W X nL (pc, lv', st, σ)) : am_W X nL (pc, lv, st, σ) := by
  obtain ⟨p, l, e, R, s, m, args, below, meth, c, Q, g, n0⟩ := X
  intro H locs ls hn hI hS hl
  refine k H locs ls hn hI hS (lv_sub hl ks ?_)
  subst h
  show ks.filterMap (fun k => (am_ml g lv)[k]?) = am_ml g (ks.filterMap (fun k => lv[k]?))
  unfold am_ml
  rw [List.map_filterMap]
  congr 1
  funext k
  simp
theorem am_tswOut {d lo hi : Int} {offs : Array Int} {len : Nat} {x : Int32} {t : Nat} (hd : decode cc pc = .ok (.tableswitch d lo hi offs, len)) (h : x.toInt < lo ∨ hi < x.toInt) (ht : (pc : Int) + d = (t : Int)) (hF : am_F X own cc nL) (k : am_W X nL (t, lv, st, σ)) : am_W X nL (pc, lv, .int x :: st, σ) := by
  obtain ⟨p, l, e, R, s, m, args, below, meth, c, Q, g, n0⟩ := X
  intro H locs ls hn hI hS hl
  exact lv_tableOut hF.1 hF.2.1 hd h ht (k H locs ls hn hI hS hl)
theorem am_tswIn {d lo hi o : Int} {offs : Array Int} {len : Nat} {x y : Int32} {t : Nat} (hd : decode cc pc = .ok (.tableswitch d lo hi offs, len)) (hx : x = y) (h1 : ¬ y.toInt < lo) (h2 : ¬ hi < y.toInt) (ho : offs[(y.toInt - lo).toNat]? = some o) (ht : (pc : Int) + o = (t : Int)) (hF : am_F X own cc nL) (k : am_W X nL (t, lv, st, σ)) : am_W X nL (pc, lv, .int x :: st, σ) := by
  obtain ⟨p, l, e, R, s, m, args, below, meth, c, Q, g, n0⟩ := X
  intro H locs ls hn hI hS hl
  subst hx
  exact lv_tableIn hF.1 hF.2.1 hd h1 h2 ho ht (k H locs ls hn hI hS hl)
theorem am_lsw {d o : Int} {ps : Array (Int × Int)} {len : Nat} {x : Int32} {t : Nat} (hd : decode cc pc = .ok (.lookupswitch d ps, len)) (hp : (ps.toList.zip (ps.toList.drop 1)).all (fun (a, next) => a.1 < next.1) = true) (ho : Op.lookupswitch.offset ps.toList d x.toInt = o) (ht : (pc : Int) + o = (t : Int)) (hF : am_F X own cc nL) (k : am_W X nL (t, lv, st, σ)) : am_W X nL (pc, lv, .int x :: st, σ) := by
  obtain ⟨p, l, e, R, s, m, args, below, meth, c, Q, g, n0⟩ := X
  intro H locs ls hn hI hS hl
  exact lv_lookup hF.1 hF.2.1 hd hp ho ht (k H locs ls hn hI hS hl)
theorem am_aald {k n j q : Nat} {i : Int32} (hd : decode cc pc = .ok (.aaload, 1)) (hk : k < σ.1) (hk2 : k < 1000) (hsh : am_sh k = (4, n)) (hin : am_in i n = true) (hj : i.toNatClampNeg = j) (hq : σ.2.2 k j = some q) (hF : am_F X own cc nL) (kk : am_W X nL (pc + 1, lv, .ref q :: st, σ)) : am_W X nL (pc, lv, .int i :: .ref k :: st, σ) := by
  obtain ⟨p, l, e, R, s, m, args, below, meth, c, Q, g, n0⟩ := X
  intro H locs ls hn hI hS hl
  subst hj
  show W p l e R s m args below meth c H locs _ _ Q (F0 m pc ls (.int i :: .ref (am_ad g k) :: st.map (am_rv g)))
  rw [am_ad_lt hk2]
  refine va_aldq hF.1 hF.2.1 hF.2.2.2.2.2.1.1 hI.2.2 k 3 ((am_ws_at hk).trans (congrArg (fun e => some (g.1 + k, e)) (am_el_q hsh))) rfl (am_in_vp hin) hd ?_
  rw [hq]
  exact kk H locs ls hn hI hS hl
theorem am_rald {k n j q : Nat} {i : Int32} (hd : decode cc pc = .ok (.aaload, 1)) (hk : k < σ.1) (hk2 : k < 1000) (hsh : am_sh k = (5, n)) (hin : am_in i n = true) (hj : i.toNatClampNeg = j) (hq : σ.2.2 k j = some q) (hF : am_F X own cc nL) (kk : am_W X nL (pc + 1, lv, .ref q :: st, σ)) : am_W X nL (pc, lv, .int i :: .ref k :: st, σ) := by
  obtain ⟨p, l, e, R, s, m, args, below, meth, c, Q, g, n0⟩ := X
  intro H locs ls hn hI hS hl
  subst hj
  show W p l e R s m args below meth c H locs _ _ Q (F0 m pc ls (.int i :: .ref (am_ad g k) :: st.map (am_rv g)))
  rw [am_ad_lt hk2]
  have hv := am_in_vp hin
  have hlt : i.toNatClampNeg < n := Nat.not_le.mp fun q => hv (Or.inr q)
  have he : (am_ws g σ)[k]? = _ := (am_ws_at hk).trans (congrArg (fun e => some (g.1 + k, e)) (am_el_r hsh))
  refine W.aald (v := .ref (am_ad g q)) (ty := .array .int) hF.1 hF.2.1 (hI.2.2 k _ he) ((hF.2.2.2.2.2.1.1.2 4 _ rfl).1 n (fun j => va_rf ((σ.2.2 k j).map (am_ad g)))) rfl (fun q => by cases q) (by show ¬ (i < 0 ∨ (arrV _ _ _).slots.size ≤ _); rw [arrV_size]; exact hv) ?_ rfl rfl hd (kk H locs ls hn hI hS hl)
  show (arrV _ _ _).slots[_]? = _
  rw [arrV_read _ _ hlt]
  show some (va_rf ((σ.2.2 k i.toNatClampNeg).map (am_ad g))) = _
  rw [hq]
  rfl
theorem am_mmax {idx : Nat} {x y : Int32} (hd : decode cc pc = .ok (.invokestatic idx, 3)) (h1 : Cond.methodLink own idx Lib.Math.max.name ∈ am_tb) (h2 : Cond.static Lib.Math.max.name ∈ am_tb) (h3 : Cond.initialized "java/lang/Math" ∈ am_tb) (h4 : Cond.code Lib.Math.max.name Lib.Math.max.code 2 (some .int) ∈ am_tb) (hr : 1 ≤ fr ∧ (st.map fun v => v.category).sum + 13 ≤ lc) (hNN : σ.1 ≤ am_NN) (hF : am_F X own cc nL) (hR : am_R X fr lc) (k : am_W X nL (pc + 3, lv, .int (if x < y then y else x) :: st, σ)) : am_W X nL (pc, lv, .int y :: .int x :: st, σ) := by
  obtain ⟨p, l, e, R, s, m, args, below, meth, c, Q, g, n0⟩ := X
  intro H locs ls hn hI hS hl
  have hts := hF.2.2.2.2.1
  obtain ⟨hR1, hR2, hR3, hR4⟩ := hR
  have hn : n0 ≤ σ.1 := hn
  have m3 := am_su_mono hNN
  exact va_mmax hF.1 hF.2.1 (hF.2.2.1.trans hl.1.symm) hF.2.2.2.1 (hts _ h1) (hts _ h2) (hts _ h3) (hts _ h4) (Nat.le_trans hr.1 hR1) (by rw [am_cat]; exact Nat.le_trans hr.2 hR2) (by show σ.1 - n0 ≤ _; omega) (by show am_su σ.1 - am_su n0 ≤ _; omega) hd (k H locs ls hn hI hS hl)
theorem am_mmin {idx : Nat} {x y : Int32} (hd : decode cc pc = .ok (.invokestatic idx, 3)) (h1 : Cond.methodLink own idx Lib.Math.min.name ∈ am_tb) (h2 : Cond.static Lib.Math.min.name ∈ am_tb) (h3 : Cond.initialized "java/lang/Math" ∈ am_tb) (h4 : Cond.code Lib.Math.min.name Lib.Math.min.code 2 (some .int) ∈ am_tb) (hr : 1 ≤ fr ∧ (st.map fun v => v.category).sum + 13 ≤ lc) (hNN : σ.1 ≤ am_NN) (hF : am_F X own cc nL) (hR : am_R X fr lc) (k : am_W X nL (pc + 3, lv, .int (if y < x then y else x) :: st, σ)) : am_W X nL (pc, lv, .int y :: .int x :: st, σ) := by
  obtain ⟨p, l, e, R, s, m, args, below, meth, c, Q, g, n0⟩ := X
  intro H locs ls hn hI hS hl
  have hts := hF.2.2.2.2.1
  obtain ⟨hR1, hR2, hR3, hR4⟩ := hR
  have hn : n0 ≤ σ.1 := hn
  have m3 := am_su_mono hNN
  exact va_mmin hF.1 hF.2.1 (hF.2.2.1.trans hl.1.symm) hF.2.2.2.1 (hts _ h1) (hts _ h2) (hts _ h3) (hts _ h4) (Nat.le_trans hr.1 hR1) (by rw [am_cat]; exact Nat.le_trans hr.2 hR2) (by show σ.1 - n0 ≤ _; omega) (by show am_su σ.1 - am_su n0 ≤ _; omega) hd (k H locs ls hn hI hS hl)
theorem am_mmaxL {idx : Nat} {x y : Int64} (hd : decode cc pc = .ok (.invokestatic idx, 3)) (h1 : Cond.methodLink own idx Lib.MathLoose.max_long.x ∈ am_tb) (h2 : Cond.static Lib.MathLoose.max_long.x ∈ am_tb) (h3 : Cond.initialized "java/lang/Math" ∈ am_tb) (h4 : Cond.code Lib.MathLoose.max_long.x Lib.MathLoose.max_long.code 4 (some .long) ∈ am_tb) (hr : 1 ≤ fr ∧ (st.map fun v => v.category).sum + 15 ≤ lc) (hNN : σ.1 ≤ am_NN) (hF : am_F X own cc nL) (hR : am_R X fr lc) (k : am_W X nL (pc + 3, lv, .long (if y < x then x else y) :: st, σ)) : am_W X nL (pc, lv, .long y :: .long x :: st, σ) := by
  obtain ⟨p, l, e, R, s, m, args, below, meth, c, Q, g, n0⟩ := X
  intro H locs ls hn hI hS hl
  have hts := hF.2.2.2.2.1
  obtain ⟨hR1, hR2, hR3, hR4⟩ := hR
  have hn : n0 ≤ σ.1 := hn
  have m3 := am_su_mono hNN
  exact va_mmax_long hF.1 hF.2.1 (hF.2.2.1.trans hl.1.symm) hF.2.2.2.1 (hts _ h1) (hts _ h2) (hts _ h3) (hts _ h4) (Nat.le_trans hr.1 hR1) (by rw [am_cat]; exact Nat.le_trans hr.2 hR2) (by show σ.1 - n0 ≤ _; omega) (by show am_su σ.1 - am_su n0 ≤ _; omega) hd (k H locs ls hn hI hS hl)
/-- a row of ints is copied, from its start, n places -/
def am_cp (τ : am_T) (a b n : Nat) : am_T := (fun x y => if x = b ∧ y < n then τ.1 a y else τ.1 x y, τ.2)
theorem am_copy {idx a b na nb j : Nat} {n : Int32} (hd : decode cc pc = .ok (.invokestatic idx, 3)) (h1 : Cond.methodLink own idx arraycopyName ∈ am_tb) (h2 : Cond.static arraycopyName ∈ am_tb) (h3 : Cond.initialized "java/lang/System" ∈ am_tb) (h4 : Cond.native arraycopyName ∈ am_tb) (hr : 1 ≤ fr ∧ (st.map fun v => v.category).sum + (nativeFrameWords "java/lang/System" "arraycopy" 5 + 11) ≤ lc) (hNN : σ.1 = am_NN) (ha : a < am_NN) (hb : b < am_NN) (hsa : am_sh a = (1, na)) (hsb : am_sh b = (1, nb)) (hn0 : ¬ n < 0) (hj : n.toNatClampNeg = j) (hja : j ≤ na) (hjb : j ≤ nb) (hF : am_F X own cc nL) (hR : am_R X fr lc) (k : am_W X nL (pc + 3, lv, st, (σ.1, am_cp σ.2.1 a b j, σ.2.2))) : am_W X nL (pc, lv, .int n :: .int 0 :: .ref b :: .int 0 :: .ref a :: st, σ) := by
  obtain ⟨p, l, e, R, s, m, args, below, meth, c, Q, g, n0⟩ := X
  intro H locs ls hn hI hS hl
  subst hj
  have hts := hF.2.2.2.2.1
  obtain ⟨hR1, hR2, hR3, hR4⟩ := hR
  have ha1 : a < 1000 := Nat.lt_of_lt_of_le ha (by decide)
  have hb1 : b < 1000 := Nat.lt_of_lt_of_le hb (by decide)
  have haσ : a < σ.1 := by rw [hNN]; exact ha
  have hbσ : b < σ.1 := by rw [hNN]; exact hb
  show W p l e R s m args below meth c H locs _ _ Q (F0 m pc ls (.int n :: .int 0 :: .ref (am_ad g b) :: .int 0 :: .ref (am_ad g a) :: st.map (am_rv g)))
  rw [am_ad_lt ha1, am_ad_lt hb1]
  refine va_copyi (sp := 0) (dp := 0) hF.1 hF.2.1 (hF.2.2.1.trans hl.1.symm) hF.2.2.2.1 (hts _ h1) (hts _ h4) (hts _ h2) (hts _ h3) hF.2.2.2.2.2.1.1 hI.2.2 am_ws_D hS a b 0 0 ((am_ws_at haσ).trans (congrArg (fun e => some (g.1 + a, e)) (am_el_i hsa))) ((am_ws_at hbσ).trans (congrArg (fun e => some (g.1 + b, e)) (am_el_i hsb))) rfl rfl rfl (by decide) (by decide) hn0 (by show 0 + _ ≤ _; omega) (by show 0 + _ ≤ _; omega) (fun _ _ => rfl) (Nat.le_trans hr.1 hR1) (by rw [am_cat]; exact Nat.le_trans hr.2 hR2) hd fun H1 locs1 hP1 hD1 hS1 => ?_
  have hel : (Sum.inl (g.2.2.1 1, nb, .inl (va_cpy (σ.2.1.1 a) (σ.2.1.1 b) (0 : Int32).toNatClampNeg (0 : Int32).toNatClampNeg n.toNatClampNeg)) : va_E) = am_el g (σ.1, am_cp σ.2.1 a b n.toNatClampNeg, σ.2.2) b := by
    rw [am_el_i hsb]
    congr 4
    funext q
    show va_cpy _ _ 0 0 _ q = if b = b ∧ q < n.toNatClampNeg then _ else _
    unfold va_cpy
    by_cases hq : q < n.toNatClampNeg <;> simp [hq]
  have hws : (am_ws g σ).set b (g.1 + b, am_el g (σ.1, am_cp σ.2.1 a b n.toNatClampNeg, σ.2.2) b) = am_ws g (σ.1, am_cp σ.2.1 a b n.toNatClampNeg, σ.2.2) := am_ws_set hbσ rfl (fun j hj => am_el_congr (by
    funext y
    show (if j = b ∧ y < _ then _ else _) = _
    rw [if_neg (fun q => hj q.1)]) rfl rfl)
  rw [hel, hws] at hP1
  have hz : g.1 + σ.1 ≤ H1.size := by
    have h0 : 0 < σ.1 := by rw [hNN]; decide
    have hlast := (hP1 (σ.1 - 1) _ (am_ws_at (σ := (σ.1, am_cp σ.2.1 a b n.toNatClampNeg, σ.2.2)) (show σ.1 - 1 < σ.1 by omega))).lt
    have hlast : g.1 + (σ.1 - 1) < H1.size := hlast
    omega
  exact k H1 locs1 ls hn ⟨⟨hI.1.1, hz⟩, fun h => absurd (show σ.1 < am_NN from h) (by rw [hNN]; exact Nat.lt_irrefl _), hP1⟩ hS1 hl
theorem am_gets {idx a : Nat} {nm : String} (hd : decode cc pc = .ok (.getstatic idx, 3)) (hp : Cond.fieldLink own idx "ShareHouse" nm "[I" ∈ am_tb) (hnm : nm = "RULES_MOST" ∧ a = 1101) (hF : am_F X own cc nL) (k : am_W X nL (pc + 3, lv, .ref a :: st, σ)) : am_W X nL (pc, lv, st, σ) := by
  obtain ⟨p, l, e, R, s, m, args, below, meth, c, Q, g, n0⟩ := X
  intro H locs ls hn hI hS hl
  obtain ⟨rfl, rfl⟩ := hnm
  have hk := k H locs ls hn hI hS hl
  have he : am_ad g 1101 = g.2.2.2 1101 := if_neg (by decide)
  refine va_gets hF.1 hF.2.1 hF.2.2.2.2.2.1.2.2.2.2.2.2.1 hS hF.2.2.2.1 (hF.2.2.2.2.1 _ hp) (fun x hx => hx) hd ?_
  simpa only [List.map_cons, am_rv, he] using hk
theorem am_tald {j : Nat} {i : Int32} (hd : decode cc pc = .ok (.iaload, 1)) (hin : am_in i 6 = true) (hj : i.toNatClampNeg = j) (hF : am_F X own cc nL) (k : am_W X nL (pc + 1, lv, .int (am_RM.getD j 0) :: st, σ)) : am_W X nL (pc, lv, .int i :: .ref 1101 :: st, σ) := by
  obtain ⟨p, l, e, R, s, m, args, below, meth, c, Q, g, n0⟩ := X
  intro H locs ls hn hI hS hl
  subst hj
  have hk := k H locs ls hn hI hS hl
  have he : am_ad g 1101 = g.2.2.2 1101 := if_neg (by decide)
  show W p l e R s m args below meth c H locs _ _ Q (F0 m pc ls (.int i :: .ref (am_ad g 1101) :: st.map (am_rv g)))
  rw [he]
  exact va_ti hF.1 hF.2.1 hF.2.2.2.2.2.1.2.2.2.2.2.2.2 hS (am_in_vp hin) rfl hd hk
theorem am_tlen (hd : decode cc pc = .ok (.arraylength, 1)) (hF : am_F X own cc nL) (k : am_W X nL (pc + 1, lv, .int 6 :: st, σ)) : am_W X nL (pc, lv, .ref 1101 :: st, σ) := by
  obtain ⟨p, l, e, R, s, m, args, below, meth, c, Q, g, n0⟩ := X
  intro H locs ls hn hI hS hl
  have hk := k H locs ls hn hI hS hl
  have he : am_ad g 1101 = g.2.2.2 1101 := if_neg (by decide)
  show W p l e R s m args below meth c H locs _ _ Q (F0 m pc ls (.ref (am_ad g 1101) :: st.map (am_rv g)))
  rw [he]
  exact va_tlen hF.1 hF.2.1 hF.2.2.2.2.2.1.2.2.2.2.2.2.2 hS rfl hd hk
end
/-! the shapes of the printed functions -/
def am_g {α : Type} (b : Bool) (x : Option α) : Option α := bif b then x else none
theorem am_gd {α : Type} {b : Bool} {x : Option α} {y : α} {G : Prop} (h : am_g b x = some y) (k : b = true → x = some y → G) : G := k (am_bif h).1 (am_bif h).2
theorem am_ite {α : Type} {c : Prop} [Decidable c] {A B : Option α} {y : α} {G : Prop} (h : (if c then A else B) = some y) (k1 : c → A = some y → G) (k2 : ¬ c → B = some y → G) : G := by
  by_cases hc : c
  · rw [if_pos hc] at h; exact k1 hc h
  · rw [if_neg hc] at h; exact k2 hc h
theorem am_bd {α β : Type} {x : Option α} {f : α → Option β} {y : β} {G : Prop} (h : x.bind f = some y) (k : ∀ a, x = some a → f a = some y → G) : G := by
  cases x with
  | none => cases h
  | some a => exact k a rfl h
def am_isI (k : Nat) : Bool := Nat.blt k am_NN && Nat.beq (am_sh k).1 1
def am_isZ (k : Nat) : Bool := Nat.blt k am_NN && Nat.beq (am_sh k).1 2
def am_isO (k ci : Nat) : Bool := Nat.blt k am_NN && Nat.beq (am_sh k).1 0 && Nat.beq (am_sh k).2 ci
theorem am_isI_of {k : Nat} (h : am_isI k = true) : k < am_NN ∧ k < 1000 ∧ am_sh k = (1, (am_sh k).2) := by
  simp only [am_isI, Bool.and_eq_true] at h
  exact ⟨am_blt h.1, Nat.lt_of_lt_of_le (am_blt h.1) (by decide), Prod.ext (Nat.eq_of_beq_eq_true h.2) rfl⟩
theorem am_isZ_of {k : Nat} (h : am_isZ k = true) : k < am_NN ∧ k < 1000 ∧ am_sh k = (2, (am_sh k).2) := by
  simp only [am_isZ, Bool.and_eq_true] at h
  exact ⟨am_blt h.1, Nat.lt_of_lt_of_le (am_blt h.1) (by decide), Prod.ext (Nat.eq_of_beq_eq_true h.2) rfl⟩
theorem am_isO_of {k ci : Nat} (h : am_isO k ci = true) : k < am_NN ∧ k < 1000 ∧ am_sh k = (0, ci) := by
  simp only [am_isO, Bool.and_eq_true] at h
  exact ⟨am_blt h.1.1, Nat.lt_of_lt_of_le (am_blt h.1.1) (by decide), Prod.ext (Nat.eq_of_beq_eq_true h.1.2) (Nat.eq_of_beq_eq_true h.2)⟩
def am_z01 (x : Int32) : Bool := decide (x = 0) || decide (x = 1)
theorem am_z01_of {x : Int32} (h : am_z01 x = true) : x = 0 ∨ x = 1 := by simpa [am_z01] using h
theorem am_z01_n {x : Int32} (h : am_z01 x = true) : narrow .boolean (.int x) = .int x := by rcases am_z01_of h with rfl | rfl <;> rfl
theorem am_pair {α β : Type} {a v : α} {b t : β} (h : some (a, b) = some (v, t)) : a = v ∧ b = t := by cases h; exact ⟨rfl, rfl⟩
theorem am_one {α : Type} {a v : α} (h : some a = some v) : a = v := Option.some.inj h
abbrev am_D (τ : am_T) : am_S := (am_NN, τ, am_RF)
set_option maxRecDepth 100000 in
theorem wq_max_s : Cond.static Lib.Math.max.name ∈ am_tb := am_tb3 (i := 112) rfl rfl
set_option maxRecDepth 100000 in
theorem wq_max_c : Cond.code Lib.Math.max.name Lib.Math.max.code 2 (some .int) ∈ am_tb := am_tb3 (i := 113) rfl rfl
set_option maxRecDepth 100000 in
theorem wq_max_9_119 : Cond.methodLink "ShareHouse$Tape" 119 Lib.Math.max.name ∈ am_tb := am_tb3 (i := 111) rfl rfl
set_option maxRecDepth 100000 in
theorem wq_max_10_61 : Cond.methodLink "ShareHouse$Works" 61 Lib.Math.max.name ∈ am_tb := am_tb4 (i := 171) rfl rfl
set_option maxRecDepth 100000 in
theorem wq_max_8_56 : Cond.methodLink "ShareHouse$Reserve" 56 Lib.Math.max.name ∈ am_tb := am_tb4 (i := 239) rfl rfl
set_option maxRecDepth 100000 in
theorem wq_min_s : Cond.static Lib.Math.min.name ∈ am_tb := am_tb3 (i := 139) rfl rfl
set_option maxRecDepth 100000 in
theorem wq_min_c : Cond.code Lib.Math.min.name Lib.Math.min.code 2 (some .int) ∈ am_tb := am_tb3 (i := 140) rfl rfl
set_option maxRecDepth 100000 in
theorem wq_min_11_351 : Cond.methodLink "ShareHouse" 351 Lib.Math.min.name ∈ am_tb := am_tb3 (i := 138) rfl rfl
set_option maxRecDepth 100000 in
theorem wq_min_6_129 : Cond.methodLink "ShareHouse$Parting" 129 Lib.Math.min.name ∈ am_tb := am_tb4 (i := 48) rfl rfl
set_option maxRecDepth 100000 in
theorem wq_min_0_106 : Cond.methodLink "ShareHouse$Accounts" 106 Lib.Math.min.name ∈ am_tb := am_tb4 (i := 124) rfl rfl
set_option maxRecDepth 100000 in
theorem wq_maxL_s : Cond.static Lib.MathLoose.max_long.x ∈ am_tb := am_tb3 (i := 186) rfl rfl
set_option maxRecDepth 100000 in
theorem wq_maxL_c : Cond.code Lib.MathLoose.max_long.x Lib.MathLoose.max_long.code 4 (some .long) ∈ am_tb := am_tb3 (i := 187) rfl rfl
set_option maxRecDepth 100000 in
theorem wq_maxL_6_46 : Cond.methodLink "ShareHouse$Parting" 46 Lib.MathLoose.max_long.x ∈ am_tb := am_tb3 (i := 185) rfl rfl
set_option maxRecDepth 100000 in
theorem wq_maxL_11_139 : Cond.methodLink "ShareHouse" 139 Lib.MathLoose.max_long.x ∈ am_tb := am_tb3 (i := 202) rfl rfl
set_option maxRecDepth 100000 in
theorem wq_maxL_0_95 : Cond.methodLink "ShareHouse$Accounts" 95 Lib.MathLoose.max_long.x ∈ am_tb := am_tb4 (i := 126) rfl rfl
set_option maxRecDepth 100000 in
theorem wq_math : Cond.initialized "java/lang/Math" ∈ am_tb := am_tb1 (i := 18) rfl rfl
set_option maxRecDepth 100000 in
theorem wq_sys : Cond.initialized "java/lang/System" ∈ am_tb := am_tb1 (i := 19) rfl rfl
set_option maxRecDepth 100000 in
theorem wq_ac_s : Cond.static arraycopyName ∈ am_tb := am_tb3 (i := 142) rfl rfl
set_option maxRecDepth 100000 in
theorem wq_ac_n : Cond.native arraycopyName ∈ am_tb := am_tb3 (i := 143) rfl rfl
set_option maxRecDepth 100000 in
theorem wq_ac_l : Cond.methodLink "ShareHouse" 354 arraycopyName ∈ am_tb := am_tb3 (i := 141) rfl rfl
set_option maxRecDepth 100000 in
theorem wq_most : Cond.fieldLink "ShareHouse" 147 "ShareHouse" "RULES_MOST" "[I" ∈ am_tb := am_tb3 (i := 211) rfl rfl

/-! CONSTRUCTORS: cells are made; a cell that isn't made yet is blank in the state -/
def am_Bl (σ : am_S) : Prop := ∀ i, σ.1 ≤ i → (∀ j, σ.2.1.1 i j = 0) ∧ (∀ j, σ.2.1.2 i j = 0) ∧ ∀ j, σ.2.2 i j = none
/-- reference fields as a list of what was put -/
def am_up (rf : Nat → Nat → Option Nat) (k j q : Nat) : Nat → Nat → Option Nat := fun a b => if a = k ∧ b = j then some q else rf a b
theorem am_up_ne {rf : Nat → Nat → Option Nat} {k j q a : Nat} (h : a ≠ k) : am_up rf k j q a = rf a := by
  funext b
  exact if_neg (fun z => h z.1)
theorem am_Bl.up {n : Nat} {τ : am_T} {rf : Nat → Nat → Option Nat} {k j q : Nat} (h : am_Bl (n, τ, rf)) (hk : k < n) : am_Bl (n, τ, am_up rf k j q) := fun i hi => by
  have hi : n ≤ i := hi
  refine ⟨(h i hi).1, (h i hi).2.1, fun b => ?_⟩
  show am_up rf k j q i b = none
  rw [am_up_ne (by omega)]
  exact (h i hi).2.2 b
theorem am_Bl.si {n : Nat} {τ : am_T} {rf : Nat → Nat → Option Nat} {k j : Nat} {v : Int32} (h : am_Bl (n, τ, rf)) (hk : k < n) : am_Bl (n, am_si τ k j v, rf) := fun i hi => by
  have hi : n ≤ i := hi
  refine ⟨fun b => ?_, (h i hi).2.1, (h i hi).2.2⟩
  show (am_si τ k j v).1 i b = 0
  rw [am_si_ne (by omega)]
  exact (h i hi).1 b
theorem am_Bl.nx {n : Nat} {τ : am_T} {rf : Nat → Nat → Option Nat} (h : am_Bl (n, τ, rf)) : am_Bl (n + 1, τ, rf) := fun i hi => h i (Nat.le_of_succ_le hi)
theorem am_su_succ {n t m : Nat} (hn : n < am_NN) (h : am_sh n = (t, m)) : am_su (n + 1) = am_su n + (if t = 0 then am_nf m else m) := by
  have hl : am_shL[n]? = some (t, m) := by
    have h2 : n < am_shL.length := hn
    have h3 : am_shL.getD n (9, 0) = am_shL[n] := by rw [List.getD_eq_getElem?_getD, List.getElem?_eq_getElem h2]; rfl
    rw [List.getElem?_eq_getElem h2, ← h3]
    exact congrArg some h
  unfold am_su
  have : am_suL[n]? = some (if t = 0 then am_nf m else m) := by
    unfold am_suL
    rw [List.getElem?_map, hl]
    rfl
  rw [List.take_succ, this]
  simp
theorem am_ws_push {g : am_G} {n : Nat} {τ : am_T} {rf : Nat → Nat → Option Nat} : am_ws g (n + 1, τ, rf) = am_ws g (n, τ, rf) ++ [(g.1 + n, am_el g (n, τ, rf) n)] := by
  unfold am_ws
  show (List.range (n + 1)).map _ = (List.range n).map _ ++ _
  rw [List.range_succ, List.map_append]
  rfl
theorem am_I_new {g : am_G} {n : Nat} {τ : am_T} {rf : Nat → Nat → Option Nat} {H H1 : Heap} (hI : am_I g (n, τ, rf) H) (hn : n < am_NN) (hz : H1.size = H.size + 1) (ho : ∀ q : Nat, q < H.size → H1[q]? = H[q]?) (he : va_at g.2.1 am_cl (g.1 + n, am_el g (n, τ, rf) n) H1) : am_I g (n + 1, τ, rf) H1 := by
  have hsz : H.size = g.1 + n := hI.2.1 hn
  refine ⟨⟨Nat.le_trans (show n + 1 ≤ am_NN from hn) (by decide), by rw [hz, hsz]; exact Nat.le_refl _⟩, fun _ => by rw [hz, hsz]; rfl, ?_⟩
  rw [am_ws_push]
  refine (hI.2.2.kept (fun k x hx => ho x.1 ((hI.2.2 k x hx).lt))).app (fun k x hx => ?_)
  have hz : k < 1 := (List.getElem?_eq_some_iff.mp hx).1
  rw [show k = 0 by omega] at hx
  cases hx
  exact he
theorem am_S_new {g : am_G} {s : State} {H H1 : Heap} {locs : List Loc} (hS : va_S (am_A g) s.heap H locs) (hz : H1.size = H.size + 1) (ho : ∀ q : Nat, q < H.size → H1[q]? = H[q]?) : va_S (am_A g) s.heap H1 locs :=
  ⟨Nat.le_trans hS.1 (by omega), fun x h1 h2 => (ho x (Nat.lt_of_lt_of_le h1 hS.1)).trans (hS.2.1 x h1 h2), hS.2.2⟩
def am_tok : FieldType → Bool
  | .int => true
  | .boolean => true
  | .long => true
  | .object _ => true
  | .array _ => true
  | _ => false
theorem am_tok0 : ∀ j, j < 4 → am_tok (tyX0 j) = true := by decide +kernel
theorem am_tok1 : ∀ j, j < 10 → am_tok (tyX1 j) = true := by decide +kernel
theorem am_tok2 : ∀ j, j < 5 → am_tok (tyX2 j) = true := by decide +kernel
theorem am_tok3 : ∀ j, j < 8 → am_tok (tyX3 j) = true := by decide +kernel
theorem am_tok4 : ∀ j, j < 2 → am_tok (tyX4 j) = true := by decide +kernel
theorem am_tok5 : ∀ j, j < 8 → am_tok (tyX5 j) = true := by decide +kernel
theorem am_tok6 : ∀ j, j < 7 → am_tok (tyX6 j) = true := by decide +kernel
theorem am_tok7 : ∀ j, j < 4 → am_tok (tyX7 j) = true := by decide +kernel
theorem am_tok8 : ∀ j, j < 7 → am_tok (tyX8 j) = true := by decide +kernel
theorem am_tok9 : ∀ j, j < 10 → am_tok (tyX9 j) = true := by decide +kernel
theorem am_tok10 : ∀ j, j < 12 → am_tok (tyX10 j) = true := by decide +kernel
theorem am_tok11 : ∀ j, j < 7 → am_tok (tyX11 j) = true := by decide +kernel
theorem am_tok12 : ∀ j, j < 30 → am_tok (tyX12 j) = true := by decide +kernel
theorem am_tok_all (ci j : Nat) (h : j < am_nf ci) : am_tok (am_ty ci j) = true := by
  match ci, h with
  | 0, h => exact am_tok0 j h
  | 1, h => exact am_tok1 j h
  | 2, h => exact am_tok2 j h
  | 3, h => exact am_tok3 j h
  | 4, h => exact am_tok4 j h
  | 5, h => exact am_tok5 j h
  | 6, h => exact am_tok6 j h
  | 7, h => exact am_tok7 j h
  | 8, h => exact am_tok8 j h
  | 9, h => exact am_tok9 j h
  | 10, h => exact am_tok10 j h
  | 11, h => exact am_tok11 j h
  | 12, h => exact am_tok12 j h
  | n + 13, h => exact am_tok12 j h
theorem am_fs_blank {g : am_G} {n ci : Nat} {τ : am_T} {rf : Nat → Nat → Option Nat} (hB : am_Bl (n, τ, rf)) : ∀ j, j < am_nf ci → defaultValue (am_ty ci j) = vp_V (am_fs g (n, τ, rf) n ci) j := by
  intro j hj
  have h1 := hB n (Nat.le_refl _)
  have hg : (am_fs g (n, τ, rf) n ci).getD j .null = am_fv g (n, τ, rf) n j (am_ty ci j) := by
    rw [List.getD_eq_getElem?_getD, am_fs_get hj]
    rfl
  unfold vp_V
  rw [hg]
  unfold am_fv
  have e1 : (n, τ, rf).2.1.1 n j = 0 := h1.1 j
  have e2 : (n, τ, rf).2.1.2 n j = 0 := h1.2.1 j
  have e3 : (n, τ, rf).2.2 n j = none := h1.2.2 j
  rw [e1, e2, e3]
  have hk := am_tok_all ci j hj
  generalize am_ty ci j = t at hk
  cases t <;> first | rfl | exact Bool.noConfusion hk
section
variable {X : am_X} {own : String} {cc : ByteArray} {nL pc fr lc NN : Nat} {lv : List (Nat × Value)} {st : List Value} {n : Nat} {τ : am_T} {rf : Nat → Nat → Option Nat}
theorem am_new {idx ci N : Nat} {C : String} {T : u_T} (hd : decode cc pc = .ok (.new idx, 3)) (hcl : Cond.classLink own idx C ∈ am_tb) (hins : Cond.instantiable C N ∈ am_tb) (hini : Cond.initialized C ∈ am_tb) (hc : am_cl[ci]? = some (C, T, N)) (hn : n < am_NN) (hsh : am_sh n = (0, ci)) (hB : am_Bl (n, τ, rf)) (hcap : n + 1 ≤ NN) (hF : am_F X own cc nL) (hR : am_RN X fr lc NN) (k : am_W X nL (pc + 3, lv, .ref n :: st, (n + 1, τ, rf))) : am_W X nL (pc, lv, st, (n, τ, rf)) := by
  obtain ⟨p, l, e, R, s, m, args, below, meth, c, Q, g, n0⟩ := X
  intro H locs ls hn0 hI hS hl
  have hts := hF.2.2.2.2.1
  obtain ⟨hR1, hR2, hR3, hR4⟩ := hR
  have hn0 : n0 ≤ n := hn0
  have m1 := am_su_mono hn0
  have m3 := am_su_mono hcap
  have hw := am_cls ci _ hc
  have hN : N = am_nf ci := hw.2.2.2
  have hsu := am_su_succ hn hsh
  rw [if_pos rfl, ← hN] at hsu
  have hK := hF.2.2.2.2.2.1.1
  have hKn := hK.1 ci _ hc
  have hsz : H.size = g.1 + n := hI.2.1 hn
  refine W.newcK hF.1 hF.2.1 hF.2.2.2.1 (hts _ hcl) (hts _ hins) (hts _ hini) rfl hd (by show n - n0 + 1 ≤ _; omega) (by show am_su n - am_su n0 + N ≤ _; omega) hKn.2.1 hsz fun H1 kC hkC e1 z1 o1 => ?_
  rw [← hsz] at o1 z1
  have hI1 : am_I g (n + 1, τ, rf) H1 := am_I_new hI hn z1 o1 (by
    rw [am_el_obj hsh]
    refine ⟨_, hc, (u_born (am_ty ci) hts (am_cls_tb hc) hKn hkC e1 hw.2.1).to ?_⟩
    intro j hj
    exact am_fs_blank hB j (by rw [← hN]; exact hj))
  have hk := k H1 locs ls (Nat.le_succ_of_le hn0) hI1 (am_S_new hS z1 o1) hl
  have e2 : n - n0 + 1 = n + 1 - n0 := by omega
  have e3 : am_su n - am_su n0 + N = am_su (n + 1) - am_su n0 := by omega
  show W p l e R s m args below meth c H1 locs (n - n0 + 1) (am_su n - am_su n0 + N) Q _
  rw [e2, e3]
  have hn1 : n < 1000 := Nat.lt_of_lt_of_le hn (by decide)
  have hk : W p l e R s m args below meth c H1 locs (n + 1 - n0) (am_su (n + 1) - am_su n0) Q (F0 m (pc + 3) ls (.ref (am_ad g n) :: st.map (am_rv g))) := hk
  rw [am_ad_lt hn1] at hk
  exact hk
theorem am_newX {atype : ArrayType} {t N : Nat} {i : Int32} (ty : FieldType) (hd : decode cc pc = .ok (.newarray atype, 2)) (hty : newarray.typeOf atype = ty) (harr : Cond.arrayClass ty ∈ am_tb) (ht : (t = 1 ∧ ty = .int) ∨ (t = 2 ∧ ty = .boolean) ∨ (t = 3 ∧ ty = .long)) (hi : ¬ i < 0) (hiN : i.toNatClampNeg = N) (hN : N ≤ 100000) (hn : n < am_NN) (hsh : am_sh n = (t, N)) (hB : am_Bl (n, τ, rf)) (hcap : n + 1 ≤ NN) (hF : am_F X own cc nL) (hR : am_RN X fr lc NN) (k : am_W X nL (pc + 2, lv, .ref n :: st, (n + 1, τ, rf))) : am_W X nL (pc, lv, .int i :: st, (n, τ, rf)) := by
  obtain ⟨p, l, e, R, s, m, args, below, meth, c, Q, g, n0⟩ := X
  intro H locs ls hn0 hI hS hl
  subst hty
  have hts := hF.2.2.2.2.1
  obtain ⟨hR1, hR2, hR3, hR4⟩ := hR
  have hn0 : n0 ≤ n := hn0
  have m1 := am_su_mono hn0
  have m3 := am_su_mono hcap
  have hsu := am_su_succ hn hsh
  have ht0 : t ≠ 0 := by rcases ht with h | h | h <;> omega
  rw [if_neg ht0] at hsu
  have hK := hF.2.2.2.2.2.1.1
  have hsz : H.size = g.1 + n := hI.2.1 hn
  have hcb : N * componentBytes (newarray.typeOf atype) ≤ 536870912 := by
    have hc8 : componentBytes (newarray.typeOf atype) ≤ 8 := by
      rcases ht with ⟨-, h⟩ | ⟨-, h⟩ | ⟨-, h⟩ <;> (rw [h]; decide)
    calc N * componentBytes (newarray.typeOf atype) ≤ 100000 * 8 := Nat.mul_le_mul hN hc8
      _ ≤ 536870912 := by decide
  refine va_newaK hF.1 hF.2.1 (hts _ harr) (g := F0 m pc ls (.int i :: st.map (am_rv g))) rfl hd (n := i) (rest := st.map (am_rv g)) rfl hi hiN hcb (by show n - n0 + 1 ≤ _; omega) (by show am_su n - am_su n0 + N ≤ _; omega) hsz fun H1 cA e1 z1 o1 hAr hNm => ?_
  rw [← hsz] at o1 z1
  have h1 := hB n (Nat.le_refl _)
  have hI1 : am_I g (n + 1, τ, rf) H1 := am_I_new hI hn z1 o1 (by
    have hcA : ∀ (tt : Nat) (q : ClassId × FieldType), (am_tys g)[tt]? = some q → q.2 = newarray.typeOf atype → (∀ C, q.2 ≠ .object C) → q.1 = cA := by
      intro tt q hq h2 h3
      have hra := (hK.2 tt q hq).2
      obtain ⟨qc, qt⟩ := q
      dsimp only at h2 h3
      subst h2
      have : s.vm.findClass ("[" ++ (newarray.typeOf atype).toString) = some qc := by
        cases atype <;> exact hra
      exact Option.some.inj (this.symm.trans hNm)
    rcases ht with ⟨rfl, h⟩ | ⟨rfl, h⟩ | ⟨rfl, h⟩
    · rw [am_el_i hsh]
      have hc := hcA 0 _ rfl h.symm (fun C => by rintro ⟨⟩)
      show H1[g.1 + n]? = some (vp_cell (g.2.2.1 1) _)
      have hc : g.2.2.1 1 = cA := hc
      rw [hc, vp_cell_i, e1, h]
      congr 2
      funext j
      show _ = Value.int ((n, τ, rf).2.1.1 n j)
      rw [show (n, τ, rf).2.1.1 n j = 0 from h1.1 j]
      rfl
    · rw [am_el_z hsh]
      have hc := hcA 1 _ rfl h.symm (fun C => by rintro ⟨⟩)
      show H1[g.1 + n]? = some (vp_cell (g.2.2.1 2) _)
      have hc : g.2.2.1 2 = cA := hc
      rw [hc, vp_cell_i, e1, h]
      congr 2
      funext j
      show _ = Value.int ((n, τ, rf).2.1.1 n j)
      rw [show (n, τ, rf).2.1.1 n j = 0 from h1.1 j]
      rfl
    · rw [am_el_l hsh]
      have hc := hcA 2 _ rfl h.symm (fun C => by rintro ⟨⟩)
      show H1[g.1 + n]? = some (vp_cell (g.2.2.1 3) _)
      have hc : g.2.2.1 3 = cA := hc
      rw [hc, vp_cell_l, e1, h]
      congr 2
      funext j
      show _ = Value.long ((n, τ, rf).2.1.2 n j)
      rw [show (n, τ, rf).2.1.2 n j = 0 from h1.2.1 j]
      rfl)
  have hk := k H1 locs ls (Nat.le_succ_of_le hn0) hI1 (am_S_new hS z1 o1) hl
  have e2 : n - n0 + 1 = n + 1 - n0 := by omega
  have e3 : am_su n - am_su n0 + N = am_su (n + 1) - am_su n0 := by omega
  show W p l e R s m args below meth c H1 locs (n - n0 + 1) (am_su n - am_su n0 + N) Q _
  rw [e2, e3]
  have hn1 : n < 1000 := Nat.lt_of_lt_of_le hn (by decide)
  have hk : W p l e R s m args below meth c H1 locs (n + 1 - n0) (am_su (n + 1) - am_su n0) Q (F0 m (pc + 2) ls (.ref (am_ad g n) :: st.map (am_rv g))) := hk
  rw [am_ad_lt hn1] at hk
  rw [← hsz] at hk ⊢
  exact hk
end

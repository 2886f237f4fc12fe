theorem am_bif {α : Type} {b : Bool} {x : Option α} {y : α} (h : (bif b then x else none) = some y) : b = true ∧ x = some y := by
  cases b with
  | false => cases h
  | true => exact ⟨rfl, h⟩
theorem am_blt {a b : Nat} (h : Nat.blt a b = true) : a < b := by simpa [Nat.blt_eq] using h
theorem am_gf {σ : am_S} {k a b : Nat} (h : (Nat.blt k σ.1 && Nat.blt k 1000 && Nat.beq (am_sh k).1 0 && Nat.beq (am_sh k).2 a && Nat.blt b (am_nf a)) = true) : k < σ.1 ∧ k < 1000 ∧ am_sh k = (0, a) ∧ b < am_nf a := by
  simp only [Bool.and_eq_true] at h
  obtain ⟨⟨⟨⟨h1, h2⟩, h3⟩, h4⟩, h5⟩ := h
  exact ⟨am_blt h1, am_blt h2, Prod.ext (Nat.eq_of_beq_eq_true h3) (Nat.eq_of_beq_eq_true h4), am_blt h5⟩
section
variable {X : am_X} {own : String} {cc : ByteArray} {nL pc : Nat} {lv : List (Nat × Value)} {st : List Value} {σ : am_S}
set_option maxHeartbeats 4000000 in
theorem am_op_ok {i : Instr} {no a b pos : Nat} {v : Value} {y : am_Y} (ho : am_on no = own) (hF : am_F X own cc nL) (hd : decode cc pc = .ok (i, am_ln i)) (hlk : am_lk no (pc, i, a, b, pos, v) = true) (h : am_op nL pc i a b v lv st σ = some y) (k : am_W X nL y) : am_W X nL (pc, lv, st, σ) := by
  subst ho
  cases i
  case iconst n =>
    simp only [am_op] at h
    cases h
    cases v <;> first | exact am_iconst hd (of_decide_eq_true hlk) hF k | exact Bool.noConfusion (show false = true from hlk)
  case bipush n =>
    simp only [am_op] at h
    cases h
    cases v <;> first | exact am_bipush hd (of_decide_eq_true hlk) hF k | exact Bool.noConfusion (show false = true from hlk)
  case sipush n =>
    simp only [am_op] at h
    cases h
    cases v <;> first | exact am_sipush hd (of_decide_eq_true hlk) hF k | exact Bool.noConfusion (show false = true from hlk)
  case lconst n =>
    simp only [am_op] at h
    cases h
    cases v <;> first | exact am_lconst hd (of_decide_eq_true hlk) hF k | exact Bool.noConfusion (show false = true from hlk)
  case ldc_w n =>
    simp only [am_op] at h
    cases h
    cases v <;> first | exact am_ldcw hd (am_cnk_i (of_decide_eq_true hlk)) hF k | exact Bool.noConfusion (show false = true from hlk)
  case ldc2_w n =>
    simp only [am_op] at h
    cases h
    cases v <;> first | exact am_ldc2 hd (am_cnk_l (of_decide_eq_true hlk)) hF k | exact Bool.noConfusion (show false = true from hlk)
  case ldc n =>
    simp only [am_op] at h
    cases h
    cases v
    case int x => exact am_ldc hd (am_cnk_i (of_decide_eq_true hlk)) hF k
    case ref x =>
      obtain ⟨ho, hx, hi⟩ := of_decide_eq_true hlk
      subst hx
      exact am_ldcS hd (by rw [ho]; rfl) hi hF k
    all_goals (exact Bool.noConfusion (show false = true from hlk))
  case iload_n n =>
    simp only [am_op] at h
    split at h
    · rename_i x hx
      cases h
      exact am_iload_n hd hx hF k
    · cases h
  case iload n =>
    simp only [am_op] at h
    split at h
    · rename_i x hx
      cases h
      exact am_iload hd hx hF k
    · cases h
  case lload_n n =>
    simp only [am_op] at h
    split at h
    · rename_i x hx
      cases h
      exact am_lload_n hd hx hF k
    · cases h
  case lload n =>
    simp only [am_op] at h
    split at h
    · rename_i x hx
      cases h
      exact am_lload hd hx hF k
    · cases h
  case aload_n n =>
    simp only [am_op] at h
    split at h
    · rename_i x hx
      cases h
      exact am_aload_n hd hx hF k
    · cases h
  case aload n =>
    simp only [am_op] at h
    split at h
    · rename_i x hx
      cases h
      exact am_aload hd hx hF k
    · cases h
  case istore_n n =>
    simp only [am_op] at h
    split at h
    · obtain ⟨h1, h2⟩ := am_bif h
      cases h2
      exact am_istore_n hd (am_blt h1) hF k
    · cases h
  case istore n =>
    simp only [am_op] at h
    split at h
    · obtain ⟨h1, h2⟩ := am_bif h
      cases h2
      exact am_istore hd (am_blt h1) hF k
    · cases h
  case lstore_n n =>
    simp only [am_op] at h
    split at h
    · obtain ⟨h1, h2⟩ := am_bif h
      cases h2
      exact am_lstore_n hd (am_blt h1) hF k
    · cases h
  case lstore n =>
    simp only [am_op] at h
    split at h
    · obtain ⟨h1, h2⟩ := am_bif h
      cases h2
      exact am_lstore hd (am_blt h1) hF k
    · cases h
  case astore_n n =>
    simp only [am_op] at h
    split at h
    · obtain ⟨h1, h2⟩ := am_bif h
      cases h2
      exact am_astore_n hd (am_blt h1) hF k
    · cases h
  case astore n =>
    simp only [am_op] at h
    split at h
    · obtain ⟨h1, h2⟩ := am_bif h
      cases h2
      exact am_astore hd (am_blt h1) hF k
    · cases h
  case iinc n z =>
    simp only [am_op] at h
    split at h
    · rename_i x d hx
      obtain ⟨h1, h2⟩ := am_bif h
      cases h2
      exact am_iinc hd hx (of_decide_eq_true hlk) (am_blt h1) hF k
    · cases h
  case iadd =>
    simp only [am_op] at h
    split at h
    · cases h
      exact am_iadd hd hF k
    · cases h
  case isub =>
    simp only [am_op] at h
    split at h
    · cases h
      exact am_isub hd hF k
    · cases h
  case imul =>
    simp only [am_op] at h
    split at h
    · cases h
      exact am_imul hd hF k
    · cases h
  case iand =>
    simp only [am_op] at h
    split at h
    · cases h
      exact am_iand hd hF k
    · cases h
  case ior =>
    simp only [am_op] at h
    split at h
    · cases h
      exact am_ior hd hF k
    · cases h
  case ixor =>
    simp only [am_op] at h
    split at h
    · cases h
      exact am_ixor hd hF k
    · cases h
  case ishl =>
    simp only [am_op] at h
    split at h
    · cases h
      exact am_ishl hd hF k
    · cases h
  case ishr =>
    simp only [am_op] at h
    split at h
    · cases h
      exact am_ishr hd hF k
    · cases h
  case iushr =>
    simp only [am_op] at h
    split at h
    · cases h
      exact am_iushr hd hF k
    · cases h
  case ladd =>
    simp only [am_op] at h
    split at h
    · cases h
      exact am_ladd hd hF k
    · cases h
  case lsub =>
    simp only [am_op] at h
    split at h
    · cases h
      exact am_lsub hd hF k
    · cases h
  case lmul =>
    simp only [am_op] at h
    split at h
    · cases h
      exact am_lmul hd hF k
    · cases h
  case land =>
    simp only [am_op] at h
    split at h
    · cases h
      exact am_land hd hF k
    · cases h
  case lor =>
    simp only [am_op] at h
    split at h
    · cases h
      exact am_lor hd hF k
    · cases h
  case lxor =>
    simp only [am_op] at h
    split at h
    · cases h
      exact am_lxor hd hF k
    · cases h
  case lshl =>
    simp only [am_op] at h
    split at h
    · cases h
      exact am_lshl hd hF k
    · cases h
  case lshr =>
    simp only [am_op] at h
    split at h
    · cases h
      exact am_lshr hd hF k
    · cases h
  case lushr =>
    simp only [am_op] at h
    split at h
    · cases h
      exact am_lushr hd hF k
    · cases h
  case lcmp =>
    simp only [am_op] at h
    split at h
    · cases h
      exact am_lcmp hd hF k
    · cases h
  case ineg =>
    simp only [am_op] at h
    split at h
    · cases h
      exact am_ineg hd hF k
    · cases h
  case i2l =>
    simp only [am_op] at h
    split at h
    · cases h
      exact am_i2l hd hF k
    · cases h
  case l2i =>
    simp only [am_op] at h
    split at h
    · cases h
      exact am_l2i hd hF k
    · cases h
  case dup =>
    simp only [am_op] at h
    split at h
    · cases h; exact am_dup hd rfl hF k
    · cases h; exact am_dup hd rfl hF k
    · cases h
  case dup2 =>
    simp only [am_op] at h
    split at h
    · cases h; exact am_dup2a hd rfl rfl hF k
    · cases h; exact am_dup2b hd rfl hF k
    · cases h
  case goto o =>
    simp only [am_op] at h
    cases h
    exact am_goto hd (of_decide_eq_true hlk) hF k
  case getfield n =>
    simp only [am_op] at h
    split at h
    · rename_i kq rq
      obtain ⟨h1, h2⟩ := am_bif h
      obtain ⟨g1, g2, g3, g4⟩ := am_gf h1
      obtain ⟨⟨C, T, N⟩, hc, hp⟩ := am_flk_ok (of_decide_eq_true hlk)
      split at h2
      · rename_i w hw
        cases h2
        exact am_get hd g1 g2 g3 hc g4 hp hw hF k
      · cases h2
    · cases h
  case putfield n =>
    simp only [am_op] at h
    have hl2 := (Bool.and_eq_true _ _).mp hlk
    obtain ⟨⟨C, T, N⟩, hc, hp⟩ := am_flk_ok (of_decide_eq_true hl2.1)
    have hfn := hl2.2
    simp only [hc] at hfn
    have hfin := of_decide_eq_true hfn
    split at h
    · obtain ⟨h1, h2⟩ := am_bif h
      obtain ⟨g1, g2, g3, g4⟩ := am_gf h1
      split at h2
      · rename_i hty; cases h2; exact am_putI hd g1 g2 g3 hc g4 hp hfin hty hF k
      · cases h2
    · obtain ⟨h1, h2⟩ := am_bif h
      obtain ⟨g1, g2, g3, g4⟩ := am_gf h1
      split at h2
      · rename_i hty; cases h2; exact am_putL hd g1 g2 g3 hc g4 hp hfin hty hF k
      · cases h2
    · cases h
  case arraylength =>
    simp only [am_op] at h
    split at h
    · obtain ⟨h1, h2⟩ := am_bif h
      cases h2
      simp only [Bool.and_eq_true] at h1
      exact am_alen hd (am_blt h1.1.1.1) (am_blt h1.1.1.2) rfl (am_blt h1.1.2) (am_blt h1.2) hF k
    · cases h
  all_goals (exact (nomatch (show none = some y from h)))
theorem am_seg {no : Nat} (is : List am_Q) {x y : am_Y} (hF : am_F X own cc nL) (hok : is.all (am_ok no cc) = true) (ho : am_on no = own) (h : am_exs nL is x = some y) (k : am_W X nL y) : am_W X nL x := by
  induction is generalizing x with
  | nil => cases h; exact k
  | cons q r ih =>
    obtain ⟨pc, i, a, b, pos, v⟩ := q
    obtain ⟨pc', lv, st, σ⟩ := x
    simp only [List.all_cons, Bool.and_eq_true] at hok
    obtain ⟨h1, h2⟩ := am_bif h
    have hpc : pc = pc' := Nat.eq_of_beq_eq_true h1
    subst hpc
    have hk1 := hok.1
    simp only [am_ok, Bool.and_eq_true] at hk1
    split at h2
    · rename_i z hz
      exact am_op_ok ho hF (of_decide_eq_true hk1.1) hk1.2 hz (ih hok.2 h2)
    · cases h2
end

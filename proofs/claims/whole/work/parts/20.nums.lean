/-! PHASE 2: pure rows about the printed functions -/
theorem p_si_eq {τ : am_T} {k j : Nat} {v : Int32} : (am_si τ k j v).1 k j = v := if_pos ⟨rfl, rfl⟩
theorem p_si_r {τ : am_T} {k j a b : Nat} {v : Int32} (h : a ≠ k) : (am_si τ k j v).1 a b = τ.1 a b := if_neg (fun q => h q.1)
theorem p_si_c {τ : am_T} {k j a b : Nat} {v : Int32} (h : b ≠ j) : (am_si τ k j v).1 a b = τ.1 a b := if_neg (fun q => h q.2)
theorem p_si_2 {τ : am_T} {k j : Nat} {v : Int32} : (am_si τ k j v).2 = τ.2 := rfl
theorem p_sl_1 {τ : am_T} {k j : Nat} {v : Int64} : (am_sl τ k j v).1 = τ.1 := rfl
theorem p_sl_eq {τ : am_T} {k j : Nat} {v : Int64} : (am_sl τ k j v).2 k j = v := if_pos ⟨rfl, rfl⟩
theorem p_sl_r {τ : am_T} {k j a b : Nat} {v : Int64} (h : a ≠ k) : (am_sl τ k j v).2 a b = τ.2 a b := if_neg (fun q => h q.1)
theorem p_sl_c {τ : am_T} {k j a b : Nat} {v : Int64} (h : b ≠ j) : (am_sl τ k j v).2 a b = τ.2 a b := if_neg (fun q => h q.2)
theorem p_ink {k n : Nat} (h : k < n) (hn : n < 2147483648) : am_in (nI k) n = true := by
  unfold am_in
  rw [nI_clamp (by omega)]
  have h0 : ¬ nI k < 0 := nI_pos (by omega)
  simp [h0]
  omega
theorem p_g {α : Type} {x : Option α} : am_g true x = x := rfl
theorem p_in {α : Type} {k n : Nat} {x : Option α} (h : k < n) (hn : n < 2147483648) : am_g (am_in (nI k) n) x = x := by rw [p_ink h hn]; rfl
theorem p_z0 : am_z01 (nI 0) = true := by decide
theorem p_z1 : am_z01 (nI 1) = true := by decide
theorem p_10 : ¬ nI 1 = 0 := by decide
theorem p_00 : nI 0 = 0 := rfl
theorem p_M_in (τ : am_T) (a lo hi : Int32) : M_in τ a lo hi = some (if lo ≤ a ∧ a ≤ hi then nI 1 else nI 0, τ) := by
  unfold M_in
  by_cases h1 : a < lo
  · rw [if_pos h1, if_neg]
    intro q
    exact absurd q.1 (Int32.not_le.mpr h1)
  · rw [if_neg h1]
    by_cases h2 : hi < a
    · rw [if_pos h2, if_neg]
      intro q
      exact absurd q.2 (Int32.not_le.mpr h2)
    · rw [if_neg h2, if_pos ⟨Int32.not_lt.mp h1, Int32.not_lt.mp h2⟩]
theorem p_X_within (τ : am_T) (a lo hi : Int32) : X_within τ a lo hi = some (if lo ≤ a ∧ a ≤ hi then nI 1 else nI 0, τ) := by
  unfold X_within
  by_cases h1 : a < lo
  · rw [if_pos h1, if_neg]
    intro q
    exact absurd q.1 (Int32.not_le.mpr h1)
  · rw [if_neg h1]
    by_cases h2 : hi < a
    · rw [if_pos h2, if_neg]
      intro q
      exact absurd q.2 (Int32.not_le.mpr h2)
    · rw [if_neg h2, if_pos ⟨Int32.not_lt.mp h1, Int32.not_lt.mp h2⟩]
theorem p_rng {a : Int32} {n : Nat} (hn : n < 1073741824) : (nI 0 ≤ a ∧ a ≤ nI n - nI 1) ↔ ∃ j, j < n ∧ a = nI j := by
  have e0 : (nI 0).toInt = 0 := rfl
  have e1 : (nI n - nI 1).toInt = (n : Int) - 1 := pk_sub_toInt (by omega) (by omega)
  constructor
  · intro ⟨h1, h2⟩
    have h1' := Int32.le_iff_toInt_le.mp h1
    have h2' := Int32.le_iff_toInt_le.mp h2
    obtain ⟨j, hj, e⟩ := nI_of (x := a) (by intro q; exact absurd h1 (Int32.not_le.mpr q))
    refine ⟨j, ?_, e⟩
    rw [e, nI_toInt hj] at h2'
    omega
  · intro ⟨j, hj, e⟩
    subst e
    have ej : (nI j).toInt = (j : Int) := nI_toInt (by omega)
    exact ⟨Int32.le_iff_toInt_le.mpr (by omega), Int32.le_iff_toInt_le.mpr (by omega)⟩
theorem p_rn2 {a : Int32} {lo hi : Nat} (hlh : lo ≤ hi) (hh : hi < 2147483648) : (nI lo ≤ a ∧ a ≤ nI hi) ↔ ∃ j, lo ≤ j ∧ j ≤ hi ∧ a = nI j := by
  have e1 : (nI hi).toInt = hi := nI_toInt hh
  have e0 : (nI lo).toInt = lo := nI_toInt (by omega)
  constructor
  · intro ⟨h1, h2⟩
    have h1' := Int32.le_iff_toInt_le.mp h1
    have h2' := Int32.le_iff_toInt_le.mp h2
    have hp : ¬ a < 0 := by
      intro q
      have := Int32.lt_iff_toInt_lt.mp q
      have e00 : (0 : Int32).toInt = 0 := rfl
      omega
    obtain ⟨j, hj, e⟩ := nI_of hp
    have ej : a.toInt = (j : Int) := by rw [e]; exact nI_toInt hj
    exact ⟨j, by omega, by omega, e⟩
  · intro ⟨j, h1, h2, e⟩
    subst e
    have ej : (nI j).toInt = (j : Int) := nI_toInt (by omega)
    exact ⟨Int32.le_iff_toInt_le.mpr (by omega), Int32.le_iff_toInt_le.mpr (by omega)⟩
/-- the sum of the first n numbers of a row -/
def p_sm (f : Nat → Int32) : Nat → Int32
  | 0 => nI 0
  | n + 1 => p_sm f n + f n
theorem p_M_flatOf {τ : am_T} {f w : Nat} (h : 22 + 4 * f + w < 1060) : M_flatOf τ (nI f) (nI w) = some (τ.1 141 (22 + 4 * f + w), τ) := by
  unfold M_flatOf
  simp (disch := omega) only [pk_mul, nI_add, p_in, nI_clamp]
theorem p_M_together_4 {τ : am_T} {w n : Nat} (hn : τ.1 141 1 = nI n) (hn8 : n ≤ 8) (hw : w ≤ 3) : ∀ (fuel i : Nat), i ≤ n → n - i < fuel → M_together_4 fuel τ (nI w) (p_sm (fun f => τ.1 141 (22 + 4 * f + w)) i) (nI i) = some (p_sm (fun f => τ.1 141 (22 + 4 * f + w)) n, τ) := by
  intro fuel
  induction fuel with
  | zero => intro i _ h; omega
  | succ m ih =>
    intro i hi hf
    unfold M_together_4
    rw [hn]
    by_cases hc : i = n
    · subst hc
      rw [if_pos (nI_le (Nat.le_refl _) (by omega))]
    · rw [if_neg (by rw [nI_leI (by omega) (by omega)]; omega), p_M_flatOf (by omega), Option.bind_some, nI_add]
      exact ih (i + 1) (by omega) (by omega)
theorem p_M_together {τ : am_T} {w n : Nat} (hn : τ.1 141 1 = nI n) (hn8 : n ≤ 8) (hw : w ≤ 3) : M_together τ (nI w) = some (p_sm (fun f => τ.1 141 (22 + 4 * f + w)) n, τ) :=
  p_M_together_4 hn hn8 hw 5000 0 (Nat.zero_le _) (by omega)

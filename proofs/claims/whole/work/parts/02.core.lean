/-! THE ABSTRACT MACHINE: cells by numbers; the mutable part is ints and longs; what a step does, and that the machine does it -/
abbrev am_T : Type := (Nat → Nat → Int32) × (Nat → Nat → Int64)
abbrev am_S : Type := Nat × am_T × (Nat → Nat → Option Nat)
abbrev am_G : Type := Nat × va_G × (Nat → ClassId) × (Nat → Nat)
def am_ad (g : am_G) (k : Nat) : Nat := if k < 1000 then g.1 + k else g.2.2.2 k
def am_rv (g : am_G) : Value → Value
  | .ref k => .ref (am_ad g k)
  | v => v
def am_fv (g : am_G) (σ : am_S) (k j : Nat) (t : FieldType) : Value := match t with
  | .int => .int (σ.2.1.1 k j)
  | .boolean => .int (σ.2.1.1 k j)
  | .long => .long (σ.2.1.2 k j)
  | _ => va_rf ((σ.2.2 k j).map (am_ad g))
def am_fs (g : am_G) (σ : am_S) (k ci : Nat) : List Value := (List.range (am_nf ci)).map (fun j => am_fv g σ k j (am_ty ci j))
def am_elS (g : am_G) (σ : am_S) (k : Nat) (sh : Nat × Nat) : va_E := match sh with
  | (0, ci) => .inr (ci, am_fs g σ k ci)
  | (1, n) => .inl (g.2.2.1 1, n, .inl (σ.2.1.1 k))
  | (2, n) => .inl (g.2.2.1 2, n, .inl (σ.2.1.1 k))
  | (3, n) => .inl (g.2.2.1 3, n, .inr (.inl (σ.2.1.2 k)))
  | (t, n) => .inl (g.2.2.1 t, n, .inr (.inr (.inr (.inr (fun j => (σ.2.2 k j).map (am_ad g))))))
def am_el (g : am_G) (σ : am_S) (k : Nat) : va_E := am_elS g σ k (am_sh k)
def am_ws (g : am_G) (σ : am_S) : va_W := (List.range σ.1).map (fun k => (g.1 + k, am_el g σ k))
/-- the heap holds the world; its size is known while cells are made -/
def am_I (g : am_G) (σ : am_S) (H : Heap) : Prop := (σ.1 ≤ 1000 ∧ g.1 + σ.1 ≤ H.size) ∧ (σ.1 < am_NN → H.size = g.1 + σ.1) ∧ va_P g.2.1 am_cl (am_ws g σ) H
def am_tys (g : am_G) : List (ClassId × FieldType) := [(g.2.2.1 1, .int), (g.2.2.1 2, .boolean), (g.2.2.1 3, .long), (g.2.2.1 4, .object "ShareHouse$Lease"), (g.2.2.1 5, .array .int)]
/-- writing -/
def am_si (τ : am_T) (k j : Nat) (v : Int32) : am_T := (fun a b => if a = k ∧ b = j then v else τ.1 a b, τ.2)
def am_sl (τ : am_T) (k j : Nat) (v : Int64) : am_T := (τ.1, fun a b => if a = k ∧ b = j then v else τ.2 a b)
theorem am_ws_at {g : am_G} {σ : am_S} {k : Nat} (h : k < σ.1) : (am_ws g σ)[k]? = some (g.1 + k, am_el g σ k) := by
  simp [am_ws, h]
theorem am_ws_len {g : am_G} {σ : am_S} : (am_ws g σ).length = σ.1 := by simp [am_ws]
theorem am_ws_D {g : am_G} {σ : am_S} : va_D (fun q => g.1 ≤ q) (am_ws g σ) := by
  have key : ∀ (k : Nat) (q : Nat × va_E), (am_ws g σ)[k]? = some q → q.1 = g.1 + k := by
    intro k q h
    have hl : k < σ.1 := by
      have := (List.getElem?_eq_some_iff.mp h).1
      rwa [am_ws_len] at this
    rw [am_ws_at hl] at h
    cases h
    rfl
  refine ⟨fun i j p q hi hj e => ?_, fun k q h => ?_⟩
  · rw [key i p hi, key j q hj] at e; omega
  · rw [key k q h]; exact Nat.le_add_right _ _
theorem am_ws_set {g : am_G} {σ σ' : am_S} {k : Nat} (h : k < σ.1) (hn : σ'.1 = σ.1) (ho : ∀ j, j ≠ k → am_el g σ' j = am_el g σ j) : (am_ws g σ).set k (g.1 + k, am_el g σ' k) = am_ws g σ' := by
  apply List.ext_getElem?
  intro j
  by_cases hj : j = k
  · subst hj
    rw [List.getElem?_set_self (by rw [am_ws_len]; exact h), am_ws_at (by rw [hn]; exact h)]
  · rw [List.getElem?_set_ne (Ne.symm hj)]
    by_cases hl : j < σ.1
    · rw [am_ws_at hl, am_ws_at (by rw [hn]; exact hl), ho j hj]
    · rw [List.getElem?_eq_none (by rw [am_ws_len]; omega), List.getElem?_eq_none (by rw [am_ws_len]; omega)]
theorem am_I_set {g : am_G} {σ σ' : am_S} {k : Nat} {H H1 : Heap} {e : va_E} (hI : am_I g σ H) (h : k < σ.1) (hn : σ'.1 = σ.1) (ho : ∀ j, j ≠ k → am_el g σ' j = am_el g σ j) (he : e = am_el g σ' k) (hz : H1.size = H.size) (hP : va_P g.2.1 am_cl ((am_ws g σ).set k (g.1 + k, e)) H1) : am_I g σ' H1 := by
  subst he
  rw [am_ws_set h hn ho] at hP
  exact ⟨by rw [hn, hz]; exact hI.1, by rw [hn, hz]; exact hI.2.1, hP⟩
/-- locals -/
def am_lg : List (Nat × Value) → Nat → Option Value
  | [], _ => none
  | (k, v) :: t, i => bif Nat.beq k i then some v else am_lg t i
def am_l1 (lv : List (Nat × Value)) (i : Nat) (v : Value) : List (Nat × Value) := (i, v) :: lv.filter (fun q => !(q.1 == i) && !(q.1 + 1 == i && q.2.category == 2))
def am_l2 (lv : List (Nat × Value)) (i : Nat) (v : Value) : List (Nat × Value) := (i, v) :: lv.filter (fun q => !(q.1 == i) && (!(q.1 == i + 1) && !(q.1 + 1 == i && q.2.category == 2)))
def am_ml (g : am_G) (lv : List (Nat × Value)) : List (Nat × Value) := lv.map (fun q => (q.1, am_rv g q.2))
theorem am_rv_cat (g : am_G) (v : Value) : (am_rv g v).category = v.category := by cases v <;> rfl
theorem am_lg_mem {lv : List (Nat × Value)} {i : Nat} {v : Value} (h : am_lg lv i = some v) : (i, v) ∈ lv := by
  induction lv with
  | nil => cases h
  | cons q t ih =>
    obtain ⟨k, w⟩ := q
    by_cases e : k = i
    · subst e
      have : am_lg ((k, w) :: t) k = some w := by simp [am_lg]
      rw [this] at h
      cases h
      exact List.mem_cons_self
    · have hb : Nat.beq k i = false := by
        cases hh : Nat.beq k i with
        | false => rfl
        | true => exact absurd (Nat.eq_of_beq_eq_true hh) e
      have : am_lg ((k, w) :: t) i = am_lg t i := by simp [am_lg, hb]
      rw [this] at h
      exact List.mem_cons_of_mem _ (ih h)
theorem am_lg_at {g : am_G} {ls : Array Slot} {nL : Nat} {lv : List (Nat × Value)} {i : Nat} {v : Value} (hl : lv_has ls nL (am_ml g lv)) (h : am_lg lv i = some v) : ls[i]? = some (.val (am_rv g v)) :=
  hl.2.2 (i, am_rv g v) (List.mem_map.mpr ⟨(i, v), am_lg_mem h, rfl⟩)
theorem am_lg_get {g : am_G} {lv : List (Nat × Value)} {i : Nat} {v : Value} (h : am_lg lv i = some v) : ∃ k : Nat, (am_ml g lv)[k]? = some (i, am_rv g v) := by
  obtain ⟨k, hk⟩ := List.getElem?_of_mem (am_lg_mem h)
  exact ⟨k, by simp [am_ml, hk]⟩
theorem am_ml_1 {g : am_G} {lv : List (Nat × Value)} {i : Nat} {v : Value} : (i, am_rv g v) :: (am_ml g lv).filter (fun q => !(q.1 == i) && !(q.1 + 1 == i && q.2.category == 2)) = am_ml g (am_l1 lv i v) := by
  simp only [am_ml, am_l1, List.map_cons, List.filter_map]
  congr 2
  apply List.filter_congr
  intro q _
  simp [Function.comp, am_rv_cat]
theorem am_ml_2 {g : am_G} {lv : List (Nat × Value)} {i : Nat} {v : Value} : (i, am_rv g v) :: (am_ml g lv).filter (fun q => !(q.1 == i) && (!(q.1 == i + 1) && !(q.1 + 1 == i && q.2.category == 2))) = am_ml g (am_l2 lv i v) := by
  simp only [am_ml, am_l2, List.map_cons, List.filter_map]
  congr 2
  apply List.filter_congr
  intro q _
  simp [Function.comp, am_rv_cat]

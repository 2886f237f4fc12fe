/-! A word of these kinds stays true when one class record is added behind the others (own text). -/
def rf_add (vm : Vm) (r : Class) : Vm := { vm with classes := vm.classes.push r }
theorem rf_find {vm vm' : Vm} {r : Class} (h : vm'.classes = vm.classes.push r) {n : String} {c : ClassId} (hf : vm.findClass n = some c) : vm'.findClass n = some c := by
  unfold Vm.findClass at *
  rw [h, Array.findIdx?_push, hf]
  rfl
theorem rf_get {vm vm' : Vm} {r : Class} (h : vm'.classes = vm.classes.push r) {c : ClassId} {k : Class} (hk : vm.classes[c]? = some k) : vm'.classes[c]? = some k := by
  have hl : c < vm.classes.size := (Array.getElem?_eq_some_iff.mp hk).1
  rw [h, Array.getElem?_push, if_neg (Nat.ne_of_lt hl)]
  exact hk
theorem rf_cls {vm vm' : Vm} {r : Class} (h : vm'.classes = vm.classes.push r) {n : String} {k : Class} (hy : (vm.findClass n).bind (vm.classes[·]?) = some k) : (vm'.findClass n).bind (vm'.classes[·]?) = some k := by
  obtain ⟨c, hc, hk⟩ := Option.bind_eq_some_iff.mp hy
  exact Option.bind_eq_some_iff.mpr ⟨c, rf_find h hc, rf_get h hk⟩
theorem rf_method {vm vm' : Vm} {r : Class} (h : vm'.classes = vm.classes.push r) {m : MethodId} {y : Method} (hy : vm.method? m = some y) : vm'.method? m = some y := by
  unfold Vm.method? at *
  obtain ⟨k, hk, hm⟩ := Option.bind_eq_some_iff.mp hy
  exact Option.bind_eq_some_iff.mpr ⟨k, rf_get h hk, hm⟩
theorem rf_named {s s' : State} {r : Class} (h : s'.vm.classes = s.vm.classes.push r) {x : MethodName} {m : MethodId} (hy : s.methodNamed? x = some m) : s'.methodNamed? x = some m := by
  unfold State.methodNamed? at *
  obtain ⟨c, hc, h2⟩ := Option.bind_eq_some_iff.mp hy
  obtain ⟨k, hk, h3⟩ := Option.bind_eq_some_iff.mp h2
  exact Option.bind_eq_some_iff.mpr ⟨c, rf_find h hc, Option.bind_eq_some_iff.mpr ⟨k, rf_get h hk, h3⟩⟩
theorem rf_meth {s s' : State} {r : Class} (h : s'.vm.classes = s.vm.classes.push r) {x : MethodName} {y : Method} (hy : (s.methodNamed? x).bind s.vm.method? = some y) : (s'.methodNamed? x).bind s'.vm.method? = some y := by
  obtain ⟨m, hm, h2⟩ := Option.bind_eq_some_iff.mp hy
  exact Option.bind_eq_some_iff.mpr ⟨m, rf_named h hm, rf_method h h2⟩
theorem rf_foundAt {vm : Vm} {n : String} {c : ClassId} (h : vm.findClass n = some c) : ∃ k, vm.classes[c]? = some k := by
  unfold Vm.findClass at h
  obtain ⟨hl, _⟩ := Array.findIdx?_eq_some_iff_getElem.mp h
  exact ⟨vm.classes[c], Array.getElem?_eq_getElem hl⟩
theorem rf_lt {vm : Vm} {c : ClassId} {k : Class} (h : vm.classes[c]? = some k) : c < vm.classes.size := (Array.getElem?_eq_some_iff.mp h).1
theorem rf_pool {s s' : State} {r : Class} (h : s'.vm.classes = s.vm.classes.push r) {n : String} {d : ClassId} (hd : s.vm.findClass n = some d) : s'.poolOf? n = s.poolOf? n := by
  obtain ⟨k, hk⟩ := rf_foundAt hd
  simp only [State.poolOf?, hd, rf_find h hd, Option.bind_eq_bind, Option.bind_some, hk, rf_get h hk]
theorem rf_names {s s' : State} {r : Class} (h : s'.vm.classes = s.vm.classes.push r) {n : String} {d : ClassId} (hd : s.vm.findClass n = some d) (i : Nat) (w : Names) : s'.names n i w = s.names n i w := by
  simp only [State.names, rf_pool h hd]
theorem rf_entry {s s' : State} {r : Class} (h : s'.vm.classes = s.vm.classes.push r) {n : String} {d : ClassId} (hd : s.vm.findClass n = some d) (i : Nat) : s'.memberEntry? n i = s.memberEntry? n i := by
  simp only [State.memberEntry?, rf_pool h hd]
theorem rf_open' {s s' : State} {r : Class} (h : s'.vm.classes = s.vm.classes.push r) {n : String} {d : ClassId} (hd : s.vm.findClass n = some d) (i : Nat) (w : Resolved) : s'.openOr n i w = s.openOr n i w := by
  obtain ⟨k, hk⟩ := rf_foundAt hd
  simp only [State.openOr, hd, rf_find h hd, Option.bind_some, hk, rf_get h hk]
theorem rf_resolved {s s' : State} {r : Class} (h : s'.vm.classes = s.vm.classes.push r) {n : String} {d : ClassId} (hd : s.vm.findClass n = some d) (i : Nat) : s'.resolvedAt? n i = s.resolvedAt? n i := by
  obtain ⟨k, hk⟩ := rf_foundAt hd
  simp only [State.resolvedAt?, hd, rf_find h hd, Option.bind_eq_bind, Option.bind_some, hk, rf_get h hk]
def rf_Low (vm : Vm) (rk : Nat → Nat) : Prop := ∀ (c : Nat) (k : Class), vm.classes[c]? = some k →
  rk c < vm.classes.size ∧ (∀ p, k.super = some p → p < vm.classes.size ∧ rk p < rk c) ∧ (∀ i, i ∈ k.interfaces.toList → i < vm.classes.size ∧ rk i < rk c) ∧ (k.methods.size = 0 ∨ (k.cf.map (·.majorVersion)).getD 0 ≥ 51)
theorem rf_eq {vm : Vm} {r : Class} {c : Nat} (hc : c < vm.classes.size) : (rf_add vm r).classes[c]? = vm.classes[c]? := by
  show (vm.classes.push r)[c]? = _
  rw [Array.getElem?_push, if_neg (Nat.ne_of_lt hc)]
theorem rf_size {vm : Vm} {r : Class} : (rf_add vm r).classes.size = vm.classes.size + 1 := by
  show (vm.classes.push r).size = _
  rw [Array.size_push]
theorem rf_subAux {vm : Vm} {r : Class} {rk : Nat → Nat} (L : rf_Low vm rk) (t : ClassId) : ∀ (f f' : Nat) (s : ClassId), s < vm.classes.size → rk s < f → rk s < f' → (rf_add vm r).isSubclassAux f' s t = vm.isSubclassAux f s t := by
  intro f
  induction f with
  | zero => intro f' s _ h _; exact absurd h (Nat.not_lt_zero _)
  | succ f ih =>
    intro f' s hs h h'
    cases f' with
    | zero => exact absurd h' (Nat.not_lt_zero _)
    | succ f' =>
      simp only [Vm.isSubclassAux, rf_eq hs]
      cases hk : vm.classes[s]? with
      | none => rfl
      | some k =>
        cases hp : k.super with
        | none => simp only [hp]
        | some p =>
          obtain ⟨h1, h2⟩ := (L s k hk).2.1 p hp
          simp only [hp]
          rw [ih f' p h1 (by omega) (by omega)]
theorem rf_sub {vm : Vm} {r : Class} {rk : Nat → Nat} (L : rf_Low vm rk) {s : ClassId} (hs : s < vm.classes.size) (t : ClassId) : (rf_add vm r).isSubclass s t = vm.isSubclass s t := by
  have hk : vm.classes[s]? = some vm.classes[s] := Array.getElem?_eq_getElem hs
  have h := (L s _ hk).1
  unfold Vm.isSubclass
  rw [rf_size]
  exact rf_subAux L t _ _ s hs (by omega) (by omega)
theorem rf_magicAux {vm : Vm} {r : Class} {rk : Nat → Nat} (L : rf_Low vm rk) : ∀ (f f' : Nat) (c : Option ClassId), (∀ p, c = some p → p < vm.classes.size ∧ rk p < f ∧ rk p < f') → (rf_add vm r).belowMagic f' c = vm.belowMagic f c := by
  intro f
  induction f with
  | zero =>
    intro f' c h
    cases c with
    | none => cases f' <;> rfl
    | some p => exact absurd (h p rfl).2.1 (Nat.not_lt_zero _)
  | succ f ih =>
    intro f' c h
    cases c with
    | none => cases f' <;> rfl
    | some p =>
      obtain ⟨h1, h2, h3⟩ := h p rfl
      cases f' with
      | zero => exact absurd h3 (Nat.not_lt_zero _)
      | succ f' =>
        simp only [Vm.belowMagic, rf_eq h1]
        cases hk : vm.classes[p]? with
        | none => rfl
        | some k =>
          simp only [Option.any_some]
          rw [ih f' k.super (fun q hq => by obtain ⟨h4, h5⟩ := (L p k hk).2.1 q hq; exact ⟨h4, by omega, by omega⟩)]
theorem rf_access {vm : Vm} {r : Class} {rk : Nat → Nat} (L : rf_Low vm rk) {d : ClassId} {dk : Class} (hd : vm.classes[d]? = some dk) (p : Platform) (ck : Class) : (rf_add vm r).classAccessible p ck dk = vm.classAccessible p ck dk := by
  have hm : (rf_add vm r).magic dk = vm.magic dk := by
    unfold Vm.magic
    rw [rf_size, rf_magicAux L (vm.classes.size + 1) (vm.classes.size + 1 + 1) dk.super (fun q hq => by
      obtain ⟨h1, h2⟩ := (L d dk hd).2.1 q hq
      have h3 := (L d dk hd).1
      exact ⟨h1, by omega, by omega⟩)]
  have hb : (rf_add vm r).moduleBar ck dk = vm.moduleBar ck dk := rfl
  simp only [Vm.classAccessible, hm, hb]
theorem rf_links {s s' : State} {r : Class} {rk : Nat → Nat} (L : rf_Low s.vm rk) (hv : s'.vm = rf_add s.vm r) {n m : String} {i : Nat} {b : Bool} (h : s.classLinks n i m = some b) : s'.classLinks n i m = some b := by
  have hp : s'.vm.classes = s.vm.classes.push r := by rw [hv]; rfl
  unfold State.classLinks at h ⊢
  split at h
  · rename_i d c hd hc
    obtain ⟨dk, hdk⟩ := rf_foundAt hd
    obtain ⟨ck, hck⟩ := rf_foundAt hc
    simp only [rf_find hp hd, rf_find hp hc, rf_get hp hdk, rf_get hp hck, Option.bind_eq_bind, Option.bind_some, rf_names hp hd, rf_open' hp hd]
    simp only [hdk, hck, Option.bind_eq_bind, Option.bind_some] at h
    rw [hv, rf_access L hdk]
    exact h
  · cases h
theorem rf_foldl {α β : Type} {f g : β → α → β} : ∀ (l : List α) (b : β), (∀ b a, a ∈ l → f b a = g b a) → l.foldl f b = l.foldl g b := by
  intro l
  induction l with
  | nil => intro b _; rfl
  | cons a l ih =>
    intro b h
    simp only [List.foldl_cons]
    rw [h b a (List.mem_cons_self ..)]
    exact ih _ (fun b' a' ha' => h b' a' (List.mem_cons_of_mem _ ha'))
theorem rf_fieldAux {vm : Vm} {r : Class} {rk : Nat → Nat} (L : rf_Low vm rk) (name : String) (type : FieldType) : ∀ (f f' : Nat) (w : List ClassId) (c : ClassId), c < vm.classes.size → rk c < f → rk c < f' → lookupFieldAux (rf_add vm r) name type f' w c = lookupFieldAux vm name type f w c := by
  intro f
  induction f with
  | zero => intro f' w c _ h _; exact absurd h (Nat.not_lt_zero _)
  | succ f ih =>
    intro f' w c hc h h'
    cases f' with
    | zero => exact absurd h' (Nat.not_lt_zero _)
    | succ f' =>
      simp only [lookupFieldAux, rf_eq hc]
      cases hk : vm.classes[c]? with
      | none => rfl
      | some k =>
        have hf : k.interfaces.foldl (fun (q : Option (ClassId × Nat) × List ClassId) i => if q.1.isSome then (q.1, q.2) else lookupFieldAux (rf_add vm r) name type f' q.2 i) (none, c :: w) =
            k.interfaces.foldl (fun (q : Option (ClassId × Nat) × List ClassId) i => if q.1.isSome then (q.1, q.2) else lookupFieldAux vm name type f q.2 i) (none, c :: w) := by
          rw [← Array.foldl_toList, ← Array.foldl_toList]
          apply rf_foldl
          intro q i hi
          obtain ⟨h1, h2⟩ := (L c k hk).2.2.1 i hi
          simp only [ih f' q.2 i h1 (by omega) (by omega)]
        simp only [hf]
        split
        · rfl
        · split
          · rfl
          · split
            · rename_i p _ hp
              obtain ⟨h1, h2⟩ := (L c k hk).2.1 p hp
              exact ih f' _ p h1 (by omega) (by omega)
            · rfl
theorem rf_fieldFound {s s' : State} {r : Class} {rk : Nat → Nat} (L : rf_Low s.vm rk) (hv : s'.vm = rf_add s.vm r) {cls name desc : String} {q : ClassId × Class × Nat × Field} (h : s.fieldFound? cls name desc = some q) : s'.fieldFound? cls name desc = some q := by
  have hp : s'.vm.classes = s.vm.classes.push r := by rw [hv]; rfl
  obtain ⟨c, k, i, f⟩ := q
  simp only [State.fieldFound?, Option.bind_eq_bind, Option.bind_eq_some_iff, Option.pure_def, Option.some.injEq, Prod.mk.injEq, Prod.exists] at h
  obtain ⟨t, ht, c₀, hc₀, c₁, i₁, hl, k₁, hk₁, f₁, hf₁, rfl, rfl, rfl, rfl⟩ := h
  obtain ⟨k₀, hk₀⟩ := rf_foundAt hc₀
  have hl' : lookupField s'.vm name t (s'.vm.classes.size + 1) c₀ = some (c₁, i₁) := by
    have h1 := (L c₀ k₀ hk₀).1
    rw [← hl]
    unfold lookupField
    rw [hv, rf_size, rf_fieldAux L name t (s.vm.classes.size + 1) (s.vm.classes.size + 1 + 1) [] c₀ (rf_lt hk₀) (by omega) (by omega)]
  simp [State.fieldFound?, ht, rf_find hp hc₀, hl', rf_get hp hk₁, hf₁]
theorem rf_declares {vm : Vm} {r : Class} {rk : Nat → Nat} (L : rf_Low vm rk) (slot : Nat) : ∀ (f : Nat) (c : ClassId), c < vm.classes.size → Jmm.declares? (rf_add vm r) slot f c = Jmm.declares? vm slot f c := by
  intro f
  induction f with
  | zero => intro c _; rfl
  | succ f ih =>
    intro c hc
    simp only [Jmm.declares?, rf_eq hc]
    cases hk : vm.classes[c]? with
    | none => rfl
    | some k =>
      simp only [Option.bind_eq_bind, Option.bind_some]
      split
      · rfl
      · cases hp : k.super with
        | none => rfl
        | some p =>
          simp only [Option.bind_some]
          exact ih p ((L c k hk).2.1 p hp).1
theorem rf_plain {vm : Vm} {r : Class} {rk : Nat → Nat} (L : rf_Low vm rk) {c t d : ClassId} {ck dk : Class} (ht : t < vm.classes.size) (hd : d < vm.classes.size) (flags : Nat) : plainAccess (rf_add vm r) flags c ck t d dk = plainAccess vm flags c ck t d dk := by
  simp only [plainAccess, rf_sub L ht, rf_sub L hd]

section
/-! A word of these kinds stays true when one class record is added behind the others (own text). -/
def rf_add (vm : Vm) (r : Class) : Vm := { vm with classes := vm.classes.push r }
theorem rf_find {vm vm' : Vm} {r : Class} (h : vm'.classes = vm.classes.push r) {n : String} {c : ClassId} (hf : vm.findClass n = some c) : vm'.findClass n = some c := by
  unfold Vm.findClass at *
  rw [h, Array.findIdx?_push, hf]
  rfl
theorem rf_get {vm vm' : Vm} {r : Class} (h : vm'.classes = vm.classes.push r) {c : ClassId} {k : Class} (hk : vm.classes[c]? = some k) : vm'.classes[c]? = some k := by
  have hl : c < vm.classes.size := (Array.getElem?_eq_some_iff.mp hk).1
  rw [h, Array.getElem?_push, if_neg (Nat.ne_of_lt hl)]
  exact hk
theorem rf_cls {vm vm' : Vm} {r : Class} (h : vm'.classes = vm.classes.push r) {n : String} {k : Class} (hy : (vm.findClass n).bind (vm.classes[·]?) = some k) : (vm'.findClass n).bind (vm'.classes[·]?) = some k := by
  obtain ⟨c, hc, hk⟩ := Option.bind_eq_some_iff.mp hy
  exact Option.bind_eq_some_iff.mpr ⟨c, rf_find h hc, rf_get h hk⟩
theorem rf_method {vm vm' : Vm} {r : Class} (h : vm'.classes = vm.classes.push r) {m : MethodId} {y : Method} (hy : vm.method? m = some y) : vm'.method? m = some y := by
  unfold Vm.method? at *
  obtain ⟨k, hk, hm⟩ := Option.bind_eq_some_iff.mp hy
  exact Option.bind_eq_some_iff.mpr ⟨k, rf_get h hk, hm⟩
theorem rf_named {s s' : State} {r : Class} (h : s'.vm.classes = s.vm.classes.push r) {x : MethodName} {m : MethodId} (hy : s.methodNamed? x = some m) : s'.methodNamed? x = some m := by
  unfold State.methodNamed? at *
  obtain ⟨c, hc, h2⟩ := Option.bind_eq_some_iff.mp hy
  obtain ⟨k, hk, h3⟩ := Option.bind_eq_some_iff.mp h2
  exact Option.bind_eq_some_iff.mpr ⟨c, rf_find h hc, Option.bind_eq_some_iff.mpr ⟨k, rf_get h hk, h3⟩⟩
theorem rf_meth {s s' : State} {r : Class} (h : s'.vm.classes = s.vm.classes.push r) {x : MethodName} {y : Method} (hy : (s.methodNamed? x).bind s.vm.method? = some y) : (s'.methodNamed? x).bind s'.vm.method? = some y := by
  obtain ⟨m, hm, h2⟩ := Option.bind_eq_some_iff.mp hy
  exact Option.bind_eq_some_iff.mpr ⟨m, rf_named h hm, rf_method h h2⟩
theorem rf_foundAt {vm : Vm} {n : String} {c : ClassId} (h : vm.findClass n = some c) : ∃ k, vm.classes[c]? = some k := by
  unfold Vm.findClass at h
  obtain ⟨hl, _⟩ := Array.findIdx?_eq_some_iff_getElem.mp h
  exact ⟨vm.classes[c], Array.getElem?_eq_getElem hl⟩
theorem rf_lt {vm : Vm} {c : ClassId} {k : Class} (h : vm.classes[c]? = some k) : c < vm.classes.size := (Array.getElem?_eq_some_iff.mp h).1
theorem rf_pool {s s' : State} {r : Class} (h : s'.vm.classes = s.vm.classes.push r) {n : String} {d : ClassId} (hd : s.vm.findClass n = some d) : s'.poolOf? n = s.poolOf? n := by
  obtain ⟨k, hk⟩ := rf_foundAt hd
  simp only [State.poolOf?, hd, rf_find h hd, Option.bind_eq_bind, Option.bind_some, hk, rf_get h hk]
theorem rf_names {s s' : State} {r : Class} (h : s'.vm.classes = s.vm.classes.push r) {n : String} {d : ClassId} (hd : s.vm.findClass n = some d) (i : Nat) (w : Names) : s'.names n i w = s.names n i w := by
  simp only [State.names, rf_pool h hd]
theorem rf_entry {s s' : State} {r : Class} (h : s'.vm.classes = s.vm.classes.push r) {n : String} {d : ClassId} (hd : s.vm.findClass n = some d) (i : Nat) : s'.memberEntry? n i = s.memberEntry? n i := by
  simp only [State.memberEntry?, rf_pool h hd]
theorem rf_open' {s s' : State} {r : Class} (h : s'.vm.classes = s.vm.classes.push r) {n : String} {d : ClassId} (hd : s.vm.findClass n = some d) (i : Nat) (w : Resolved) : s'.openOr n i w = s.openOr n i w := by
  obtain ⟨k, hk⟩ := rf_foundAt hd
  simp only [State.openOr, hd, rf_find h hd, Option.bind_some, hk, rf_get h hk]
theorem rf_resolved {s s' : State} {r : Class} (h : s'.vm.classes = s.vm.classes.push r) {n : String} {d : ClassId} (hd : s.vm.findClass n = some d) (i : Nat) : s'.resolvedAt? n i = s.resolvedAt? n i := by
  obtain ⟨k, hk⟩ := rf_foundAt hd
  simp only [State.resolvedAt?, hd, rf_find h hd, Option.bind_eq_bind, Option.bind_some, hk, rf_get h hk]
def rf_Low (vm : Vm) (rk : Nat → Nat) : Prop := ∀ (c : Nat) (k : Class), vm.classes[c]? = some k →
  rk c < vm.classes.size ∧ (∀ p, k.super = some p → p < vm.classes.size ∧ rk p < rk c) ∧ (∀ i, i ∈ k.interfaces.toList → i < vm.classes.size ∧ rk i < rk c) ∧ (k.methods.size = 0 ∨ (k.cf.map (·.majorVersion)).getD 0 ≥ 51)
theorem rf_eq {vm : Vm} {r : Class} {c : Nat} (hc : c < vm.classes.size) : (rf_add vm r).classes[c]? = vm.classes[c]? := by
  show (vm.classes.push r)[c]? = _
  rw [Array.getElem?_push, if_neg (Nat.ne_of_lt hc)]
theorem rf_size {vm : Vm} {r : Class} : (rf_add vm r).classes.size = vm.classes.size + 1 := by
  show (vm.classes.push r).size = _
  rw [Array.size_push]
theorem rf_subAux {vm : Vm} {r : Class} {rk : Nat → Nat} (L : rf_Low vm rk) (t : ClassId) : ∀ (f f' : Nat) (s : ClassId), s < vm.classes.size → rk s < f → rk s < f' → (rf_add vm r).isSubclassAux f' s t = vm.isSubclassAux f s t := by
  intro f
  induction f with
  | zero => intro f' s _ h _; exact absurd h (Nat.not_lt_zero _)
  | succ f ih =>
    intro f' s hs h h'
    cases f' with
    | zero => exact absurd h' (Nat.not_lt_zero _)
    | succ f' =>
      simp only [Vm.isSubclassAux, rf_eq hs]
      cases hk : vm.classes[s]? with
      | none => rfl
      | some k =>
        cases hp : k.super with
        | none => simp only [hp]
        | some p =>
          obtain ⟨h1, h2⟩ := (L s k hk).2.1 p hp
          simp only [hp]
          rw [ih f' p h1 (by omega) (by omega)]
theorem rf_sub {vm : Vm} {r : Class} {rk : Nat → Nat} (L : rf_Low vm rk) {s : ClassId} (hs : s < vm.classes.size) (t : ClassId) : (rf_add vm r).isSubclass s t = vm.isSubclass s t := by
  have hk : vm.classes[s]? = some vm.classes[s] := Array.getElem?_eq_getElem hs
  have h := (L s _ hk).1
  unfold Vm.isSubclass
  rw [rf_size]
  exact rf_subAux L t _ _ s hs (by omega) (by omega)
theorem rf_magicAux {vm : Vm} {r : Class} {rk : Nat → Nat} (L : rf_Low vm rk) : ∀ (f f' : Nat) (c : Option ClassId), (∀ p, c = some p → p < vm.classes.size ∧ rk p < f ∧ rk p < f') → (rf_add vm r).belowMagic f' c = vm.belowMagic f c := by
  intro f
  induction f with
  | zero =>
    intro f' c h
    cases c with
    | none => cases f' <;> rfl
    | some p => exact absurd (h p rfl).2.1 (Nat.not_lt_zero _)
  | succ f ih =>
    intro f' c h
    cases c with
    | none => cases f' <;> rfl
    | some p =>
      obtain ⟨h1, h2, h3⟩ := h p rfl
      cases f' with
      | zero => exact absurd h3 (Nat.not_lt_zero _)
      | succ f' =>
        simp only [Vm.belowMagic, rf_eq h1]
        cases hk : vm.classes[p]? with
        | none => rfl
        | some k =>
          simp only [Option.any_some]
          rw [ih f' k.super (fun q hq => by obtain ⟨h4, h5⟩ := (L p k hk).2.1 q hq; exact ⟨h4, by omega, by omega⟩)]
theorem rf_access {vm : Vm} {r : Class} {rk : Nat → Nat} (L : rf_Low vm rk) {d : ClassId} {dk : Class} (hd : vm.classes[d]? = some dk) (p : Platform) (ck : Class) : (rf_add vm r).classAccessible p ck dk = vm.classAccessible p ck dk := by
  have hm : (rf_add vm r).magic dk = vm.magic dk := by
    unfold Vm.magic
    rw [rf_size, rf_magicAux L (vm.classes.size + 1) (vm.classes.size + 1 + 1) dk.super (fun q hq => by
      obtain ⟨h1, h2⟩ := (L d dk hd).2.1 q hq
      have h3 := (L d dk hd).1
      exact ⟨h1, by omega, by omega⟩)]
  have hb : (rf_add vm r).moduleBar ck dk = vm.moduleBar ck dk := rfl
  simp only [Vm.classAccessible, hm, hb]
theorem rf_links {s s' : State} {r : Class} {rk : Nat → Nat} (L : rf_Low s.vm rk) (hv : s'.vm = rf_add s.vm r) {n m : String} {i : Nat} {b : Bool} (h : s.classLinks n i m = some b) : s'.classLinks n i m = some b := by
  have hp : s'.vm.classes = s.vm.classes.push r := by rw [hv]; rfl
  unfold State.classLinks at h ⊢
  split at h
  · rename_i d c hd hc
    obtain ⟨dk, hdk⟩ := rf_foundAt hd
    obtain ⟨ck, hck⟩ := rf_foundAt hc
    simp only [rf_find hp hd, rf_find hp hc, rf_get hp hdk, rf_get hp hck, Option.bind_eq_bind, Option.bind_some, rf_names hp hd, rf_open' hp hd]
    simp only [hdk, hck, Option.bind_eq_bind, Option.bind_some] at h
    rw [hv, rf_access L hdk]
    exact h
  · cases h
theorem rf_foldl {α β : Type} {f g : β → α → β} : ∀ (l : List α) (b : β), (∀ b a, a ∈ l → f b a = g b a) → l.foldl f b = l.foldl g b := by
  intro l
  induction l with
  | nil => intro b _; rfl
  | cons a l ih =>
    intro b h
    simp only [List.foldl_cons]
    rw [h b a (List.mem_cons_self ..)]
    exact ih _ (fun b' a' ha' => h b' a' (List.mem_cons_of_mem _ ha'))
theorem rf_fieldAux {vm : Vm} {r : Class} {rk : Nat → Nat} (L : rf_Low vm rk) (name : String) (type : FieldType) : ∀ (f f' : Nat) (w : List ClassId) (c : ClassId), c < vm.classes.size → rk c < f → rk c < f' → lookupFieldAux (rf_add vm r) name type f' w c = lookupFieldAux vm name type f w c := by
  intro f
  induction f with
  | zero => intro f' w c _ h _; exact absurd h (Nat.not_lt_zero _)
  | succ f ih =>
    intro f' w c hc h h'
    cases f' with
    | zero => exact absurd h' (Nat.not_lt_zero _)
    | succ f' =>
      simp only [lookupFieldAux, rf_eq hc]
      cases hk : vm.classes[c]? with
      | none => rfl
      | some k =>
        have hf : k.interfaces.foldl (fun (q : Option (ClassId × Nat) × List ClassId) i => if q.1.isSome then (q.1, q.2) else lookupFieldAux (rf_add vm r) name type f' q.2 i) (none, c :: w) =
            k.interfaces.foldl (fun (q : Option (ClassId × Nat) × List ClassId) i => if q.1.isSome then (q.1, q.2) else lookupFieldAux vm name type f q.2 i) (none, c :: w) := by
          rw [← Array.foldl_toList, ← Array.foldl_toList]
          apply rf_foldl
          intro q i hi
          obtain ⟨h1, h2⟩ := (L c k hk).2.2.1 i hi
          simp only [ih f' q.2 i h1 (by omega) (by omega)]
        simp only [hf]
        split
        · rfl
        · split
          · rfl
          · split
            · rename_i p _ hp
              obtain ⟨h1, h2⟩ := (L c k hk).2.1 p hp
              exact ih f' _ p h1 (by omega) (by omega)
            · rfl
theorem rf_fieldFound {s s' : State} {r : Class} {rk : Nat → Nat} (L : rf_Low s.vm rk) (hv : s'.vm = rf_add s.vm r) {cls name desc : String} {q : ClassId × Class × Nat × Field} (h : s.fieldFound? cls name desc = some q) : s'.fieldFound? cls name desc = some q := by
  have hp : s'.vm.classes = s.vm.classes.push r := by rw [hv]; rfl
  obtain ⟨c, k, i, f⟩ := q
  simp only [State.fieldFound?, Option.bind_eq_bind, Option.bind_eq_some_iff, Option.pure_def, Option.some.injEq, Prod.mk.injEq, Prod.exists] at h
  obtain ⟨t, ht, c₀, hc₀, c₁, i₁, hl, k₁, hk₁, f₁, hf₁, rfl, rfl, rfl, rfl⟩ := h
  obtain ⟨k₀, hk₀⟩ := rf_foundAt hc₀
  have hl' : lookupField s'.vm name t (s'.vm.classes.size + 1) c₀ = some (c₁, i₁) := by
    have h1 := (L c₀ k₀ hk₀).1
    rw [← hl]
    unfold lookupField
    rw [hv, rf_size, rf_fieldAux L name t (s.vm.classes.size + 1) (s.vm.classes.size + 1 + 1) [] c₀ (rf_lt hk₀) (by omega) (by omega)]
  simp [State.fieldFound?, ht, rf_find hp hc₀, hl', rf_get hp hk₁, hf₁]
theorem rf_declares {vm : Vm} {r : Class} {rk : Nat → Nat} (L : rf_Low vm rk) (slot : Nat) : ∀ (f : Nat) (c : ClassId), c < vm.classes.size → Jmm.declares? (rf_add vm r) slot f c = Jmm.declares? vm slot f c := by
  intro f
  induction f with
  | zero => intro c _; rfl
  | succ f ih =>
    intro c hc
    simp only [Jmm.declares?, rf_eq hc]
    cases hk : vm.classes[c]? with
    | none => rfl
    | some k =>
      simp only [Option.bind_eq_bind, Option.bind_some]
      split
      · rfl
      · cases hp : k.super with
        | none => rfl
        | some p =>
          simp only [Option.bind_some]
          exact ih p ((L c k hk).2.1 p hp).1
theorem rf_plain {vm : Vm} {r : Class} {rk : Nat → Nat} (L : rf_Low vm rk) {c t d : ClassId} {ck dk : Class} (ht : t < vm.classes.size) (hd : d < vm.classes.size) (flags : Nat) : plainAccess (rf_add vm r) flags c ck t d dk = plainAccess vm flags c ck t d dk := by
  simp only [plainAccess, rf_sub L ht, rf_sub L hd]
end
section
theorem rf_supIn {vm : Vm} {r : Class} {rk : Nat → Nat} (L : rf_Low vm rk) : ∀ (f : Nat) (c : ClassId), c < vm.classes.size → ∀ p, p ∈ (rf_add vm r).superclassesAux f c → p < vm.classes.size := by
  intro f
  induction f with
  | zero => intro c _ p h; cases h
  | succ f ih =>
    intro c hc p h
    simp only [Vm.superclassesAux, rf_eq hc] at h
    cases hk : vm.classes[c]? with
    | none => rw [hk] at h; cases h
    | some k =>
      rw [hk] at h
      cases hs : k.super with
      | none => simp [hs] at h
      | some q =>
        have hq := ((L c k hk).2.1 q hs).1
        simp only [Option.bind_some, hs, List.mem_cons] at h
        rcases h with h | h
        · rw [h]; exact hq
        · exact ih q hq p h
theorem rf_nonempty {k : Class} {n d : String} {i : Nat} (h : k.findMethod n d = some i) : k.methods.size ≠ 0 := by
  unfold Class.findMethod at h
  obtain ⟨hl, _⟩ := Array.findIdx?_eq_some_iff_getElem.mp h
  omega
theorem rf_refused {vm : Vm} {r : Class} {rk : Nat → Nat} (L : rf_Low vm rk) {c : ClassId} (hc : c < vm.classes.size) (name desc : String) : refusedOverriding {} (rf_add vm r) c name desc = false := by
  unfold refusedOverriding
  apply Bool.eq_false_iff.mpr
  intro h
  obtain ⟨⟨m, ab⟩, hz, hb⟩ := List.any_eq_true.mp h
  have hm := (List.of_mem_zip hz).1
  have hm1 := (List.mem_filter.mp hm).1
  have hx : ∃ k, vm.classes[m.cls]? = some k ∧ k.methods.size ≠ 0 := by
    rcases List.mem_append.mp hm1 with h1 | h1
    · obtain ⟨i, hi, rfl⟩ := Option.map_eq_some_iff.mp (Option.mem_toList.mp h1)
      obtain ⟨k, hk, hi'⟩ := Option.bind_eq_some_iff.mp hi
      rw [rf_eq hc] at hk
      exact ⟨k, hk, rf_nonempty hi'⟩
    · unfold superclassMethods at h1
      obtain ⟨p, hp, he⟩ := List.mem_filterMap.mp h1
      obtain ⟨i, hi, rfl⟩ := Option.map_eq_some_iff.mp he
      obtain ⟨k, hk, hi'⟩ := Option.bind_eq_some_iff.mp hi
      rw [rf_eq (rf_supIn L _ c hc p hp)] at hk
      exact ⟨k, hk, rf_nonempty hi'⟩
  obtain ⟨k, hk, hne⟩ := hx
  have hv : ((k.cf.map (·.majorVersion)).getD 0) ≥ 51 := by
    rcases (L _ k hk).2.2.2 with h1 | h1
    · exact absurd h1 hne
    · exact h1
  simp only [rf_eq (rf_lt hk), hk] at hb
  split at hb
  · rename_i k' ka a hk' _ _
    cases hk'
    have hd : decide ((k.cf.map (·.majorVersion)).getD 0 < ({} : Platform).transitiveOverrideSince) = false := decide_eq_false (by show ¬ _ < 51; omega)
    rw [hd] at hb
    cases hb
  · cases hb
theorem rf_select {s s' : State} {r : Class} {rk : Nat → Nat} (L : rf_Low s.vm rk) (hv : s'.vm = rf_add s.vm r) {x : MethodName} {m : MethodId} (hn : s.methodNamed? x = some m) : selectMethod {} s'.vm m.cls m = .method m := by
  have hp : s'.vm.classes = s.vm.classes.push r := by rw [hv]; rfl
  unfold State.methodNamed? at hn
  obtain ⟨c, hc, h2⟩ := Option.bind_eq_some_iff.mp hn
  obtain ⟨k, hk, h3⟩ := Option.bind_eq_some_iff.mp h2
  obtain ⟨i, hi, h4⟩ := Option.bind_eq_some_iff.mp h3
  cases h4
  have hi0 := hi
  unfold Class.findMethod at hi0
  obtain ⟨hl, hb, _⟩ := Array.findIdx?_eq_some_iff_getElem.mp hi0
  simp only [Bool.and_eq_true, beq_iff_eq] at hb
  have hme : s'.vm.method? ⟨c, i⟩ = some k.methods[i] := by
    unfold Vm.method?
    exact Option.bind_eq_some_iff.mpr ⟨k, rf_get hp hk, Array.getElem?_eq_getElem hl⟩
  have hi2 : k.findMethod (k.methods[i]).name (k.methods[i]).desc = some i := by rw [hb.1, hb.2]; exact hi
  unfold selectMethod
  simp only [hme]
  split
  · rfl
  · have hr : refusedOverriding {} s'.vm c (k.methods[i]).name (k.methods[i]).desc = false := by rw [hv]; exact rf_refused L (rf_lt hk) _ _
    simp only [hr, Bool.false_and, Bool.false_eq_true, if_false]
    have hs : selectInSuperclasses s'.vm ⟨c, i⟩ (k.methods[i]).name (k.methods[i]).desc (s'.vm.classes.size + 1) c = some ⟨c, i⟩ := by
      simp [selectInSuperclasses, rf_get hp hk, hi2]
    rw [hs]
def rf_plainCls (n : String) : Bool := n != "java/lang/invoke/MethodHandle" && n != "java/lang/invoke/VarHandle"
theorem rf_plainOk {n : String} (h : rf_plainCls n = true) : n ≠ "java/lang/invoke/MethodHandle" ∧ n ≠ "java/lang/invoke/VarHandle" := by
  simp only [rf_plainCls, Bool.and_eq_true, bne_iff_ne] at h
  exact h
theorem rf_host {vm : Vm} {r : Class} {m h : ClassId} (hy : vm.hostNow? m = some h) : (rf_add vm r).hostNow? m = some h := by
  have hp : (rf_add vm r).classes = vm.classes.push r := rfl
  unfold Vm.hostNow? at hy ⊢
  obtain ⟨k, hk, h1⟩ := Option.bind_eq_some_iff.mp hy
  refine Option.bind_eq_some_iff.mpr ⟨k, rf_get hp hk, ?_⟩
  split at h1
  · cases h1
  · rename_i hc
    rw [if_neg hc]
    generalize k.nestHost = o at h1 ⊢
    cases o with
    | some g => exact h1
    | none =>
      obtain ⟨cf, hcf, h2⟩ := Option.bind_eq_some_iff.mp h1
      refine Option.bind_eq_some_iff.mpr ⟨cf, hcf, ?_⟩
      generalize cf.attributes.findSome? _ = o2 at h2 ⊢
      cases o2 with
      | none => exact h2
      | some hi =>
        simp only at h2 ⊢
        generalize ((k.resolved[hi]?).join : Option Resolved) = w at h2 ⊢
        have tail : ∀ g : ClassId → Class → Option ClassId, ((cf.constantPool.className? hi).bind fun n => (vm.findClass n).bind fun hh => (vm.classes[hh]?).bind fun hk => g hh hk) = some h →
            ((cf.constantPool.className? hi).bind fun n => ((rf_add vm r).findClass n).bind fun hh => ((rf_add vm r).classes[hh]?).bind fun hk => g hh hk) = some h := by
          intro g hg
          obtain ⟨n, hn, h3⟩ := Option.bind_eq_some_iff.mp hg
          obtain ⟨hh, hfind, h4⟩ := Option.bind_eq_some_iff.mp h3
          obtain ⟨hk2, hget, h7⟩ := Option.bind_eq_some_iff.mp h4
          exact Option.bind_eq_some_iff.mpr ⟨n, hn, Option.bind_eq_some_iff.mpr ⟨hh, rf_find hp hfind, Option.bind_eq_some_iff.mpr ⟨hk2, rf_get hp hget, h7⟩⟩⟩
        cases w with
        | none => exact tail _ h2
        | some v => cases v <;> first
          | exact tail _ h2
          | cases h2
def rf_easy : Cond → Bool
  | .code .. => true
  | .instanceMethod .. => true
  | .privateMethod .. => true
  | .static .. => true
  | .native .. => true
  | .initialized .. => true
  | .instantiable .. => true
  | .soleField .. => true
  | .constant .. => true
  | .constantLong .. => true
  | .classLink .. => true
  | .fieldLink .. => true
  | .lays cls owner _ _ => cls == owner
  | .laysFinal cls owner _ _ => cls == owner
  | .selects cls x y => cls == x.cls && decide (x = y) && rf_plainCls cls
  | .methodLink _ _ x => (start1.about.methodNamed? x).isSome
  | .methodLinkNest _ _ x _ => (start1.about.methodNamed? x).isSome
  | _ => false
theorem rf_m {α : Type} {o o' : Option α} {f : α → Bool} (ho : ∀ y, o = some y → o' = some y) (h : (o.map f == some true) = true) : (o'.map f == some true) = true := by
  cases o with
  | none => cases h
  | some y => rw [ho y rfl]; exact h
theorem rf_fieldLink {a : Array Value} {s s' : State} {r : Class} {rk : Nat → Nat} (L : rf_Low s.vm rk) (hv : s'.vm = rf_add s.vm r) {cls ref name desc : String} {index : Nat} (h : (Cond.fieldLink cls index ref name desc).before a s = true) : (Cond.fieldLink cls index ref name desc).before a s' = true := by
  have hp : s'.vm.classes = s.vm.classes.push r := by rw [hv]; rfl
  have h1 : (Cond.fieldLink cls index ref name desc).value a s none s [] = some true := eq_of_beq h
  apply beq_iff_eq.mpr
  simp only [Cond.value] at h1 ⊢
  split at h1
  · rename_i ci b d c k i f t e1 e2 e3 e4
    simp only [Option.bind_eq_bind, Option.bind_eq_some_iff, Option.pure_def] at h1
    obtain ⟨linked, hl, dk, hdk, hb⟩ := h1
    obtain ⟨tk, htk⟩ := rf_foundAt e4
    rw [rf_entry hp e2, e1, rf_find hp e2, rf_fieldFound L hv e3, rf_find hp e4]
    simp only [Option.bind_eq_bind, rf_links L hv hl, rf_get hp hdk, Option.bind_some, Option.pure_def, rf_names hp e2, rf_open' hp e2]
    rw [hv, rf_plain L (rf_lt htk) (rf_lt hdk)]
    exact hb
  · cases h1
theorem rf_methodLink {a : Array Value} {s s' : State} {r : Class} {rk : Nat → Nat} (L : rf_Low s.vm rk) (hv : s'.vm = rf_add s.vm r) {cls : String} {x : MethodName} {index : Nat} (hn : (s.methodNamed? x).isSome = true) (h : (Cond.methodLink cls index x).before a s = true) : (Cond.methodLink cls index x).before a s' = true := by
  have hp : s'.vm.classes = s.vm.classes.push r := by rw [hv]; rfl
  have h1 : (Cond.methodLink cls index x).value a s none s [] = some true := eq_of_beq h
  apply beq_iff_eq.mpr
  simp only [Cond.value] at h1 ⊢
  split at h1
  · rename_i ci via d c m e1 e2 e3 e4
    simp only [Option.bind_eq_bind, Option.bind_eq_some_iff, Option.pure_def] at h1
    obtain ⟨linked, hl, dk, hdk, ck, hck, mk, hmk, meth, hmeth, hb⟩ := h1
    have hx : x.cls ≠ "java/lang/invoke/MethodHandle" ∧ x.cls ≠ "java/lang/invoke/VarHandle" := by
      have h2 := Option.some.inj hb
      simp only [Bool.and_eq_true, bne_iff_ne] at h2
      exact ⟨h2.1.1.1.2, h2.1.1.2⟩
    obtain ⟨m0, hm0⟩ := Option.isSome_iff_exists.mp hn
    have hm1 := State.methodFound?_of_named hm0 hx
    have hmm : m0 = m := Option.some.inj (hm1.symm.trans e4)
    subst hmm
    have hm2 := State.methodFound?_of_named (rf_named hp hm0) hx
    rw [rf_entry hp e2, e1, rf_find hp e2, rf_find hp e3, hm2]
    simp only [Option.bind_eq_bind, rf_links L hv hl, rf_get hp hdk, rf_get hp hck, rf_get hp hmk, rf_method hp hmeth, Option.bind_some, Option.pure_def, rf_names hp e2, rf_open' hp e2]
    rw [hv, rf_plain L (rf_lt hck) (rf_lt hdk)]
    exact hb
  · cases h1
theorem rf_methodLinkNest {a : Array Value} {s s' : State} {r : Class} {rk : Nat → Nat} (L : rf_Low s.vm rk) (hv : s'.vm = rf_add s.vm r) {cls host : String} {x : MethodName} {index : Nat} (hn : (s.methodNamed? x).isSome = true) (h : (Cond.methodLinkNest cls index x host).before a s = true) : (Cond.methodLinkNest cls index x host).before a s' = true := by
  have hp : s'.vm.classes = s.vm.classes.push r := by rw [hv]; rfl
  have h1 : (Cond.methodLinkNest cls index x host).value a s none s [] = some true := eq_of_beq h
  apply beq_iff_eq.mpr
  simp only [Cond.value] at h1 ⊢
  split at h1
  · rename_i ci via d c m hh e1 e2 e3 e4 e5
    simp only [Option.bind_eq_bind, Option.bind_eq_some_iff] at h1
    obtain ⟨linked, hl, ck, hck, mk, hmk, meth, hmeth, hb⟩ := h1
    split at hb
    · rename_i hc
      have hx : x.cls ≠ "java/lang/invoke/MethodHandle" ∧ x.cls ≠ "java/lang/invoke/VarHandle" := by
        have h2 := hc
        simp only [Bool.and_eq_true, bne_iff_ne] at h2
        exact ⟨h2.1.1.1.1.1.1.2, h2.1.1.1.1.1.2⟩
      obtain ⟨m0, hm0⟩ := Option.isSome_iff_exists.mp hn
      have hm1 := State.methodFound?_of_named hm0 hx
      have hmm : m0 = m := Option.some.inj (hm1.symm.trans e4)
      subst hmm
      have hm2 := State.methodFound?_of_named (rf_named hp hm0) hx
      split at hb
      · rename_i hg
        simp only [Bool.and_eq_true, beq_iff_eq] at hg
        have g1 : s'.vm.hostNow? d = some hh := by rw [hv]; exact rf_host hg.1
        have g2 : s'.vm.hostNow? m0.cls = some hh := by rw [hv]; exact rf_host hg.2
        rw [rf_entry hp e2, e1, rf_find hp e2, rf_find hp e3, hm2, rf_find hp e5]
        simp only [Option.bind_eq_bind, rf_links L hv hl, rf_get hp hck, rf_get hp hmk, rf_method hp hmeth, Option.bind_some, rf_names hp e2, rf_open' hp e2]
        rw [if_pos hc, g1, g2]
        simp
      · cases hb
    · cases hb
  · cases h1
theorem rf_selects {a : Array Value} {s s' : State} {r : Class} {rk : Nat → Nat} (L : rf_Low s.vm rk) (hv : s'.vm = rf_add s.vm r) {cls : String} {x y : MethodName} (hc : cls = x.cls) (hxy : x = y) (hx : cls ≠ "java/lang/invoke/MethodHandle" ∧ cls ≠ "java/lang/invoke/VarHandle") (h : (Cond.selects cls x y).before a s = true) : (Cond.selects cls x y).before a s' = true := by
  have hp : s'.vm.classes = s.vm.classes.push r := by rw [hv]; rfl
  subst hxy
  subst hc
  have h1 : (Cond.selects x.cls x x).value a s none s [] = some true := eq_of_beq h
  apply beq_iff_eq.mpr
  simp only [Cond.value] at h1 ⊢
  split at h1
  · rename_i c m1 m e1 e2 e3
    have hm1 := State.methodFound?_of_named e3 hx
    have hmm : m = m1 := Option.some.inj (hm1.symm.trans e2)
    subst hmm
    have hm2 := State.methodFound?_of_named (rf_named hp e3) hx
    have hcc : m.cls = c := Option.some.inj ((findClass_of_methodNamed e3).symm.trans e1)
    subst hcc
    rw [rf_find hp e1, hm2, rf_named hp e3]
    simp only [rf_select L hv e3]
    have h2 := Option.some.inj h1
    split at h2
    · rename_i m' hs
      simp only [Bool.and_eq_true] at h2
      obtain ⟨k, hk⟩ := rf_foundAt e1
      have h3 := h2.2
      rw [hk] at h3
      rw [rf_get hp hk, h3]
      simp
    · cases h2
  · cases h1
theorem rf_lays {a : Array Value} {s s' : State} {r : Class} {rk : Nat → Nat} (L : rf_Low s.vm rk) (hv : s'.vm = rf_add s.vm r) {cls owner name desc : String} (hc : cls = owner) (h : (Cond.lays cls owner name desc).before a s = true) : (Cond.lays cls owner name desc).before a s' = true := by
  have hp : s'.vm.classes = s.vm.classes.push r := by rw [hv]; rfl
  subst hc
  have h1 : (Cond.lays cls cls name desc).value a s none s [] = some true := eq_of_beq h
  apply beq_iff_eq.mpr
  simp only [Cond.value] at h1 ⊢
  split at h1
  · rename_i c c' k' i f e1 e2
    obtain ⟨k, hk, hb⟩ := Option.map_eq_some_iff.mp h1
    have hcc : c = c' := by
      simp only [Bool.and_eq_true, decide_eq_true_eq, e1] at hb
      exact Option.some.inj hb.1.1.2
    subst hcc
    have has : ∀ vm : Vm, vm.assignable c c = true := fun vm => by
      show vm.assignableAux (255 + 1) c c = true
      rw [Vm.assignableAux, beq_self_eq_true, Bool.true_or]
    simp only [rf_find hp e1, rf_fieldFound L hv e2]
    rw [rf_get hp hk]
    simp only [has, e1] at hb
    simp only [Option.map_some, has]
    rw [hv, rf_declares L f.slot (c + 1) c (rf_lt hk)]
    exact congrArg some hb
  · cases h1
theorem rf_laysFinal {a : Array Value} {s s' : State} {r : Class} {rk : Nat → Nat} (L : rf_Low s.vm rk) (hv : s'.vm = rf_add s.vm r) {cls owner name desc : String} (hc : cls = owner) (h : (Cond.laysFinal cls owner name desc).before a s = true) : (Cond.laysFinal cls owner name desc).before a s' = true := by
  have hp : s'.vm.classes = s.vm.classes.push r := by rw [hv]; rfl
  subst hc
  have h1 : (Cond.laysFinal cls cls name desc).value a s none s [] = some true := eq_of_beq h
  apply beq_iff_eq.mpr
  simp only [Cond.value] at h1 ⊢
  split at h1
  · rename_i c c' k' i f e1 e2
    obtain ⟨k, hk, hb⟩ := Option.map_eq_some_iff.mp h1
    have hcc : c = c' := by
      simp only [Bool.and_eq_true, decide_eq_true_eq, e1] at hb
      exact Option.some.inj hb.1.1.2
    subst hcc
    have has : ∀ vm : Vm, vm.assignable c c = true := fun vm => by
      show vm.assignableAux (255 + 1) c c = true
      rw [Vm.assignableAux, beq_self_eq_true, Bool.true_or]
    simp only [rf_find hp e1, rf_fieldFound L hv e2]
    rw [rf_get hp hk]
    simp only [has, e1] at hb
    simp only [Option.map_some, has]
    rw [hv, rf_declares L f.slot (c + 1) c (rf_lt hk)]
    exact congrArg some hb
  · cases h1
end
section
def rf_rec : Class := { start1.cArr "second array of int" 24 .int with methods := #[Lib.HandJ.method "clone" "()Ljava/lang/Object;" [] (some (.object "java/lang/Object")) 0x1 1 (.mk #[0xa7, 0x00, 0x00])] }
def rf_heap : Heap := start1.about.heap.modify 5 (fun c => { c with cls := 34 })
def rf_about : State := { start1.about with vm := rf_add start1.about.vm rf_rec, heap := rf_heap }
theorem rf_push : rf_about.vm = rf_add start1.about.vm rf_rec := rfl
end
section
def rf_ne (s : State) : Bool := match s.frames with
  | .java _ :: _ :: _ => true
  | .invoking _ _ :: _ :: _ => true
  | _ => false
def rf_chk (tb : Tables) (e : Env) (s : State) : Bool := match s.frames with
  | .java f :: _ => Nat.beq f.pc 0 && (overridden tb e s f).isNone && (match (s.code? f.method).map (fun c => decode c.code f.pc) with
    | some (.ok (.goto 0, 3)) => true
    | _ => false)
  | _ => false
set_option maxRecDepth 16384 in
theorem rf_low : ((List.range 18).all fun n => rf_ne (stepsAlone start1.p0.tables start1.e0 n rf_about)) = true := by decide +kernel
set_option maxRecDepth 16384 in
theorem rf_at : rf_chk start1.p0.tables start1.e0 (stepsAlone start1.p0.tables start1.e0 17 rf_about) = true := by decide +kernel
theorem rf_exec : start1.p0.tables.exec = Jvm.exec := rfl
theorem rf_stay {tb : Tables} {e : Env} {s : State} (hx : tb.exec = Jvm.exec) (h : rf_chk tb e s = true) : (stepThread tb e s).1 = s := by
  unfold rf_chk at h
  split at h
  case h_2 => cases h
  case h_1 f rest hf =>
    simp only [Bool.and_eq_true] at h
    obtain ⟨⟨h0, h1⟩, h2⟩ := h
    have hpc : f.pc = 0 := Nat.eq_of_beq_eq_true h0
    have hov : overridden tb e s f = none := by simpa using h1
    split at h2
    case h_2 => cases h2
    case h_1 hd =>
      have hs : stepThread tb e s = afterInstr e 3 ((Jvm.exec (.goto 0)).run e s) := by
        unfold stepThread
        rw [hf]
        simp only [hov]
        rw [hd, hx]
      have ht : s.topJava? = some f := by unfold State.topJava?; rw [hf]
      have hr : afterInstr e 3 ((Jvm.exec (.goto 0)).run e s) = (match s.topJava? with
        | some f => if (f.pc : Int) + 0 < 0 then (s.halt (.illTyped "a branch to a negative address"), [.mark "op.goto"]) else (s.modifyTopJava fun f => { f with pc := ((f.pc : Int) + 0).toNat }, [.mark "op.goto"])
        | none => (s.halt (.modelBug "a branch without a bytecode frame"), [.mark "op.goto"])) := rfl
      rw [hs, hr, ht]
      simp only [hpc]
      rw [if_neg (by decide)]
      show s.modifyTopJava (fun f => { f with pc := ((f.pc : Int) + 0).toNat }) = s
      have hm : s.threads.modify s.cur (fun t => match t.frames with
        | .java f :: rest => { t with frames := .java { f with pc := ((f.pc : Int) + 0).toNat } :: rest }
        | _ => t) = s.threads := by
        apply Array.ext_getElem?
        intro j
        rw [Array.getElem?_modify]
        split
        · rename_i hj
          subst hj
          cases hq : s.threads[s.cur]? with
          | none => rfl
          | some t =>
            have hft : t.frames = .java f :: rest := by
              have h9 := hf
              unfold State.frames at h9
              simpa [hq] using h9
            simp only [Option.map_some, hft]
            congr 1
            have hfe : ({ f with pc := ((f.pc : Int) + 0).toNat } : JFrame) = f := by
              cases f with
              | mk a b c d g h i =>
                have hb : b = 0 := hpc
                subst hb
                rfl
            have hte : ({ t with frames := .java f :: rest } : Thread) = t := by
              rw [← hft]
            rw [hfe]
            exact hte
        · rfl
      exact congrArg (fun th => ({ s with threads := th } : State)) hm
theorem rf_stays {tb : Tables} {e : Env} {s : State} (hx : tb.exec = Jvm.exec) (h : rf_chk tb e s = true) (n : Nat) : stepsAlone tb e n s = s := by
  induction n with
  | zero => rfl
  | succ n ih =>
    unfold stepsAlone
    split
    · rw [rf_stay hx h]; exact ih
    · rfl
theorem rf_never (n : Nat) : rf_ne (stepsAlone start1.p0.tables start1.e0 n rf_about) = true := by
  by_cases hn : n < 18
  · exact List.all_eq_true.mp rf_low n (List.mem_range.mpr hn)
  · obtain ⟨k, rfl⟩ : ∃ k, n = 17 + k := ⟨n - 17, by omega⟩
    rw [stepsAlone_add, rf_stays rf_exec rf_at]
    exact List.all_eq_true.mp rf_low 17 (List.mem_range.mpr (by decide))
theorem rf_open {s : State} {o : Outcome} (h : rf_ne s = true) (he : Ended s Lib.HandBits.below0 o) : False := by
  cases o with
  | threw a =>
    have h1 : s.frames = .throwing a :: Lib.HandBits.below0 := he
    unfold rf_ne at h
    rw [h1] at h
    cases h
  | returned v =>
    have h1 : s.frames = [.native { ({ method := ⟨0, 0⟩, args := #[] } : NFrame) with awaiting := false, answer := some (.returned v) }] := he
    unfold rf_ne at h
    rw [h1] at h
    cases h
end
section
theorem rf_easy_ok {a : Array Value} {s' : State} {r : Class} {rk : Nat → Nat} (L : rf_Low start1.about.vm rk) (hv : s'.vm = rf_add start1.about.vm r) {c : Cond} (he : rf_easy c = true) (h : c.before a start1.about = true) : c.before a s' = true := by
  have hp : s'.vm.classes = start1.about.vm.classes.push r := by rw [hv]; rfl
  cases c with
  | code x b m t => exact rf_m (fun y hy => rf_meth hp hy) h
  | instanceMethod x => exact rf_m (fun y hy => rf_meth hp hy) h
  | privateMethod x => exact rf_m (fun y hy => rf_meth hp hy) h
  | static x => exact rf_m (fun y hy => rf_meth hp hy) h
  | native x => exact rf_m (fun y hy => rf_meth hp hy) h
  | initialized n => exact rf_m (fun y hy => rf_cls hp hy) h
  | instantiable n k => exact rf_m (fun y hy => rf_cls hp hy) h
  | soleField n f =>
    have h2 : ((start1.about.vm.findClass n).bind fun c => (start1.about.vm.classes[c]?).map fun k => decide ((k.fields.filter fun g => g.name == f && !g.isStatic).size = 1)) = some true := eq_of_beq h
    obtain ⟨c, hc, h3⟩ := Option.bind_eq_some_iff.mp h2
    obtain ⟨k, hk, h4⟩ := Option.map_eq_some_iff.mp h3
    show (((s'.vm.findClass n).bind fun c => (s'.vm.classes[c]?).map fun k => decide ((k.fields.filter fun g => g.name == f && !g.isStatic).size = 1)) == some true) = true
    rw [rf_find hp hc]
    show ((s'.vm.classes[c]?).map _ == some true) = true
    rw [rf_get hp hk]
    exact beq_iff_eq.mpr (congrArg some h4)
  | constant n i v =>
    have h1 : (start1.about.vm.findClass n).map (fun _ => start1.about.names n i (.int v)) = some true := eq_of_beq h
    obtain ⟨c, hc, h4⟩ := Option.map_eq_some_iff.mp h1
    show ((s'.vm.findClass n).map (fun _ => s'.names n i (.int v)) == some true) = true
    rw [rf_find hp hc, rf_names hp hc, h4]
    rfl
  | constantLong n i v =>
    have h1 : (start1.about.vm.findClass n).map (fun _ => start1.about.names n i (.long v)) = some true := eq_of_beq h
    obtain ⟨c, hc, h4⟩ := Option.map_eq_some_iff.mp h1
    show ((s'.vm.findClass n).map (fun _ => s'.names n i (.long v)) == some true) = true
    rw [rf_find hp hc, rf_names hp hc, h4]
    rfl
  | classLink n i m => exact beq_iff_eq.mpr (rf_links L hv (eq_of_beq h))
  | fieldLink c i f n d => exact rf_fieldLink L hv h
  | lays c o n d => exact rf_lays L hv (eq_of_beq he) h
  | laysFinal c o n d => exact rf_laysFinal L hv (eq_of_beq he) h
  | selects c x y =>
    have h1 : (c == x.cls && decide (x = y) && rf_plainCls c) = true := he
    simp only [Bool.and_eq_true, beq_iff_eq, decide_eq_true_eq] at h1
    exact rf_selects L hv h1.1.1 h1.1.2 (rf_plainOk h1.2) h
  | methodLink c i x => exact rf_methodLink L hv he h
  | methodLinkNest c i x o => exact rf_methodLinkNest L hv he h
  | _ => cases he
def rf_rk (c : Nat) : Nat := bif Nat.beq c 1 then 0 else bif Nat.beq c 23 then 1 else 2
def rf_lowB (vm : Vm) : Bool := (List.range vm.classes.size).all fun c => match vm.classes[c]? with
  | none => true
  | some k => Nat.blt (rf_rk c) vm.classes.size && (match k.super with
      | none => true
      | some p => Nat.blt p vm.classes.size && Nat.blt (rf_rk p) (rf_rk c)) && k.interfaces.toList.all (fun i => Nat.blt i vm.classes.size && Nat.blt (rf_rk i) (rf_rk c)) &&
      (Nat.beq k.methods.size 0 || Nat.ble 51 ((k.cf.map (·.majorVersion)).getD 0))
theorem rf_lowOf {vm : Vm} (h : rf_lowB vm = true) : rf_Low vm rf_rk := by
  intro c k hk
  have h1 := List.all_eq_true.mp h c (List.mem_range.mpr (rf_lt hk))
  simp only [hk, Bool.and_eq_true, List.all_eq_true, Bool.or_eq_true, Nat.blt_eq] at h1
  obtain ⟨⟨⟨h2, h3⟩, h4⟩, h5⟩ := h1
  refine ⟨h2, ?_, fun i hi => h4 i hi, ?_⟩
  · intro p hp
    simp only [hp, Bool.and_eq_true, Nat.blt_eq] at h3
    exact h3
  · rcases h5 with h5 | h5
    · exact .inl (Nat.eq_of_beq_eq_true h5)
    · exact .inr (Nat.le_of_ble_eq_true h5)
set_option maxRecDepth 16384 in
theorem rf_isLow : rf_lowB start1.about.vm = true := by decide +kernel
theorem rf_word {c : Cond} (h1 : (rf_easy c || c.before start1.args0 rf_about) = true) (h2 : c.before start1.args0 start1.about = true) : c.before start1.args0 rf_about = true := by
  cases hq : rf_easy c with
  | true => exact rf_easy_ok (rf_lowOf rf_isLow) rf_push hq h2
  | false => simpa [hq] using h1
end
section
set_option maxRecDepth 16384 in
theorem rf_w_1_0 : (tables_1_1.take 120).all (fun c => rf_easy c || c.before start1.args0 rf_about) = true := by decide +kernel
set_option maxRecDepth 16384 in
theorem rf_w_1_1 : ((tables_1_1.drop 120)).all (fun c => rf_easy c || c.before start1.args0 rf_about) = true := by decide +kernel
theorem rf_words_1 : ∀ c ∈ tables_1_1, c.before start1.args0 rf_about = true := fun c h => rf_word (List.all_eq_true.mp (start1.su_all_split _ 120 (tables_1_1) rf_w_1_0 (rf_w_1_1)) c h) (start1.words_1 c h)
set_option maxRecDepth 16384 in
theorem rf_w_2_0 : (tables_1_2.take 120).all (fun c => rf_easy c || c.before start1.args0 rf_about) = true := by decide +kernel
set_option maxRecDepth 16384 in
theorem rf_w_2_1 : ((tables_1_2.drop 120)).all (fun c => rf_easy c || c.before start1.args0 rf_about) = true := by decide +kernel
theorem rf_words_2 : ∀ c ∈ tables_1_2, c.before start1.args0 rf_about = true := fun c h => rf_word (List.all_eq_true.mp (start1.su_all_split _ 120 (tables_1_2) rf_w_2_0 (rf_w_2_1)) c h) (start1.words_2 c h)
set_option maxRecDepth 16384 in
theorem rf_w_3_0 : (tables_1_3.take 120).all (fun c => rf_easy c || c.before start1.args0 rf_about) = true := by decide +kernel
set_option maxRecDepth 16384 in
theorem rf_w_3_1 : ((tables_1_3.drop 120)).all (fun c => rf_easy c || c.before start1.args0 rf_about) = true := by decide +kernel
theorem rf_words_3 : ∀ c ∈ tables_1_3, c.before start1.args0 rf_about = true := fun c h => rf_word (List.all_eq_true.mp (start1.su_all_split _ 120 (tables_1_3) rf_w_3_0 (rf_w_3_1)) c h) (start1.words_3 c h)
set_option maxRecDepth 16384 in
theorem rf_w_4_0 : (tables_1_4.take 120).all (fun c => rf_easy c || c.before start1.args0 rf_about) = true := by decide +kernel
set_option maxRecDepth 16384 in
theorem rf_w_4_1 : ((tables_1_4.drop 120)).all (fun c => rf_easy c || c.before start1.args0 rf_about) = true := by decide +kernel
theorem rf_words_4 : ∀ c ∈ tables_1_4, c.before start1.args0 rf_about = true := fun c h => rf_word (List.all_eq_true.mp (start1.su_all_split _ 120 (tables_1_4) rf_w_4_0 (rf_w_4_1)) c h) (start1.words_4 c h)
set_option maxRecDepth 16384 in
theorem rf_w_5_0 : (tables_1_5.take 120).all (fun c => rf_easy c || c.before start1.args0 rf_about) = true := by decide +kernel
set_option maxRecDepth 16384 in
theorem rf_w_5_1 : ((tables_1_5.drop 120)).all (fun c => rf_easy c || c.before start1.args0 rf_about) = true := by decide +kernel
theorem rf_words_5 : ∀ c ∈ tables_1_5, c.before start1.args0 rf_about = true := fun c h => rf_word (List.all_eq_true.mp (start1.su_all_split _ 120 (tables_1_5) rf_w_5_0 (rf_w_5_1)) c h) (start1.words_5 c h)
set_option maxRecDepth 16384 in
theorem rf_w_6_0 : (tables_1_6.take 120).all (fun c => rf_easy c || c.before start1.args0 rf_about) = true := by decide +kernel
set_option maxRecDepth 16384 in
theorem rf_w_6_1 : ((tables_1_6.drop 120)).all (fun c => rf_easy c || c.before start1.args0 rf_about) = true := by decide +kernel
theorem rf_words_6 : ∀ c ∈ tables_1_6, c.before start1.args0 rf_about = true := fun c h => rf_word (List.all_eq_true.mp (start1.su_all_split _ 120 (tables_1_6) rf_w_6_0 (rf_w_6_1)) c h) (start1.words_6 c h)
set_option maxRecDepth 16384 in
theorem rf_w_7_0 : (tables_1_7).all (fun c => rf_easy c || c.before start1.args0 rf_about) = true := by decide +kernel
theorem rf_words_7 : ∀ c ∈ tables_1_7, c.before start1.args0 rf_about = true := fun c h => rf_word (List.all_eq_true.mp (rf_w_7_0) c h) (start1.words_7 c h)
end
section
theorem rf_words : ∀ c ∈ (Cond.code x code maxLocals ret :: tables_1), c.before start1.args0 rf_about = true := by
  intro c hc
  rcases List.mem_cons.mp hc with h | h
  · rw [h]; exact rf_easy_ok (rf_lowOf rf_isLow) rf_push rfl start1.word_code
  · have h1 : c ∈ tables_1_1 ++ (tables_1_2 ++ (tables_1_3 ++ (tables_1_4 ++ (tables_1_5 ++ (tables_1_6 ++ (tables_1_7)))))) := h
    rcases List.mem_append.mp h1 with h2 | h1
    · exact rf_words_1 c h2
    rcases List.mem_append.mp h1 with h2 | h1
    · exact rf_words_2 c h2
    rcases List.mem_append.mp h1 with h2 | h1
    · exact rf_words_3 c h2
    rcases List.mem_append.mp h1 with h2 | h1
    · exact rf_words_4 c h2
    rcases List.mem_append.mp h1 with h2 | h1
    · exact rf_words_5 c h2
    rcases List.mem_append.mp h1 with h2 | h1
    · exact rf_words_6 c h2
    exact rf_words_7 c h1
set_option maxRecDepth 16384 in
theorem rf_atStart : AtStart classFile x code maxLocals ret World_1 tables_1 room_1 Calls_1 rest_1 Pre_1 launch0 start1.p0 start1.e0 rf_about ⟨0, 0⟩ start1.args0 Lib.HandBits.below0 :=
  ⟨lists_1, trivial, launch0.admits_env _ _ _, launch0.least_env, fairChoices_fair.cas, fairChoices_fair.clock, rfl, by decide +kernel, by decide +kernel,
    (Spec.applies_iff rfl).mpr ⟨rfl, rfl, rfl, by decide +kernel, by decide +kernel, by decide +kernel, launch0.hasRoom_least _ room_1 (by decide +kernel) (by decide +kernel) (by decide +kernel) (by decide +kernel) (by decide +kernel) (by decide +kernel), atoms_intro rf_words⟩,
    trivial, (show rest_1_c.before start1.args0 rf_about = true by decide +kernel), (show (Cond.and given_1 narrow_1).before start1.args0 rf_about = true by decide +kernel)⟩
end
section
/-! THE CLAIM IS FALSE AS IT IS PRINTED: at the start rf_about, which meets every premise, the law never ends -/
theorem rf_false_1 : ¬ Claimed_1_1 := by
  intro h
  have hC := h launch0 rfl lists_1 trivial
  obtain ⟨hL, hW, hadm, hleast, hcas, hclk, hfr, hargs, hheap, happ, hcalls, hrest, hpre⟩ := rf_atStart
  obtain ⟨n, o, hw, hrun, hend, hpost⟩ := hC start1.p0 start1.e0 hadm hcas hclk rf_about ⟨0, 0⟩ start1.args0 Lib.HandBits.below0 hfr hargs hheap happ ⟨hcalls, hrest, hpre⟩
  exact rf_open (rf_never n) hend
theorem rf_false_2 : ¬ Claimed_1_2 := by
  intro h
  have hC := h launch0 rfl lists_1 trivial
  obtain ⟨hL, hW, hadm, hleast, hcas, hclk, hfr, hargs, hheap, happ, hcalls, hrest, hpre⟩ := rf_atStart
  obtain ⟨n, o, hw, hrun, hend, hpost⟩ := hC start1.p0 start1.e0 hadm hcas hclk rf_about ⟨0, 0⟩ start1.args0 Lib.HandBits.below0 hfr hargs hheap happ ⟨hcalls, hrest, hpre⟩
  exact rf_open (rf_never n) hend
theorem rf_false : ¬ (Claimed_1_1 ∧ Claimed_1_2) := fun h => rf_false_1 h.1
end

theorem rf_supIn {vm : Vm} {r : Class} {rk : Nat → Nat} (L : rf_Low vm rk) : ∀ (f : Nat) (c : ClassId), c < vm.classes.size → ∀ p, p ∈ (rf_add vm r).superclassesAux f c → p < vm.classes.size := by
  intro f
  induction f with
  | zero => intro c _ p h; cases h
  | succ f ih =>
    intro c hc p h
    simp only [Vm.superclassesAux, rf_eq hc] at h
    cases hk : vm.classes[c]? with
    | none => rw [hk] at h; cases h
    | some k =>
      rw [hk] at h
      cases hs : k.super with
      | none => simp [hs] at h
      | some q =>
        have hq := ((L c k hk).2.1 q hs).1
        simp only [Option.bind_some, hs, List.mem_cons] at h
        rcases h with h | h
        · rw [h]; exact hq
        · exact ih q hq p h
theorem rf_nonempty {k : Class} {n d : String} {i : Nat} (h : k.findMethod n d = some i) : k.methods.size ≠ 0 := by
  unfold Class.findMethod at h
  obtain ⟨hl, _⟩ := Array.findIdx?_eq_some_iff_getElem.mp h
  omega
theorem rf_refused {vm : Vm} {r : Class} {rk : Nat → Nat} (L : rf_Low vm rk) {c : ClassId} (hc : c < vm.classes.size) (name desc : String) : refusedOverriding {} (rf_add vm r) c name desc = false := by
  unfold refusedOverriding
  apply Bool.eq_false_iff.mpr
  intro h
  obtain ⟨⟨m, ab⟩, hz, hb⟩ := List.any_eq_true.mp h
  have hm := (List.of_mem_zip hz).1
  have hm1 := (List.mem_filter.mp hm).1
  have hx : ∃ k, vm.classes[m.cls]? = some k ∧ k.methods.size ≠ 0 := by
    rcases List.mem_append.mp hm1 with h1 | h1
    · obtain ⟨i, hi, rfl⟩ := Option.map_eq_some_iff.mp (Option.mem_toList.mp h1)
      obtain ⟨k, hk, hi'⟩ := Option.bind_eq_some_iff.mp hi
      rw [rf_eq hc] at hk
      exact ⟨k, hk, rf_nonempty hi'⟩
    · unfold superclassMethods at h1
      obtain ⟨p, hp, he⟩ := List.mem_filterMap.mp h1
      obtain ⟨i, hi, rfl⟩ := Option.map_eq_some_iff.mp he
      obtain ⟨k, hk, hi'⟩ := Option.bind_eq_some_iff.mp hi
      rw [rf_eq (rf_supIn L _ c hc p hp)] at hk
      exact ⟨k, hk, rf_nonempty hi'⟩
  obtain ⟨k, hk, hne⟩ := hx
  have hv : ((k.cf.map (·.majorVersion)).getD 0) ≥ 51 := by
    rcases (L _ k hk).2.2.2 with h1 | h1
    · exact absurd h1 hne
    · exact h1
  simp only [rf_eq (rf_lt hk), hk] at hb
  split at hb
  · rename_i k' ka a hk' _ _
    cases hk'
    have hd : decide ((k.cf.map (·.majorVersion)).getD 0 < ({} : Platform).transitiveOverrideSince) = false := decide_eq_false (by show ¬ _ < 51; omega)
    rw [hd] at hb
    cases hb
  · cases hb
theorem rf_select {s s' : State} {r : Class} {rk : Nat → Nat} (L : rf_Low s.vm rk) (hv : s'.vm = rf_add s.vm r) {x : MethodName} {m : MethodId} (hn : s.methodNamed? x = some m) : selectMethod {} s'.vm m.cls m = .method m := by
  have hp : s'.vm.classes = s.vm.classes.push r := by rw [hv]; rfl
  unfold State.methodNamed? at hn
  obtain ⟨c, hc, h2⟩ := Option.bind_eq_some_iff.mp hn
  obtain ⟨k, hk, h3⟩ := Option.bind_eq_some_iff.mp h2
  obtain ⟨i, hi, h4⟩ := Option.bind_eq_some_iff.mp h3
  cases h4
  have hi0 := hi
  unfold Class.findMethod at hi0
  obtain ⟨hl, hb, _⟩ := Array.findIdx?_eq_some_iff_getElem.mp hi0
  simp only [Bool.and_eq_true, beq_iff_eq] at hb
  have hme : s'.vm.method? ⟨c, i⟩ = some k.methods[i] := by
    unfold Vm.method?
    exact Option.bind_eq_some_iff.mpr ⟨k, rf_get hp hk, Array.getElem?_eq_getElem hl⟩
  have hi2 : k.findMethod (k.methods[i]).name (k.methods[i]).desc = some i := by rw [hb.1, hb.2]; exact hi
  unfold selectMethod
  simp only [hme]
  split
  · rfl
  · have hr : refusedOverriding {} s'.vm c (k.methods[i]).name (k.methods[i]).desc = false := by rw [hv]; exact rf_refused L (rf_lt hk) _ _
    simp only [hr, Bool.false_and, Bool.false_eq_true, if_false]
    have hs : selectInSuperclasses s'.vm ⟨c, i⟩ (k.methods[i]).name (k.methods[i]).desc (s'.vm.classes.size + 1) c = some ⟨c, i⟩ := by
      simp [selectInSuperclasses, rf_get hp hk, hi2]
    rw [hs]
def rf_plainCls (n : String) : Bool := n != "java/lang/invoke/MethodHandle" && n != "java/lang/invoke/VarHandle"
theorem rf_plainOk {n : String} (h : rf_plainCls n = true) : n ≠ "java/lang/invoke/MethodHandle" ∧ n ≠ "java/lang/invoke/VarHandle" := by
  simp only [rf_plainCls, Bool.and_eq_true, bne_iff_ne] at h
  exact h
theorem rf_host {vm : Vm} {r : Class} {m h : ClassId} (hy : vm.hostNow? m = some h) : (rf_add vm r).hostNow? m = some h := by
  have hp : (rf_add vm r).classes = vm.classes.push r := rfl
  unfold Vm.hostNow? at hy ⊢
  obtain ⟨k, hk, h1⟩ := Option.bind_eq_some_iff.mp hy
  refine Option.bind_eq_some_iff.mpr ⟨k, rf_get hp hk, ?_⟩
  split at h1
  · cases h1
  · rename_i hc
    rw [if_neg hc]
    generalize k.nestHost = o at h1 ⊢
    cases o with
    | some g => exact h1
    | none =>
      obtain ⟨cf, hcf, h2⟩ := Option.bind_eq_some_iff.mp h1
      refine Option.bind_eq_some_iff.mpr ⟨cf, hcf, ?_⟩
      generalize cf.attributes.findSome? _ = o2 at h2 ⊢
      cases o2 with
      | none => exact h2
      | some hi =>
        simp only at h2 ⊢
        generalize ((k.resolved[hi]?).join : Option Resolved) = w at h2 ⊢
        have tail : ∀ g : ClassId → Class → Option ClassId, ((cf.constantPool.className? hi).bind fun n => (vm.findClass n).bind fun hh => (vm.classes[hh]?).bind fun hk => g hh hk) = some h →
            ((cf.constantPool.className? hi).bind fun n => ((rf_add vm r).findClass n).bind fun hh => ((rf_add vm r).classes[hh]?).bind fun hk => g hh hk) = some h := by
          intro g hg
          obtain ⟨n, hn, h3⟩ := Option.bind_eq_some_iff.mp hg
          obtain ⟨hh, hfind, h4⟩ := Option.bind_eq_some_iff.mp h3
          obtain ⟨hk2, hget, h7⟩ := Option.bind_eq_some_iff.mp h4
          exact Option.bind_eq_some_iff.mpr ⟨n, hn, Option.bind_eq_some_iff.mpr ⟨hh, rf_find hp hfind, Option.bind_eq_some_iff.mpr ⟨hk2, rf_get hp hget, h7⟩⟩⟩
        cases w with
        | none => exact tail _ h2
        | some v => cases v <;> first
          | exact tail _ h2
          | cases h2
def rf_easy : Cond → Bool
  | .code .. => true
  | .instanceMethod .. => true
  | .privateMethod .. => true
  | .static .. => true
  | .native .. => true
  | .initialized .. => true
  | .instantiable .. => true
  | .soleField .. => true
  | .constant .. => true
  | .constantLong .. => true
  | .classLink .. => true
  | .fieldLink .. => true
  | .lays cls owner _ _ => cls == owner
  | .laysFinal cls owner _ _ => cls == owner
  | .selects cls x y => cls == x.cls && decide (x = y) && rf_plainCls cls
  | .methodLink _ _ x => (start1.about.methodNamed? x).isSome
  | .methodLinkNest _ _ x _ => (start1.about.methodNamed? x).isSome
  | _ => false
theorem rf_m {α : Type} {o o' : Option α} {f : α → Bool} (ho : ∀ y, o = some y → o' = some y) (h : (o.map f == some true) = true) : (o'.map f == some true) = true := by
  cases o with
  | none => cases h
  | some y => rw [ho y rfl]; exact h
theorem rf_fieldLink {a : Array Value} {s s' : State} {r : Class} {rk : Nat → Nat} (L : rf_Low s.vm rk) (hv : s'.vm = rf_add s.vm r) {cls ref name desc : String} {index : Nat} (h : (Cond.fieldLink cls index ref name desc).before a s = true) : (Cond.fieldLink cls index ref name desc).before a s' = true := by
  have hp : s'.vm.classes = s.vm.classes.push r := by rw [hv]; rfl
  have h1 : (Cond.fieldLink cls index ref name desc).value a s none s [] = some true := eq_of_beq h
  apply beq_iff_eq.mpr
  simp only [Cond.value] at h1 ⊢
  split at h1
  · rename_i ci b d c k i f t e1 e2 e3 e4
    simp only [Option.bind_eq_bind, Option.bind_eq_some_iff, Option.pure_def] at h1
    obtain ⟨linked, hl, dk, hdk, hb⟩ := h1
    obtain ⟨tk, htk⟩ := rf_foundAt e4
    rw [rf_entry hp e2, e1, rf_find hp e2, rf_fieldFound L hv e3, rf_find hp e4]
    simp only [Option.bind_eq_bind, rf_links L hv hl, rf_get hp hdk, Option.bind_some, Option.pure_def, rf_names hp e2, rf_open' hp e2]
    rw [hv, rf_plain L (rf_lt htk) (rf_lt hdk)]
    exact hb
  · cases h1
theorem rf_methodLink {a : Array Value} {s s' : State} {r : Class} {rk : Nat → Nat} (L : rf_Low s.vm rk) (hv : s'.vm = rf_add s.vm r) {cls : String} {x : MethodName} {index : Nat} (hn : (s.methodNamed? x).isSome = true) (h : (Cond.methodLink cls index x).before a s = true) : (Cond.methodLink cls index x).before a s' = true := by
  have hp : s'.vm.classes = s.vm.classes.push r := by rw [hv]; rfl
  have h1 : (Cond.methodLink cls index x).value a s none s [] = some true := eq_of_beq h
  apply beq_iff_eq.mpr
  simp only [Cond.value] at h1 ⊢
  split at h1
  · rename_i ci via d c m e1 e2 e3 e4
    simp only [Option.bind_eq_bind, Option.bind_eq_some_iff, Option.pure_def] at h1
    obtain ⟨linked, hl, dk, hdk, ck, hck, mk, hmk, meth, hmeth, hb⟩ := h1
    have hx : x.cls ≠ "java/lang/invoke/MethodHandle" ∧ x.cls ≠ "java/lang/invoke/VarHandle" := by
      have h2 := Option.some.inj hb
      simp only [Bool.and_eq_true, bne_iff_ne] at h2
      exact ⟨h2.1.1.1.2, h2.1.1.2⟩
    obtain ⟨m0, hm0⟩ := Option.isSome_iff_exists.mp hn
    have hm1 := State.methodFound?_of_named hm0 hx
    have hmm : m0 = m := Option.some.inj (hm1.symm.trans e4)
    subst hmm
    have hm2 := State.methodFound?_of_named (rf_named hp hm0) hx
    rw [rf_entry hp e2, e1, rf_find hp e2, rf_find hp e3, hm2]
    simp only [Option.bind_eq_bind, rf_links L hv hl, rf_get hp hdk, rf_get hp hck, rf_get hp hmk, rf_method hp hmeth, Option.bind_some, Option.pure_def, rf_names hp e2, rf_open' hp e2]
    rw [hv, rf_plain L (rf_lt hck) (rf_lt hdk)]
    exact hb
  · cases h1
theorem rf_methodLinkNest {a : Array Value} {s s' : State} {r : Class} {rk : Nat → Nat} (L : rf_Low s.vm rk) (hv : s'.vm = rf_add s.vm r) {cls host : String} {x : MethodName} {index : Nat} (hn : (s.methodNamed? x).isSome = true) (h : (Cond.methodLinkNest cls index x host).before a s = true) : (Cond.methodLinkNest cls index x host).before a s' = true := by
  have hp : s'.vm.classes = s.vm.classes.push r := by rw [hv]; rfl
  have h1 : (Cond.methodLinkNest cls index x host).value a s none s [] = some true := eq_of_beq h
  apply beq_iff_eq.mpr
  simp only [Cond.value] at h1 ⊢
  split at h1
  · rename_i ci via d c m hh e1 e2 e3 e4 e5
    simp only [Option.bind_eq_bind, Option.bind_eq_some_iff] at h1
    obtain ⟨linked, hl, ck, hck, mk, hmk, meth, hmeth, hb⟩ := h1
    split at hb
    · rename_i hc
      have hx : x.cls ≠ "java/lang/invoke/MethodHandle" ∧ x.cls ≠ "java/lang/invoke/VarHandle" := by
        have h2 := hc
        simp only [Bool.and_eq_true, bne_iff_ne] at h2
        exact ⟨h2.1.1.1.1.1.1.2, h2.1.1.1.1.1.2⟩
      obtain ⟨m0, hm0⟩ := Option.isSome_iff_exists.mp hn
      have hm1 := State.methodFound?_of_named hm0 hx
      have hmm : m0 = m := Option.some.inj (hm1.symm.trans e4)
      subst hmm
      have hm2 := State.methodFound?_of_named (rf_named hp hm0) hx
      split at hb
      · rename_i hg
        simp only [Bool.and_eq_true, beq_iff_eq] at hg
        have g1 : s'.vm.hostNow? d = some hh := by rw [hv]; exact rf_host hg.1
        have g2 : s'.vm.hostNow? m0.cls = some hh := by rw [hv]; exact rf_host hg.2
        rw [rf_entry hp e2, e1, rf_find hp e2, rf_find hp e3, hm2, rf_find hp e5]
        simp only [Option.bind_eq_bind, rf_links L hv hl, rf_get hp hck, rf_get hp hmk, rf_method hp hmeth, Option.bind_some, rf_names hp e2, rf_open' hp e2]
        rw [if_pos hc, g1, g2]
        simp
      · cases hb
    · cases hb
  · cases h1
theorem rf_selects {a : Array Value} {s s' : State} {r : Class} {rk : Nat → Nat} (L : rf_Low s.vm rk) (hv : s'.vm = rf_add s.vm r) {cls : String} {x y : MethodName} (hc : cls = x.cls) (hxy : x = y) (hx : cls ≠ "java/lang/invoke/MethodHandle" ∧ cls ≠ "java/lang/invoke/VarHandle") (h : (Cond.selects cls x y).before a s = true) : (Cond.selects cls x y).before a s' = true := by
  have hp : s'.vm.classes = s.vm.classes.push r := by rw [hv]; rfl
  subst hxy
  subst hc
  have h1 : (Cond.selects x.cls x x).value a s none s [] = some true := eq_of_beq h
  apply beq_iff_eq.mpr
  simp only [Cond.value] at h1 ⊢
  split at h1
  · rename_i c m1 m e1 e2 e3
    have hm1 := State.methodFound?_of_named e3 hx
    have hmm : m = m1 := Option.some.inj (hm1.symm.trans e2)
    subst hmm
    have hm2 := State.methodFound?_of_named (rf_named hp e3) hx
    have hcc : m.cls = c := Option.some.inj ((findClass_of_methodNamed e3).symm.trans e1)
    subst hcc
    rw [rf_find hp e1, hm2, rf_named hp e3]
    simp only [rf_select L hv e3]
    have h2 := Option.some.inj h1
    split at h2
    · rename_i m' hs
      simp only [Bool.and_eq_true] at h2
      obtain ⟨k, hk⟩ := rf_foundAt e1
      have h3 := h2.2
      rw [hk] at h3
      rw [rf_get hp hk, h3]
      simp
    · cases h2
  · cases h1
theorem rf_lays {a : Array Value} {s s' : State} {r : Class} {rk : Nat → Nat} (L : rf_Low s.vm rk) (hv : s'.vm = rf_add s.vm r) {cls owner name desc : String} (hc : cls = owner) (h : (Cond.lays cls owner name desc).before a s = true) : (Cond.lays cls owner name desc).before a s' = true := by
  have hp : s'.vm.classes = s.vm.classes.push r := by rw [hv]; rfl
  subst hc
  have h1 : (Cond.lays cls cls name desc).value a s none s [] = some true := eq_of_beq h
  apply beq_iff_eq.mpr
  simp only [Cond.value] at h1 ⊢
  split at h1
  · rename_i c c' k' i f e1 e2
    obtain ⟨k, hk, hb⟩ := Option.map_eq_some_iff.mp h1
    have hcc : c = c' := by
      simp only [Bool.and_eq_true, decide_eq_true_eq, e1] at hb
      exact Option.some.inj hb.1.1.2
    subst hcc
    have has : ∀ vm : Vm, vm.assignable c c = true := fun vm => by
      show vm.assignableAux (255 + 1) c c = true
      rw [Vm.assignableAux, beq_self_eq_true, Bool.true_or]
    simp only [rf_find hp e1, rf_fieldFound L hv e2]
    rw [rf_get hp hk]
    simp only [has, e1] at hb
    simp only [Option.map_some, has]
    rw [hv, rf_declares L f.slot (c + 1) c (rf_lt hk)]
    exact congrArg some hb
  · cases h1
theorem rf_laysFinal {a : Array Value} {s s' : State} {r : Class} {rk : Nat → Nat} (L : rf_Low s.vm rk) (hv : s'.vm = rf_add s.vm r) {cls owner name desc : String} (hc : cls = owner) (h : (Cond.laysFinal cls owner name desc).before a s = true) : (Cond.laysFinal cls owner name desc).before a s' = true := by
  have hp : s'.vm.classes = s.vm.classes.push r := by rw [hv]; rfl
  subst hc
  have h1 : (Cond.laysFinal cls cls name desc).value a s none s [] = some true := eq_of_beq h
  apply beq_iff_eq.mpr
  simp only [Cond.value] at h1 ⊢
  split at h1
  · rename_i c c' k' i f e1 e2
    obtain ⟨k, hk, hb⟩ := Option.map_eq_some_iff.mp h1
    have hcc : c = c' := by
      simp only [Bool.and_eq_true, decide_eq_true_eq, e1] at hb
      exact Option.some.inj hb.1.1.2
    subst hcc
    have has : ∀ vm : Vm, vm.assignable c c = true := fun vm => by
      show vm.assignableAux (255 + 1) c c = true
      rw [Vm.assignableAux, beq_self_eq_true, Bool.true_or]
    simp only [rf_find hp e1, rf_fieldFound L hv e2]
    rw [rf_get hp hk]
    simp only [has, e1] at hb
    simp only [Option.map_some, has]
    rw [hv, rf_declares L f.slot (c + 1) c (rf_lt hk)]
    exact congrArg some hb
  · cases h1

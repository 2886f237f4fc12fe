/-! A word of these kinds stays true when one class record is added behind the others. -/
def rf_easy : Cond → Bool
  | .code .. => true
  | .instanceMethod .. => true
  | .privateMethod .. => true
  | .static .. => true
  | .native .. => true
  | .initialized .. => true
  | .instantiable .. => true
  | .soleField .. => true
  | .constant .. => true
  | .constantLong .. => true
  | _ => false
theorem rf_find {vm vm' : Vm} {r : Class} (h : vm'.classes = vm.classes.push r) {n : String} {c : ClassId} (hf : vm.findClass n = some c) : vm'.findClass n = some c := by
  unfold Vm.findClass at *
  rw [h, Array.findIdx?_push, hf]
  rfl
theorem rf_get {vm vm' : Vm} {r : Class} (h : vm'.classes = vm.classes.push r) {c : ClassId} {k : Class} (hk : vm.classes[c]? = some k) : vm'.classes[c]? = some k := by
  have hl : c < vm.classes.size := (Array.getElem?_eq_some_iff.mp hk).1
  rw [h, Array.getElem?_push, if_neg (Nat.ne_of_lt hl)]
  exact hk
theorem rf_cls {vm vm' : Vm} {r : Class} (h : vm'.classes = vm.classes.push r) {n : String} {k : Class} (hy : (vm.findClass n).bind (vm.classes[·]?) = some k) : (vm'.findClass n).bind (vm'.classes[·]?) = some k := by
  obtain ⟨c, hc, hk⟩ := Option.bind_eq_some_iff.mp hy
  exact Option.bind_eq_some_iff.mpr ⟨c, rf_find h hc, rf_get h hk⟩
theorem rf_method {vm vm' : Vm} {r : Class} (h : vm'.classes = vm.classes.push r) {m : MethodId} {y : Method} (hy : vm.method? m = some y) : vm'.method? m = some y := by
  unfold Vm.method? at *
  obtain ⟨k, hk, hm⟩ := Option.bind_eq_some_iff.mp hy
  exact Option.bind_eq_some_iff.mpr ⟨k, rf_get h hk, hm⟩
theorem rf_named {s s' : State} {r : Class} (h : s'.vm.classes = s.vm.classes.push r) {x : MethodName} {m : MethodId} (hy : s.methodNamed? x = some m) : s'.methodNamed? x = some m := by
  unfold State.methodNamed? at *
  obtain ⟨c, hc, h2⟩ := Option.bind_eq_some_iff.mp hy
  obtain ⟨k, hk, h3⟩ := Option.bind_eq_some_iff.mp h2
  exact Option.bind_eq_some_iff.mpr ⟨c, rf_find h hc, Option.bind_eq_some_iff.mpr ⟨k, rf_get h hk, h3⟩⟩
theorem rf_meth {s s' : State} {r : Class} (h : s'.vm.classes = s.vm.classes.push r) {x : MethodName} {y : Method} (hy : (s.methodNamed? x).bind s.vm.method? = some y) : (s'.methodNamed? x).bind s'.vm.method? = some y := by
  obtain ⟨m, hm, h2⟩ := Option.bind_eq_some_iff.mp hy
  exact Option.bind_eq_some_iff.mpr ⟨m, rf_named h hm, rf_method h h2⟩
theorem rf_pool {s s' : State} {r : Class} (h : s'.vm.classes = s.vm.classes.push r) {n : String} {p : ConstantPool} (hy : s.poolOf? n = some p) : s'.poolOf? n = some p := by
  unfold State.poolOf? at *
  obtain ⟨c, hc, h2⟩ := Option.bind_eq_some_iff.mp hy
  obtain ⟨k, hk, h3⟩ := Option.bind_eq_some_iff.mp h2
  exact Option.bind_eq_some_iff.mpr ⟨c, rf_find h hc, Option.bind_eq_some_iff.mpr ⟨k, rf_get h hk, h3⟩⟩
theorem rf_names {s s' : State} {r : Class} (h : s'.vm.classes = s.vm.classes.push r) {n : String} {i : Nat} {w : Names} (hy : s.names n i w = true) : s'.names n i w = true := by
  unfold State.names at *
  have h1 := of_decide_eq_true hy
  obtain ⟨p, hp, h2⟩ := Option.bind_eq_some_iff.mp h1
  exact decide_eq_true (Option.bind_eq_some_iff.mpr ⟨p, rf_pool h hp, h2⟩)
theorem rf_m {α : Type} {o o' : Option α} {f : α → Bool} (ho : ∀ y, o = some y → o' = some y) (h : (o.map f == some true) = true) : (o'.map f == some true) = true := by
  cases o with
  | none => cases h
  | some y => rw [ho y rfl]; exact h
theorem rf_easy_ok {a : Array Value} {s s' : State} {r : Class} (hp : s'.vm.classes = s.vm.classes.push r) {c : Cond} (he : rf_easy c = true) (h : c.before a s = true) : c.before a s' = true := by
  cases c with
  | code x b m t => exact rf_m (fun y hy => rf_meth hp hy) h
  | instanceMethod x => exact rf_m (fun y hy => rf_meth hp hy) h
  | privateMethod x => exact rf_m (fun y hy => rf_meth hp hy) h
  | static x => exact rf_m (fun y hy => rf_meth hp hy) h
  | native x => exact rf_m (fun y hy => rf_meth hp hy) h
  | initialized n => exact rf_m (fun y hy => rf_cls hp hy) h
  | instantiable n k => exact rf_m (fun y hy => rf_cls hp hy) h
  | soleField n f =>
    have h1 : (((s.vm.findClass n).bind fun c => (s.vm.classes[c]?).map fun k => decide ((k.fields.filter fun g => g.name == f && !g.isStatic).size = 1)) == some true) = true := h
    have h2 := eq_of_beq h1
    obtain ⟨c, hc, h3⟩ := Option.bind_eq_some_iff.mp h2
    obtain ⟨k, hk, h4⟩ := Option.map_eq_some_iff.mp h3
    show (((s'.vm.findClass n).bind fun c => (s'.vm.classes[c]?).map fun k => decide ((k.fields.filter fun g => g.name == f && !g.isStatic).size = 1)) == some true) = true
    rw [rf_find hp hc]
    show ((s'.vm.classes[c]?).map _ == some true) = true
    rw [rf_get hp hk]
    exact beq_iff_eq.mpr (congrArg some h4)
  | constant n i v =>
    have h1 : ((s.vm.findClass n).map (fun _ => s.names n i (.int v)) == some true) = true := h
    obtain ⟨c, hc, h4⟩ := Option.map_eq_some_iff.mp (eq_of_beq h1)
    show ((s'.vm.findClass n).map (fun _ => s'.names n i (.int v)) == some true) = true
    rw [rf_find hp hc]
    exact beq_iff_eq.mpr (congrArg some (rf_names hp h4))
  | constantLong n i v =>
    have h1 : ((s.vm.findClass n).map (fun _ => s.names n i (.long v)) == some true) = true := h
    obtain ⟨c, hc, h4⟩ := Option.map_eq_some_iff.mp (eq_of_beq h1)
    show ((s'.vm.findClass n).map (fun _ => s'.names n i (.long v)) == some true) = true
    rw [rf_find hp hc]
    exact beq_iff_eq.mpr (congrArg some (rf_names hp h4))
  | _ => cases he
theorem rf_word {c : Cond} (h1 : (rf_easy c || c.before start1.args0 rf_about) = true) (h2 : c.before start1.args0 start1.about = true) : c.before start1.args0 rf_about = true := by
  cases hq : rf_easy c with
  | true => exact rf_easy_ok rf_push hq h2
  | false => simpa [hq] using h1

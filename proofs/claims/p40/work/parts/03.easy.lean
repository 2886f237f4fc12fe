theorem rf_easy_ok {a : Array Value} {s' : State} {r : Class} {rk : Nat → Nat} (L : rf_Low start1.about.vm rk) (hv : s'.vm = rf_add start1.about.vm r) {c : Cond} (he : rf_easy c = true) (h : c.before a start1.about = true) : c.before a s' = true := by
  have hp : s'.vm.classes = start1.about.vm.classes.push r := by rw [hv]; rfl
  cases c with
  | code x b m t => exact rf_m (fun y hy => rf_meth hp hy) h
  | instanceMethod x => exact rf_m (fun y hy => rf_meth hp hy) h
  | privateMethod x => exact rf_m (fun y hy => rf_meth hp hy) h
  | static x => exact rf_m (fun y hy => rf_meth hp hy) h
  | native x => exact rf_m (fun y hy => rf_meth hp hy) h
  | initialized n => exact rf_m (fun y hy => rf_cls hp hy) h
  | instantiable n k => exact rf_m (fun y hy => rf_cls hp hy) h
  | soleField n f =>
    have h2 : ((start1.about.vm.findClass n).bind fun c => (start1.about.vm.classes[c]?).map fun k => decide ((k.fields.filter fun g => g.name == f && !g.isStatic).size = 1)) = some true := eq_of_beq h
    obtain ⟨c, hc, h3⟩ := Option.bind_eq_some_iff.mp h2
    obtain ⟨k, hk, h4⟩ := Option.map_eq_some_iff.mp h3
    show (((s'.vm.findClass n).bind fun c => (s'.vm.classes[c]?).map fun k => decide ((k.fields.filter fun g => g.name == f && !g.isStatic).size = 1)) == some true) = true
    rw [rf_find hp hc]
    show ((s'.vm.classes[c]?).map _ == some true) = true
    rw [rf_get hp hk]
    exact beq_iff_eq.mpr (congrArg some h4)
  | constant n i v =>
    have h1 : (start1.about.vm.findClass n).map (fun _ => start1.about.names n i (.int v)) = some true := eq_of_beq h
    obtain ⟨c, hc, h4⟩ := Option.map_eq_some_iff.mp h1
    show ((s'.vm.findClass n).map (fun _ => s'.names n i (.int v)) == some true) = true
    rw [rf_find hp hc, rf_names hp hc, h4]
    rfl
  | constantLong n i v =>
    have h1 : (start1.about.vm.findClass n).map (fun _ => start1.about.names n i (.long v)) = some true := eq_of_beq h
    obtain ⟨c, hc, h4⟩ := Option.map_eq_some_iff.mp h1
    show ((s'.vm.findClass n).map (fun _ => s'.names n i (.long v)) == some true) = true
    rw [rf_find hp hc, rf_names hp hc, h4]
    rfl
  | classLink n i m => exact beq_iff_eq.mpr (rf_links L hv (eq_of_beq h))
  | fieldLink c i f n d => exact rf_fieldLink L hv h
  | lays c o n d => exact rf_lays L hv (eq_of_beq he) h
  | laysFinal c o n d => exact rf_laysFinal L hv (eq_of_beq he) h
  | selects c x y =>
    have h1 : (c == x.cls && decide (x = y) && rf_plainCls c) = true := he
    simp only [Bool.and_eq_true, beq_iff_eq, decide_eq_true_eq] at h1
    exact rf_selects L hv h1.1.1 h1.1.2 (rf_plainOk h1.2) h
  | methodLink c i x => exact rf_methodLink L hv he h
  | methodLinkNest c i x o => exact rf_methodLinkNest L hv he h
  | _ => cases he
def rf_rk (c : Nat) : Nat := bif Nat.beq c 1 then 0 else bif Nat.beq c 23 then 1 else 2
def rf_lowB (vm : Vm) : Bool := (List.range vm.classes.size).all fun c => match vm.classes[c]? with
  | none => true
  | some k => Nat.blt (rf_rk c) vm.classes.size && (match k.super with
      | none => true
      | some p => Nat.blt p vm.classes.size && Nat.blt (rf_rk p) (rf_rk c)) && k.interfaces.toList.all (fun i => Nat.blt i vm.classes.size && Nat.blt (rf_rk i) (rf_rk c)) &&
      (Nat.beq k.methods.size 0 || Nat.ble 51 ((k.cf.map (·.majorVersion)).getD 0))
theorem rf_lowOf {vm : Vm} (h : rf_lowB vm = true) : rf_Low vm rf_rk := by
  intro c k hk
  have h1 := List.all_eq_true.mp h c (List.mem_range.mpr (rf_lt hk))
  simp only [hk, Bool.and_eq_true, List.all_eq_true, Bool.or_eq_true, Nat.blt_eq] at h1
  obtain ⟨⟨⟨h2, h3⟩, h4⟩, h5⟩ := h1
  refine ⟨h2, ?_, fun i hi => h4 i hi, ?_⟩
  · intro p hp
    simp only [hp, Bool.and_eq_true, Nat.blt_eq] at h3
    exact h3
  · rcases h5 with h5 | h5
    · exact .inl (Nat.eq_of_beq_eq_true h5)
    · exact .inr (Nat.le_of_ble_eq_true h5)
set_option maxRecDepth 16384 in
theorem rf_isLow : rf_lowB start1.about.vm = true := by decide +kernel
theorem rf_word {c : Cond} (h1 : (rf_easy c || c.before start1.args0 rf_about) = true) (h2 : c.before start1.args0 start1.about = true) : c.before start1.args0 rf_about = true := by
  cases hq : rf_easy c with
  | true => exact rf_easy_ok (rf_lowOf rf_isLow) rf_push hq h2
  | false => simpa [hq] using h1

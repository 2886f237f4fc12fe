section
def rf_rec : Class := { start1.cArr "second array of int" 24 .int with methods := #[Lib.HandJ.method "clone" "()Ljava/lang/Object;" [] (some (.object "java/lang/Object")) 0x1 1 (.mk #[0xa7, 0x00, 0x00])] }
def rf_vm : Vm := { start1.about.vm with classes := start1.about.vm.classes.push rf_rec }
def rf_heap : Heap := start1.about.heap.modify 5 (fun c => { c with cls := 34 })
def rf_about : State := { start1.about with vm := rf_vm, heap := rf_heap }
theorem rf_push : rf_about.vm.classes = start1.about.vm.classes.push rf_rec := rfl
end
section
def rf_ne (s : State) : Bool := match s.frames with
  | .java _ :: _ :: _ => true
  | .invoking _ _ :: _ :: _ => true
  | _ => false
def rf_chk (tb : Tables) (e : Env) (s : State) : Bool := match s.frames with
  | .java f :: _ => Nat.beq f.pc 0 && (overridden tb e s f).isNone && (match (s.code? f.method).map (fun c => decode c.code f.pc) with
    | some (.ok (.goto 0, 3)) => true
    | _ => false)
  | _ => false
set_option maxRecDepth 16384 in
theorem rf_low : ((List.range 18).all fun n => rf_ne (stepsAlone start1.p0.tables start1.e0 n rf_about)) = true := by decide +kernel
set_option maxRecDepth 16384 in
theorem rf_at : rf_chk start1.p0.tables start1.e0 (stepsAlone start1.p0.tables start1.e0 17 rf_about) = true := by decide +kernel
theorem rf_exec : start1.p0.tables.exec = Jvm.exec := rfl
theorem rf_stay {tb : Tables} {e : Env} {s : State} (hx : tb.exec = Jvm.exec) (h : rf_chk tb e s = true) : (stepThread tb e s).1 = s := by
  unfold rf_chk at h
  split at h
  case h_2 => cases h
  case h_1 f rest hf =>
    simp only [Bool.and_eq_true] at h
    obtain ⟨⟨h0, h1⟩, h2⟩ := h
    have hpc : f.pc = 0 := Nat.eq_of_beq_eq_true h0
    have hov : overridden tb e s f = none := by simpa using h1
    split at h2
    case h_2 => cases h2
    case h_1 hd =>
      have hs : stepThread tb e s = afterInstr e 3 ((Jvm.exec (.goto 0)).run e s) := by
        unfold stepThread
        rw [hf]
        simp only [hov]
        rw [hd, hx]
      have ht : s.topJava? = some f := by unfold State.topJava?; rw [hf]
      have hr : afterInstr e 3 ((Jvm.exec (.goto 0)).run e s) = (match s.topJava? with
        | some f => if (f.pc : Int) + 0 < 0 then (s.halt (.illTyped "a branch to a negative address"), [.mark "op.goto"]) else (s.modifyTopJava fun f => { f with pc := ((f.pc : Int) + 0).toNat }, [.mark "op.goto"])
        | none => (s.halt (.modelBug "a branch without a bytecode frame"), [.mark "op.goto"])) := rfl
      rw [hs, hr, ht]
      simp only [hpc]
      rw [if_neg (by decide)]
      show s.modifyTopJava (fun f => { f with pc := ((f.pc : Int) + 0).toNat }) = s
      have hm : s.threads.modify s.cur (fun t => match t.frames with
        | .java f :: rest => { t with frames := .java { f with pc := ((f.pc : Int) + 0).toNat } :: rest }
        | _ => t) = s.threads := by
        apply Array.ext_getElem?
        intro j
        rw [Array.getElem?_modify]
        split
        · rename_i hj
          subst hj
          cases hq : s.threads[s.cur]? with
          | none => rfl
          | some t =>
            have hft : t.frames = .java f :: rest := by
              have h9 := hf
              unfold State.frames at h9
              simpa [hq] using h9
            simp only [Option.map_some, hft]
            congr 1
            have hfe : ({ f with pc := ((f.pc : Int) + 0).toNat } : JFrame) = f := by
              cases f with
              | mk a b c d g h i =>
                have hb : b = 0 := hpc
                subst hb
                rfl
            have hte : ({ t with frames := .java f :: rest } : Thread) = t := by
              rw [← hft]
            rw [hfe]
            exact hte
        · rfl
      exact congrArg (fun th => ({ s with threads := th } : State)) hm
theorem rf_stays {tb : Tables} {e : Env} {s : State} (hx : tb.exec = Jvm.exec) (h : rf_chk tb e s = true) (n : Nat) : stepsAlone tb e n s = s := by
  induction n with
  | zero => rfl
  | succ n ih =>
    unfold stepsAlone
    split
    · rw [rf_stay hx h]; exact ih
    · rfl
theorem rf_never (n : Nat) : rf_ne (stepsAlone start1.p0.tables start1.e0 n rf_about) = true := by
  by_cases hn : n < 18
  · exact List.all_eq_true.mp rf_low n (List.mem_range.mpr hn)
  · obtain ⟨k, rfl⟩ : ∃ k, n = 17 + k := ⟨n - 17, by omega⟩
    rw [stepsAlone_add, rf_stays rf_exec rf_at]
    exact List.all_eq_true.mp rf_low 17 (List.mem_range.mpr (by decide))
theorem rf_open {s : State} {o : Outcome} (h : rf_ne s = true) (he : Ended s Lib.HandBits.below0 o) : False := by
  cases o with
  | threw a =>
    have h1 : s.frames = .throwing a :: Lib.HandBits.below0 := he
    unfold rf_ne at h
    rw [h1] at h
    cases h
  | returned v =>
    have h1 : s.frames = [.native { ({ method := ⟨0, 0⟩, args := #[] } : NFrame) with awaiting := false, answer := some (.returned v) }] := he
    unfold rf_ne at h
    rw [h1] at h
    cases h
end
section
/-! A word of these kinds stays true when one class record is added behind the others. -/
def rf_easy : Cond → Bool
  | .code .. => true
  | .instanceMethod .. => true
  | .privateMethod .. => true
  | .static .. => true
  | .native .. => true
  | .initialized .. => true
  | .instantiable .. => true
  | .soleField .. => true
  | .constant .. => true
  | .constantLong .. => true
  | _ => false
theorem rf_find {vm vm' : Vm} {r : Class} (h : vm'.classes = vm.classes.push r) {n : String} {c : ClassId} (hf : vm.findClass n = some c) : vm'.findClass n = some c := by
  unfold Vm.findClass at *
  rw [h, Array.findIdx?_push, hf]
  rfl
theorem rf_get {vm vm' : Vm} {r : Class} (h : vm'.classes = vm.classes.push r) {c : ClassId} {k : Class} (hk : vm.classes[c]? = some k) : vm'.classes[c]? = some k := by
  have hl : c < vm.classes.size := (Array.getElem?_eq_some_iff.mp hk).1
  rw [h, Array.getElem?_push, if_neg (Nat.ne_of_lt hl)]
  exact hk
theorem rf_cls {vm vm' : Vm} {r : Class} (h : vm'.classes = vm.classes.push r) {n : String} {k : Class} (hy : (vm.findClass n).bind (vm.classes[·]?) = some k) : (vm'.findClass n).bind (vm'.classes[·]?) = some k := by
  obtain ⟨c, hc, hk⟩ := Option.bind_eq_some_iff.mp hy
  exact Option.bind_eq_some_iff.mpr ⟨c, rf_find h hc, rf_get h hk⟩
theorem rf_method {vm vm' : Vm} {r : Class} (h : vm'.classes = vm.classes.push r) {m : MethodId} {y : Method} (hy : vm.method? m = some y) : vm'.method? m = some y := by
  unfold Vm.method? at *
  obtain ⟨k, hk, hm⟩ := Option.bind_eq_some_iff.mp hy
  exact Option.bind_eq_some_iff.mpr ⟨k, rf_get h hk, hm⟩
theorem rf_named {s s' : State} {r : Class} (h : s'.vm.classes = s.vm.classes.push r) {x : MethodName} {m : MethodId} (hy : s.methodNamed? x = some m) : s'.methodNamed? x = some m := by
  unfold State.methodNamed? at *
  obtain ⟨c, hc, h2⟩ := Option.bind_eq_some_iff.mp hy
  obtain ⟨k, hk, h3⟩ := Option.bind_eq_some_iff.mp h2
  exact Option.bind_eq_some_iff.mpr ⟨c, rf_find h hc, Option.bind_eq_some_iff.mpr ⟨k, rf_get h hk, h3⟩⟩
theorem rf_meth {s s' : State} {r : Class} (h : s'.vm.classes = s.vm.classes.push r) {x : MethodName} {y : Method} (hy : (s.methodNamed? x).bind s.vm.method? = some y) : (s'.methodNamed? x).bind s'.vm.method? = some y := by
  obtain ⟨m, hm, h2⟩ := Option.bind_eq_some_iff.mp hy
  exact Option.bind_eq_some_iff.mpr ⟨m, rf_named h hm, rf_method h h2⟩
theorem rf_pool {s s' : State} {r : Class} (h : s'.vm.classes = s.vm.classes.push r) {n : String} {p : ConstantPool} (hy : s.poolOf? n = some p) : s'.poolOf? n = some p := by
  unfold State.poolOf? at *
  obtain ⟨c, hc, h2⟩ := Option.bind_eq_some_iff.mp hy
  obtain ⟨k, hk, h3⟩ := Option.bind_eq_some_iff.mp h2
  exact Option.bind_eq_some_iff.mpr ⟨c, rf_find h hc, Option.bind_eq_some_iff.mpr ⟨k, rf_get h hk, h3⟩⟩
theorem rf_names {s s' : State} {r : Class} (h : s'.vm.classes = s.vm.classes.push r) {n : String} {i : Nat} {w : Names} (hy : s.names n i w = true) : s'.names n i w = true := by
  unfold State.names at *
  have h1 := of_decide_eq_true hy
  obtain ⟨p, hp, h2⟩ := Option.bind_eq_some_iff.mp h1
  exact decide_eq_true (Option.bind_eq_some_iff.mpr ⟨p, rf_pool h hp, h2⟩)
theorem rf_m {α : Type} {o o' : Option α} {f : α → Bool} (ho : ∀ y, o = some y → o' = some y) (h : (o.map f == some true) = true) : (o'.map f == some true) = true := by
  cases o with
  | none => cases h
  | some y => rw [ho y rfl]; exact h
theorem rf_easy_ok {a : Array Value} {s s' : State} {r : Class} (hp : s'.vm.classes = s.vm.classes.push r) {c : Cond} (he : rf_easy c = true) (h : c.before a s = true) : c.before a s' = true := by
  cases c with
  | code x b m t => exact rf_m (fun y hy => rf_meth hp hy) h
  | instanceMethod x => exact rf_m (fun y hy => rf_meth hp hy) h
  | privateMethod x => exact rf_m (fun y hy => rf_meth hp hy) h
  | static x => exact rf_m (fun y hy => rf_meth hp hy) h
  | native x => exact rf_m (fun y hy => rf_meth hp hy) h
  | initialized n => exact rf_m (fun y hy => rf_cls hp hy) h
  | instantiable n k => exact rf_m (fun y hy => rf_cls hp hy) h
  | soleField n f =>
    have h1 : (((s.vm.findClass n).bind fun c => (s.vm.classes[c]?).map fun k => decide ((k.fields.filter fun g => g.name == f && !g.isStatic).size = 1)) == some true) = true := h
    have h2 := eq_of_beq h1
    obtain ⟨c, hc, h3⟩ := Option.bind_eq_some_iff.mp h2
    obtain ⟨k, hk, h4⟩ := Option.map_eq_some_iff.mp h3
    show (((s'.vm.findClass n).bind fun c => (s'.vm.classes[c]?).map fun k => decide ((k.fields.filter fun g => g.name == f && !g.isStatic).size = 1)) == some true) = true
    rw [rf_find hp hc]
    show ((s'.vm.classes[c]?).map _ == some true) = true
    rw [rf_get hp hk]
    exact beq_iff_eq.mpr (congrArg some h4)
  | constant n i v =>
    have h1 : ((s.vm.findClass n).map (fun _ => s.names n i (.int v)) == some true) = true := h
    obtain ⟨c, hc, h4⟩ := Option.map_eq_some_iff.mp (eq_of_beq h1)
    show ((s'.vm.findClass n).map (fun _ => s'.names n i (.int v)) == some true) = true
    rw [rf_find hp hc]
    exact beq_iff_eq.mpr (congrArg some (rf_names hp h4))
  | constantLong n i v =>
    have h1 : ((s.vm.findClass n).map (fun _ => s.names n i (.long v)) == some true) = true := h
    obtain ⟨c, hc, h4⟩ := Option.map_eq_some_iff.mp (eq_of_beq h1)
    show ((s'.vm.findClass n).map (fun _ => s'.names n i (.long v)) == some true) = true
    rw [rf_find hp hc]
    exact beq_iff_eq.mpr (congrArg some (rf_names hp h4))
  | _ => cases he
theorem rf_word {c : Cond} (h1 : (rf_easy c || c.before start1.args0 rf_about) = true) (h2 : c.before start1.args0 start1.about = true) : c.before start1.args0 rf_about = true := by
  cases hq : rf_easy c with
  | true => exact rf_easy_ok rf_push hq h2
  | false => simpa [hq] using h1
end
section
set_option maxRecDepth 16384 in
theorem rf_w_1_0 : (tables_1_1.take 60).all (fun c => rf_easy c || c.before start1.args0 rf_about) = true := by decide +kernel
set_option maxRecDepth 16384 in
theorem rf_w_1_1 : ((tables_1_1.drop 60).take 60).all (fun c => rf_easy c || c.before start1.args0 rf_about) = true := by decide +kernel
set_option maxRecDepth 16384 in
theorem rf_w_1_2 : (((tables_1_1.drop 60).drop 60).take 60).all (fun c => rf_easy c || c.before start1.args0 rf_about) = true := by decide +kernel
set_option maxRecDepth 16384 in
theorem rf_w_1_3 : ((((tables_1_1.drop 60).drop 60).drop 60)).all (fun c => rf_easy c || c.before start1.args0 rf_about) = true := by decide +kernel
theorem rf_words_1 : ∀ c ∈ tables_1_1, c.before start1.args0 rf_about = true := fun c h => rf_word (List.all_eq_true.mp (start1.su_all_split _ 60 (tables_1_1) rf_w_1_0 (start1.su_all_split _ 60 ((tables_1_1.drop 60)) rf_w_1_1 (start1.su_all_split _ 60 (((tables_1_1.drop 60).drop 60)) rf_w_1_2 (rf_w_1_3)))) c h) (start1.words_1 c h)
end
section
set_option maxRecDepth 16384 in
theorem rf_w_2_0 : (tables_1_2.take 60).all (fun c => rf_easy c || c.before start1.args0 rf_about) = true := by decide +kernel
set_option maxRecDepth 16384 in
theorem rf_w_2_1 : ((tables_1_2.drop 60).take 60).all (fun c => rf_easy c || c.before start1.args0 rf_about) = true := by decide +kernel
set_option maxRecDepth 16384 in
theorem rf_w_2_2 : (((tables_1_2.drop 60).drop 60).take 60).all (fun c => rf_easy c || c.before start1.args0 rf_about) = true := by decide +kernel
set_option maxRecDepth 16384 in
theorem rf_w_2_3 : ((((tables_1_2.drop 60).drop 60).drop 60)).all (fun c => rf_easy c || c.before start1.args0 rf_about) = true := by decide +kernel
theorem rf_words_2 : ∀ c ∈ tables_1_2, c.before start1.args0 rf_about = true := fun c h => rf_word (List.all_eq_true.mp (start1.su_all_split _ 60 (tables_1_2) rf_w_2_0 (start1.su_all_split _ 60 ((tables_1_2.drop 60)) rf_w_2_1 (start1.su_all_split _ 60 (((tables_1_2.drop 60).drop 60)) rf_w_2_2 (rf_w_2_3)))) c h) (start1.words_2 c h)
end
section
set_option maxRecDepth 16384 in
theorem rf_w_3_0 : (tables_1_3.take 60).all (fun c => rf_easy c || c.before start1.args0 rf_about) = true := by decide +kernel
set_option maxRecDepth 16384 in
theorem rf_w_3_1 : ((tables_1_3.drop 60).take 60).all (fun c => rf_easy c || c.before start1.args0 rf_about) = true := by decide +kernel
set_option maxRecDepth 16384 in
theorem rf_w_3_2 : (((tables_1_3.drop 60).drop 60).take 60).all (fun c => rf_easy c || c.before start1.args0 rf_about) = true := by decide +kernel
set_option maxRecDepth 16384 in
theorem rf_w_3_3 : ((((tables_1_3.drop 60).drop 60).drop 60)).all (fun c => rf_easy c || c.before start1.args0 rf_about) = true := by decide +kernel
theorem rf_words_3 : ∀ c ∈ tables_1_3, c.before start1.args0 rf_about = true := fun c h => rf_word (List.all_eq_true.mp (start1.su_all_split _ 60 (tables_1_3) rf_w_3_0 (start1.su_all_split _ 60 ((tables_1_3.drop 60)) rf_w_3_1 (start1.su_all_split _ 60 (((tables_1_3.drop 60).drop 60)) rf_w_3_2 (rf_w_3_3)))) c h) (start1.words_3 c h)
end
section
set_option maxRecDepth 16384 in
theorem rf_w_4_0 : (tables_1_4.take 60).all (fun c => rf_easy c || c.before start1.args0 rf_about) = true := by decide +kernel
set_option maxRecDepth 16384 in
theorem rf_w_4_1 : ((tables_1_4.drop 60).take 60).all (fun c => rf_easy c || c.before start1.args0 rf_about) = true := by decide +kernel
set_option maxRecDepth 16384 in
theorem rf_w_4_2 : (((tables_1_4.drop 60).drop 60).take 60).all (fun c => rf_easy c || c.before start1.args0 rf_about) = true := by decide +kernel
set_option maxRecDepth 16384 in
theorem rf_w_4_3 : ((((tables_1_4.drop 60).drop 60).drop 60)).all (fun c => rf_easy c || c.before start1.args0 rf_about) = true := by decide +kernel
theorem rf_words_4 : ∀ c ∈ tables_1_4, c.before start1.args0 rf_about = true := fun c h => rf_word (List.all_eq_true.mp (start1.su_all_split _ 60 (tables_1_4) rf_w_4_0 (start1.su_all_split _ 60 ((tables_1_4.drop 60)) rf_w_4_1 (start1.su_all_split _ 60 (((tables_1_4.drop 60).drop 60)) rf_w_4_2 (rf_w_4_3)))) c h) (start1.words_4 c h)
end
section
set_option maxRecDepth 16384 in
theorem rf_w_5_0 : (tables_1_5.take 60).all (fun c => rf_easy c || c.before start1.args0 rf_about) = true := by decide +kernel
set_option maxRecDepth 16384 in
theorem rf_w_5_1 : ((tables_1_5.drop 60).take 60).all (fun c => rf_easy c || c.before start1.args0 rf_about) = true := by decide +kernel
set_option maxRecDepth 16384 in
theorem rf_w_5_2 : (((tables_1_5.drop 60).drop 60).take 60).all (fun c => rf_easy c || c.before start1.args0 rf_about) = true := by decide +kernel
set_option maxRecDepth 16384 in
theorem rf_w_5_3 : ((((tables_1_5.drop 60).drop 60).drop 60)).all (fun c => rf_easy c || c.before start1.args0 rf_about) = true := by decide +kernel
theorem rf_words_5 : ∀ c ∈ tables_1_5, c.before start1.args0 rf_about = true := fun c h => rf_word (List.all_eq_true.mp (start1.su_all_split _ 60 (tables_1_5) rf_w_5_0 (start1.su_all_split _ 60 ((tables_1_5.drop 60)) rf_w_5_1 (start1.su_all_split _ 60 (((tables_1_5.drop 60).drop 60)) rf_w_5_2 (rf_w_5_3)))) c h) (start1.words_5 c h)
end
section
set_option maxRecDepth 16384 in
theorem rf_w_6_0 : (tables_1_6.take 60).all (fun c => rf_easy c || c.before start1.args0 rf_about) = true := by decide +kernel
set_option maxRecDepth 16384 in
theorem rf_w_6_1 : ((tables_1_6.drop 60).take 60).all (fun c => rf_easy c || c.before start1.args0 rf_about) = true := by decide +kernel
set_option maxRecDepth 16384 in
theorem rf_w_6_2 : (((tables_1_6.drop 60).drop 60).take 60).all (fun c => rf_easy c || c.before start1.args0 rf_about) = true := by decide +kernel
set_option maxRecDepth 16384 in
theorem rf_w_6_3 : ((((tables_1_6.drop 60).drop 60).drop 60)).all (fun c => rf_easy c || c.before start1.args0 rf_about) = true := by decide +kernel
theorem rf_words_6 : ∀ c ∈ tables_1_6, c.before start1.args0 rf_about = true := fun c h => rf_word (List.all_eq_true.mp (start1.su_all_split _ 60 (tables_1_6) rf_w_6_0 (start1.su_all_split _ 60 ((tables_1_6.drop 60)) rf_w_6_1 (start1.su_all_split _ 60 (((tables_1_6.drop 60).drop 60)) rf_w_6_2 (rf_w_6_3)))) c h) (start1.words_6 c h)
end
section
set_option maxRecDepth 16384 in
theorem rf_w_7_0 : (tables_1_7.take 60).all (fun c => rf_easy c || c.before start1.args0 rf_about) = true := by decide +kernel
set_option maxRecDepth 16384 in
theorem rf_w_7_1 : ((tables_1_7.drop 60)).all (fun c => rf_easy c || c.before start1.args0 rf_about) = true := by decide +kernel
theorem rf_words_7 : ∀ c ∈ tables_1_7, c.before start1.args0 rf_about = true := fun c h => rf_word (List.all_eq_true.mp (start1.su_all_split _ 60 (tables_1_7) rf_w_7_0 (rf_w_7_1)) c h) (start1.words_7 c h)
end
section
theorem rf_words : ∀ c ∈ (Cond.code x code maxLocals ret :: tables_1), c.before start1.args0 rf_about = true := by
  intro c hc
  rcases List.mem_cons.mp hc with h | h
  · rw [h]; exact rf_easy_ok rf_push rfl start1.word_code
  · have h1 : c ∈ tables_1_1 ++ (tables_1_2 ++ (tables_1_3 ++ (tables_1_4 ++ (tables_1_5 ++ (tables_1_6 ++ (tables_1_7)))))) := h
    rcases List.mem_append.mp h1 with h2 | h1
    · exact rf_words_1 c h2
    rcases List.mem_append.mp h1 with h2 | h1
    · exact rf_words_2 c h2
    rcases List.mem_append.mp h1 with h2 | h1
    · exact rf_words_3 c h2
    rcases List.mem_append.mp h1 with h2 | h1
    · exact rf_words_4 c h2
    rcases List.mem_append.mp h1 with h2 | h1
    · exact rf_words_5 c h2
    rcases List.mem_append.mp h1 with h2 | h1
    · exact rf_words_6 c h2
    exact rf_words_7 c h1
set_option maxRecDepth 16384 in
theorem rf_atStart : AtStart classFile x code maxLocals ret World_1 tables_1 room_1 Calls_1 rest_1 Pre_1 launch0 start1.p0 start1.e0 rf_about ⟨0, 0⟩ start1.args0 Lib.HandBits.below0 :=
  ⟨lists_1, trivial, launch0.admits_env _ _ _, launch0.least_env, fairChoices_fair.cas, fairChoices_fair.clock, rfl, by decide +kernel, by decide +kernel,
    (Spec.applies_iff rfl).mpr ⟨rfl, rfl, rfl, by decide +kernel, by decide +kernel, by decide +kernel, launch0.hasRoom_least _ room_1 (by decide +kernel) (by decide +kernel) (by decide +kernel) (by decide +kernel) (by decide +kernel) (by decide +kernel), atoms_intro rf_words⟩,
    trivial, (show rest_1_c.before start1.args0 rf_about = true by decide +kernel), (show (Cond.and given_1 narrow_1).before start1.args0 rf_about = true by decide +kernel)⟩
end
section
/-! THE CLAIM IS FALSE AS IT IS PRINTED: at the start rf_about, which meets every premise, the law never ends -/
theorem rf_false_1 : ¬ Claimed_1_1 := by
  intro h
  have hC := h launch0 rfl lists_1 trivial
  obtain ⟨hL, hW, hadm, hleast, hcas, hclk, hfr, hargs, hheap, happ, hcalls, hrest, hpre⟩ := rf_atStart
  obtain ⟨n, o, hw, hrun, hend, hpost⟩ := hC start1.p0 start1.e0 hadm hcas hclk rf_about ⟨0, 0⟩ start1.args0 Lib.HandBits.below0 hfr hargs hheap happ ⟨hcalls, hrest, hpre⟩
  exact rf_open (rf_never n) hend
theorem rf_false_2 : ¬ Claimed_1_2 := by
  intro h
  have hC := h launch0 rfl lists_1 trivial
  obtain ⟨hL, hW, hadm, hleast, hcas, hclk, hfr, hargs, hheap, happ, hcalls, hrest, hpre⟩ := rf_atStart
  obtain ⟨n, o, hw, hrun, hend, hpost⟩ := hC start1.p0 start1.e0 hadm hcas hclk rf_about ⟨0, 0⟩ start1.args0 Lib.HandBits.below0 hfr hargs hheap happ ⟨hcalls, hrest, hpre⟩
  exact rf_open (rf_never n) hend
theorem rf_false : ¬ (Claimed_1_1 ∧ Claimed_1_2) := fun h => rf_false_1 h.1
end

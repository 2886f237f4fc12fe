def rf_ne (s : State) : Bool := match s.frames with
  | .java _ :: _ :: _ => true
  | .invoking _ _ :: _ :: _ => true
  | _ => false
def rf_chk (tb : Tables) (e : Env) (s : State) : Bool := match s.frames with
  | .java f :: _ => Nat.beq f.pc 0 && (overridden tb e s f).isNone && (match (s.code? f.method).map (fun c => decode c.code f.pc) with
    | some (.ok (.goto 0, 3)) => true
    | _ => false)
  | _ => false
set_option maxRecDepth 16384 in
theorem rf_low : ((List.range 18).all fun n => rf_ne (stepsAlone start1.p0.tables start1.e0 n rf_about)) = true := by decide +kernel
set_option maxRecDepth 16384 in
theorem rf_at : rf_chk start1.p0.tables start1.e0 (stepsAlone start1.p0.tables start1.e0 17 rf_about) = true := by decide +kernel
theorem rf_exec : start1.p0.tables.exec = Jvm.exec := rfl
theorem rf_stay {tb : Tables} {e : Env} {s : State} (hx : tb.exec = Jvm.exec) (h : rf_chk tb e s = true) : (stepThread tb e s).1 = s := by
  unfold rf_chk at h
  split at h
  case h_2 => cases h
  case h_1 f rest hf =>
    simp only [Bool.and_eq_true] at h
    obtain ⟨⟨h0, h1⟩, h2⟩ := h
    have hpc : f.pc = 0 := Nat.eq_of_beq_eq_true h0
    have hov : overridden tb e s f = none := by simpa using h1
    split at h2
    case h_2 => cases h2
    case h_1 hd =>
      have hs : stepThread tb e s = afterInstr e 3 ((Jvm.exec (.goto 0)).run e s) := by
        unfold stepThread
        rw [hf]
        simp only [hov]
        rw [hd, hx]
      have ht : s.topJava? = some f := by unfold State.topJava?; rw [hf]
      have hr : afterInstr e 3 ((Jvm.exec (.goto 0)).run e s) = (match s.topJava? with
        | some f => if (f.pc : Int) + 0 < 0 then (s.halt (.illTyped "a branch to a negative address"), [.mark "op.goto"]) else (s.modifyTopJava fun f => { f with pc := ((f.pc : Int) + 0).toNat }, [.mark "op.goto"])
        | none => (s.halt (.modelBug "a branch without a bytecode frame"), [.mark "op.goto"])) := rfl
      rw [hs, hr, ht]
      simp only [hpc]
      rw [if_neg (by decide)]
      show s.modifyTopJava (fun f => { f with pc := ((f.pc : Int) + 0).toNat }) = s
      have hm : s.threads.modify s.cur (fun t => match t.frames with
        | .java f :: rest => { t with frames := .java { f with pc := ((f.pc : Int) + 0).toNat } :: rest }
        | _ => t) = s.threads := by
        apply Array.ext_getElem?
        intro j
        rw [Array.getElem?_modify]
        split
        · rename_i hj
          subst hj
          cases hq : s.threads[s.cur]? with
          | none => rfl
          | some t =>
            have hft : t.frames = .java f :: rest := by
              have h9 := hf
              unfold State.frames at h9
              simpa [hq] using h9
            simp only [Option.map_some, hft]
            congr 1
            have hfe : ({ f with pc := ((f.pc : Int) + 0).toNat } : JFrame) = f := by
              cases f with
              | mk a b c d g h i =>
                have hb : b = 0 := hpc
                subst hb
                rfl
            have hte : ({ t with frames := .java f :: rest } : Thread) = t := by
              rw [← hft]
            rw [hfe]
            exact hte
        · rfl
      exact congrArg (fun th => ({ s with threads := th } : State)) hm
theorem rf_stays {tb : Tables} {e : Env} {s : State} (hx : tb.exec = Jvm.exec) (h : rf_chk tb e s = true) (n : Nat) : stepsAlone tb e n s = s := by
  induction n with
  | zero => rfl
  | succ n ih =>
    unfold stepsAlone
    split
    · rw [rf_stay hx h]; exact ih
    · rfl
theorem rf_never (n : Nat) : rf_ne (stepsAlone start1.p0.tables start1.e0 n rf_about) = true := by
  by_cases hn : n < 18
  · exact List.all_eq_true.mp rf_low n (List.mem_range.mpr hn)
  · obtain ⟨k, rfl⟩ : ∃ k, n = 17 + k := ⟨n - 17, by omega⟩
    rw [stepsAlone_add, rf_stays rf_exec rf_at]
    exact List.all_eq_true.mp rf_low 17 (List.mem_range.mpr (by decide))
theorem rf_open {s : State} {o : Outcome} (h : rf_ne s = true) (he : Ended s Lib.HandBits.below0 o) : False := by
  cases o with
  | threw a =>
    have h1 : s.frames = .throwing a :: Lib.HandBits.below0 := he
    unfold rf_ne at h
    rw [h1] at h
    cases h
  | returned v =>
    have h1 : s.frames = [.native { ({ method := ⟨0, 0⟩, args := #[] } : NFrame) with awaiting := false, answer := some (.returned v) }] := he
    unfold rf_ne at h
    rw [h1] at h
    cases h

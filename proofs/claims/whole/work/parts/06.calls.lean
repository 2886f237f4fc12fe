/-! contracts, returns, entry, calls -/
def am_Pc (g : am_G) (σ : am_S) (av : List Value) : Array Value → State → Prop := va_Pc (av.map (am_rv g)) (fun U => am_I g σ U.heap ∧ am_E g U)
def am_Qc (g : am_G) (σ' : am_S) (r : Option Value) : Array Value → State → Outcome → State → Prop := fun _ st oc t => oc = .returned (r.map (am_rv g)) ∧ am_I g σ' t.heap ∧ st.heap.size ≤ t.heap.size ∧ ∀ q : Nat, q < st.heap.size → ¬ am_A g q → t.heap[q]? = st.heap[q]?
/-- the contract of a method: from the world σ with the arguments av it comes to σ' with the answer r -/
def am_C (y : MethodName) (cc : ByteArray) (maxL : Nat) (ret : Option FieldType) (fr lc : Nat) (av : List Value) (σ : am_S) (r : Option Value) (σ' : am_S) : Prop := ∀ (l : Launch) (g : am_G), Met l y (.code y cc maxL ret :: am_tb) { frames := fr, cells := σ'.1 - σ.1, slots := am_su σ'.1 - am_su σ.1, locals := lc } (am_Pc g σ av) (am_Qc g σ' r) (σ'.1 - σ.1) (am_su σ'.1 - am_su σ.1) (am_A g)
/-- the activation of a method that must answer r with the world σ' -/
def am_B (X : am_X) (ret : Option FieldType) (r : Option Value) (σ' : am_S) : Prop := match X with
  | (_, _, _, _, s, _, args, below, meth, _, Q, g, n0) => Q = MQ below (am_Qc g σ' r) args s (σ'.1 - n0) (am_su σ'.1 - am_su n0) (am_A g) ∧ meth.sig.returnType = ret
/-- its room -/
def am_RN (X : am_X) (fr lc N : Nat) : Prop := match X with
  | (_, _, _, R, _, _, _, _, _, _, _, _, n0) => fr ≤ R.frames ∧ lc ≤ R.locals ∧ N - n0 ≤ R.cells ∧ am_su N - am_su n0 ≤ R.slots
abbrev am_R (X : am_X) (fr lc : Nat) : Prop := am_RN X fr lc am_NN
def am_nm (X : am_X) (nm : String) : Prop := match X with
  | (_, _, _, _, _, _, _, _, meth, _, _, _, _) => meth.name = nm
theorem am_E.same {g : am_G} {u U : State} (hv : u.vm = U.vm) (hh : U.heap = u.heap) (h : am_E g u) : am_E g U := by
  have hA : u.vm.Alike U.vm := by rw [hv]; exact Vm.Alike.refl _
  refine ⟨va_K.moved hA h.1, fun w hw hi => ?_, fun i hi => vk_R.same hv.symm (h.2.2.1 i hi), by rw [hh]; exact am_O.moved hA h.2.2.2⟩
  have h1 := h.2.1 w hw hi
  cases w
  case methodLinkNest => exact va_Nw.same rfl hv h1
  case fieldLinkNest => exact va_Nw.same rfl hv h1
  all_goals (exact (nomatch (show false = true from hi)))
theorem am_blind {g : am_G} {σ : am_S} {av : List Value} : FrameBlind (am_Pc g σ av) := fun a U gg mk h => ⟨h.1, h.2.1, am_E.same (u := U) (U := U.calling gg mk a) rfl rfl h.2.2⟩
theorem am_args {g : am_G} (av : List Value) : ∀ i, lv_args i (av.map (am_rv g)) = am_ml g (lv_args i av) := by
  induction av with
  | nil => intro i; rfl
  | cons v t ih =>
    intro i
    show (i, am_rv g v) :: lv_args (if (am_rv g v).category = 2 then i + 2 else i + 1) (t.map (am_rv g)) = (i, am_rv g v) :: am_ml g (lv_args (if v.category = 2 then i + 2 else i + 1) t)
    rw [am_rv_cat, ih]
theorem am_slen {g : am_G} (av : List Value) : (lg_sl (av.map (am_rv g))).length = (lg_sl av).length := by
  induction av with
  | nil => rfl
  | cons v t ih =>
    have h1 : ∀ (w : Value) (r : List Value), (lg_sl (w :: r)).length = (if w.category = 2 then 2 else 1) + (lg_sl r).length := by
      intro w r
      simp only [lg_sl, List.flatMap_cons, List.length_append]
      congr 1
      split <;> rfl
    rw [List.map_cons, h1, h1, am_rv_cat, ih]
theorem am_enterN {N : Nat} {y : MethodName} {cc : ByteArray} {maxL : Nat} {ret : Option FieldType} {fr lc : Nat} {av : List Value} {σ σ' : am_S} {r : Option Value} (hy : plainName y.cls = true) (hlen : (lg_sl av).length ≤ maxL) (hR : N - σ.1 ≤ σ'.1 - σ.1 ∧ am_su N - am_su σ.1 ≤ am_su σ'.1 - am_su σ.1)
    (body : ∀ X, am_F X y.cls cc maxL → am_RN X fr lc N → am_nm X y.name → am_B X ret r σ' → am_W X maxL (0, lv_args 0 av, [], σ)) : am_C y cc maxL ret fr lc av σ r σ' := by
  intro l g
  refine Met.ofW (cc := cc) (maxL := maxL) (ret := ret) hy rfl ?_
  intro p e s m args below meth c s₁ B hml hv
  obtain ⟨rfl, hI, hE⟩ := hv
  have hts := atoms_spec B.pre
  have hown : s.vm.findClass y.cls = some m.cls := findClass_of_methodNamed B.named
  have hw := body (p, l, e, (headSpec (.code y cc maxL ret :: am_tb) { frames := fr, cells := σ'.1 - σ.1, slots := am_su σ'.1 - am_su σ.1, locals := lc }).room, s, m, (av.map (am_rv g)).toArray, below, meth, c, MQ below (am_Qc g σ' r) (av.map (am_rv g)).toArray s (σ'.1 - σ.1) (am_su σ'.1 - am_su σ.1) (am_A g), g, σ.1)
    ⟨B.exec, B.bytes, hml, hown, fun w hw => hts w (List.mem_cons_of_mem _ hw), hE, B.notSynchronized, Nat.le_trans (Nat.le_add_right _ _) hI.1.2⟩ ⟨Nat.le_refl _, Nat.le_refl _, hR.1, hR.2⟩ (name_of_methodNamed B.named B.method).1 ⟨rfl, B.returns⟩
  have hl := lv_entry (av.map (am_rv g)) (n := maxL) (by rw [am_slen]; exact hlen)
  rw [am_args] at hl
  have := hw s.heap [] _ (Nat.le_refl _) hI va_S.rf hl
  rw [lg_entry_eq]
  simp only [Nat.sub_self] at this
  exact this
theorem am_enter {y : MethodName} {cc : ByteArray} {maxL : Nat} {ret : Option FieldType} {fr lc : Nat} {av : List Value} {σ σ' : am_S} {r : Option Value} (hy : plainName y.cls = true) (hlen : (lg_sl av).length ≤ maxL) (hR : am_NN - σ.1 ≤ σ'.1 - σ.1 ∧ am_su am_NN - am_su σ.1 ≤ am_su σ'.1 - am_su σ.1)
    (body : ∀ X, am_F X y.cls cc maxL → am_R X fr lc → am_B X ret r σ' → am_W X maxL (0, lv_args 0 av, [], σ)) : am_C y cc maxL ret fr lc av σ r σ' :=
  am_enterN hy hlen hR (fun X hF hR _ hB => body X hF hR hB)
section
variable {X : am_X} {own : String} {cc : ByteArray} {nL pc : Nat} {lv : List (Nat × Value)} {st : List Value} {σ : am_S}
theorem am_ret_Q {g : am_G} {s t : State} {H : Heap} {locs : List Loc} {args : Array Value} {r : Option Value} (hI : am_I g σ H) (hS : va_S (am_A g) s.heap H locs) (ht : t.heap = H) : am_Qc g σ r args s (.returned (r.map (am_rv g))) t :=
  ⟨rfl, by rw [ht]; exact hI, by rw [ht]; exact hS.1, fun q h1 h2 => by rw [ht]; exact hS.2.1 q h1 h2⟩
theorem am_iret {x : Int32} (hd : decode cc pc = .ok (.ireturn, 1)) (hF : am_F X own cc nL) (hB : am_B X (some .int) (some (.int x)) σ) : am_W X nL (pc, lv, [.int x], σ) := by
  obtain ⟨p, l, e, R, s, m, args, below, meth, c, Q, g, n0⟩ := X
  intro H locs ls hn hI hS hl
  obtain ⟨rfl, hr⟩ := hB
  exact W.iret hF.1 hF.2.1 hr (fun t ht _ => am_ret_Q hI hS ht) hS.2.2 hd hF.2.2.2.2.2.2.1
theorem am_zret {x : Int32} {ty : FieldType} (hd : decode cc pc = .ok (.ireturn, 1)) (hn0 : narrow ty (.int x) = .int x) (hF : am_F X own cc nL) (hB : am_B X (some ty) (some (.int x)) σ) : am_W X nL (pc, lv, [.int x], σ) := by
  obtain ⟨p, l, e, R, s, m, args, below, meth, c, Q, g, n0⟩ := X
  intro H locs ls hn hI hS hl
  obtain ⟨rfl, hr⟩ := hB
  exact W.zret hF.1 hF.2.1 hr hn0 (fun t ht _ => am_ret_Q hI hS ht) hS.2.2 hd hF.2.2.2.2.2.2.1
theorem am_lret {x : Int64} (hd : decode cc pc = .ok (.lreturn, 1)) (hF : am_F X own cc nL) (hB : am_B X (some .long) (some (.long x)) σ) : am_W X nL (pc, lv, [.long x], σ) := by
  obtain ⟨p, l, e, R, s, m, args, below, meth, c, Q, g, n0⟩ := X
  intro H locs ls hn hI hS hl
  obtain ⟨rfl, hr⟩ := hB
  exact W.lret hF.1 hF.2.1 hr (fun t ht _ => am_ret_Q hI hS ht) hS.2.2 hd hF.2.2.2.2.2.2.1
theorem am_vret (hd : decode cc pc = .ok (.return_, 1)) (hF : am_F X own cc nL) (hB : am_B X none none σ) : am_W X nL (pc, lv, [], σ) := by
  obtain ⟨p, l, e, R, s, m, args, below, meth, c, Q, g, n0⟩ := X
  intro H locs ls hn hI hS hl
  obtain ⟨rfl, hr⟩ := hB
  exact W.vret hF.1 hF.2.1 hr (fun t ht _ => am_ret_Q hI hS ht) hS.2.2 hd hF.2.2.2.2.2.2.1
end
section
variable {p : Program} {l : Launch} {e : Env} {R : Room} {s : State} {m : MethodId} {args : Array Value} {below : List Frame} {meth : Method} {c : Code} {H : Heap} {locs : List Loc} {cells slots mc ms : Nat} {Q : State → Prop} {pc : Nat} {ls : Array Slot} {st0 rest : List Value} {a : Array Value}
theorem am_run {g : am_G} {σ σ' : am_S} {r : Option Value} (hr : va_Run p l e R s m args below meth c H locs cells slots mc ms (F0 m pc ls st0) rest (am_Qc g σ' r a) (am_A g)) (hS : va_S (am_A g) s.heap H locs) (hI : am_I g σ H) (hle : σ.1 ≤ σ'.1)
    (kk : ∀ (H1 : Heap) (locs1 : List Loc), am_I g σ' H1 → va_S (am_A g) s.heap H1 locs1 → W p l e R s m args below meth c H1 locs1 (cells + mc) (slots + ms) Q (F0 m (pc + 3) ls ((r.map (am_rv g)).toList ++ rest))) : W p l e R s m args below meth c H locs cells slots Q (F0 m pc ls st0) := by
  intro T hT X
  obtain ⟨v, st₀, t, T', L, h0, X', hL, e1, e2, ⟨hv, hI1, hz, hk⟩, st⟩ := hr T hT X
  have hv : v = r.map (am_rv g) := by cases hv; rfl
  subst hv
  rw [h0] at hk hz
  have hz : H.size ≤ T'.heap.size := by rw [e1]; exact hz
  obtain ⟨t2, a1, b1⟩ := kk T'.heap (locs ++ L) (by rw [e1]; exact hI1)
    ⟨Nat.le_trans hS.1 hz, fun q h1 h2 => by rw [e1, hk q (Nat.lt_of_lt_of_le h1 hS.1) h2]; exact hS.2.1 q h1 h2, fun q hq => by
      rcases List.mem_append.mp hq with h | h
      · exact hS.2.2 q h
      · exact hL q h⟩ T' rfl X'
  exact ⟨t2, st t2 a1, b1⟩
end
theorem am_su_mono {a b : Nat} (h : a ≤ b) : am_su a ≤ am_su b := by
  obtain ⟨d, rfl⟩ := Nat.exists_eq_add_of_le h
  unfold am_su
  rw [List.take_add, List.sum_append_nat]
  exact Nat.le_add_right _ _
theorem am_good {y : MethodName} {cc : ByteArray} {maxL : Nat} {ret : Option FieldType} (h : Cond.code y cc maxL ret ∈ am_tb) : GoodIn am_tb (.code y cc maxL ret :: am_tb) := by
  intro w hw
  have hm : w ∈ am_tb := by
    rcases List.mem_cons.mp hw with h1 | h1
    · rw [h1]; exact h
    · exact h1
  exact ⟨hm, good_of_word (List.mem_filter.mp hm).2⟩
/-- the words of a call that need no world -/
def am_yok (y : MethodName) (n : Nat) : Bool := decide (y.cls ≠ "java/lang/invoke/MethodHandle") && decide (y.cls ≠ "java/lang/invoke/VarHandle") && decide ((parseMethodDescriptor y.desc).map (fun d => d.parameters.length) = some n)
theorem am_yok_of {y : MethodName} {n : Nat} (h : am_yok y n = true) : y.cls ≠ "java/lang/invoke/MethodHandle" ∧ y.cls ≠ "java/lang/invoke/VarHandle" ∧ (parseMethodDescriptor y.desc).map (fun d => d.parameters.length) = some n := by
  simp only [am_yok, Bool.and_eq_true, decide_eq_true_eq] at h
  exact ⟨h.1.1, h.1.2, h.2⟩
section
variable {X : am_X} {own : String} {cc : ByteArray} {nL pc fr lc : Nat} {lv : List (Nat × Value)} {st : List Value} {σ σ' : am_S}
variable {idx n maxL fr' lc' NN : Nat} {y : MethodName} {bytes : ByteArray} {ret : Option FieldType} {As : List Value} {r : Option Value}
theorem am_stk {g : am_G} {r : Option Value} {st : List Value} : (r.map (am_rv g)).toList ++ st.map (am_rv g) = (r.toList ++ st).map (am_rv g) := by cases r <;> rfl
theorem am_cat {g : am_G} {st : List Value} : ((st.map (am_rv g)).map fun v => v.category) = st.map fun v => v.category := by
  rw [List.map_map]
  exact List.map_congr_left fun v _ => am_rv_cat g v
theorem am_callS (hF : am_F X own cc nL) (hR : am_RN X fr lc NN) (hd : decode cc pc = .ok (.invokestatic idx, 3)) (hC : am_C y bytes maxL ret fr' lc' As σ r σ') (hle : σ.1 ≤ σ'.1) (hNN : σ'.1 ≤ NN) (hl : Cond.methodLink own idx y ∈ am_tb) (hst : Cond.static y ∈ am_tb) (hini : Cond.initialized y.cls ∈ am_tb) (hcode : Cond.code y bytes maxL ret ∈ am_tb) (hy : am_yok y n = true) (hn : As.length = n) (hr : fr' + 1 ≤ fr ∧ 8 + (maxL + 11) + lc' ≤ lc) (hW : (st.map fun v => v.category).sum ≤ 8)
    (k : am_W X nL (pc + 3, lv, r.toList ++ st, σ')) : am_W X nL (pc, lv, As.reverse ++ st, σ) := by
  obtain ⟨p, l, e, R, s, m, args, below, meth, c, Q, g, n0⟩ := X
  intro H locs ls hn0 hI hS hl0
  have hts := hF.2.2.2.2.1
  obtain ⟨hR1, hR2, hR3, hR4⟩ := hR
  have hn0 : n0 ≤ σ.1 := hn0
  have m1 := am_su_mono hn0
  have m2 := am_su_mono hle
  have m3 := am_su_mono hNN
  have cw : CallB R s args own idx y bytes maxL ret (.code y bytes maxL ret :: am_tb) { frames := fr', cells := σ'.1 - σ.1, slots := am_su σ'.1 - am_su σ.1, locals := lc' } (σ'.1 - σ.1) (am_su σ'.1 - am_su σ.1) n ∧ (Cond.static y).before args s = true :=
    ⟨callB_of n hts (am_good hcode) rfl rfl rfl (hts _ hini) (hts _ hl) (am_yok_of hy) ⟨Nat.le_trans hr.1 hR1, Nat.le_trans hr.2 hR2⟩, hts _ hst⟩
  have hrun := va_runS (g := F0 m pc ls ((As.reverse ++ st).map (am_rv g))) (rest := st.map (am_rv g)) (As := As.map (am_rv g)) (locs := locs) (cells := σ.1 - n0) (slots := am_su σ.1 - am_su n0) (below := below) (e := e) (meth := meth) ⟨hF.1, hF.2.1, hF.2.2.1, hF.2.2.2.1, hts⟩ (hC l g) cw ⟨am_blind, fun U hU hW => ⟨rfl, by rw [hU]; exact hI, hF.2.2.2.2.2.1.step hW (fun q h1 h2 => by rw [hU]; exact hS.2.1 q h1 h2)⟩⟩ rfl (by rw [List.length_map]; exact hn) hl0.1 (by rw [List.map_append, List.map_reverse]) (lv_room (by rw [am_cat]; exact hW)) hd ⟨by omega, by omega⟩
  refine am_run hrun hS hI hle fun H1 locs1 hI1 hS1 => ?_
  have hk := k H1 locs1 ls (Nat.le_trans hn0 hle) hI1 hS1 hl0
  rw [am_stk]
  have e1 : σ.1 - n0 + (σ'.1 - σ.1) = σ'.1 - n0 := by omega
  have e2 : am_su σ.1 - am_su n0 + (am_su σ'.1 - am_su σ.1) = am_su σ'.1 - am_su n0 := by omega
  rw [e1, e2]
  exact hk
theorem am_callSN {host : String} (hF : am_F X own cc nL) (hR : am_RN X fr lc NN) (hd : decode cc pc = .ok (.invokestatic idx, 3)) (hC : am_C y bytes maxL ret fr' lc' As σ r σ') (hle : σ.1 ≤ σ'.1) (hNN : σ'.1 ≤ NN) (hl : Cond.methodLinkNest own idx y host ∈ tables_1) (hst : Cond.static y ∈ am_tb) (hini : Cond.initialized y.cls ∈ am_tb) (hcode : Cond.code y bytes maxL ret ∈ am_tb) (hy : am_yok y n = true) (hn : As.length = n) (hr : fr' + 1 ≤ fr ∧ 8 + (maxL + 11) + lc' ≤ lc) (hW : (st.map fun v => v.category).sum ≤ 8)
    (k : am_W X nL (pc + 3, lv, r.toList ++ st, σ')) : am_W X nL (pc, lv, As.reverse ++ st, σ) := by
  obtain ⟨p, l, e, R, s, m, args, below, meth, c, Q, g, n0⟩ := X
  intro H locs ls hn0 hI hS hl0
  have hts := hF.2.2.2.2.1
  obtain ⟨hR1, hR2, hR3, hR4⟩ := hR
  have hn0 : n0 ≤ σ.1 := hn0
  have m1 := am_su_mono hn0
  have m2 := am_su_mono hle
  have m3 := am_su_mono hNN
  have cw : va_CN R s args own idx y host bytes maxL ret (.code y bytes maxL ret :: am_tb) { frames := fr', cells := σ'.1 - σ.1, slots := am_su σ'.1 - am_su σ.1, locals := lc' } (σ'.1 - σ.1) (am_su σ'.1 - am_su σ.1) n :=
    va_cnB n hts (am_good hcode) rfl rfl rfl (hF.2.2.2.2.2.1.2.1 _ hl rfl) (hts _ hini) (am_yok_of hy) ⟨Nat.le_trans hr.1 hR1, Nat.le_trans hr.2 hR2⟩
  have hrun := va_runSN (g := F0 m pc ls ((As.reverse ++ st).map (am_rv g))) (rest := st.map (am_rv g)) (As := As.map (am_rv g)) (locs := locs) (cells := σ.1 - n0) (slots := am_su σ.1 - am_su n0) (below := below) (e := e) (meth := meth) ⟨hF.1, hF.2.1, hF.2.2.1, hF.2.2.2.1, hts⟩ (hC l g) ⟨cw, hts _ hst, trivial⟩ ⟨am_blind, fun U hU hW => ⟨rfl, by rw [hU]; exact hI, hF.2.2.2.2.2.1.step hW (fun q h1 h2 => by rw [hU]; exact hS.2.1 q h1 h2)⟩⟩ rfl (by rw [List.length_map]; exact hn) hl0.1 (by rw [List.map_append, List.map_reverse]) (lv_room (by rw [am_cat]; exact hW)) hd ⟨by omega, by omega⟩
  refine am_run hrun hS hI hle fun H1 locs1 hI1 hS1 => ?_
  have hk := k H1 locs1 ls (Nat.le_trans hn0 hle) hI1 hS1 hl0
  rw [am_stk]
  have e1 : σ.1 - n0 + (σ'.1 - σ.1) = σ'.1 - n0 := by omega
  have e2 : am_su σ.1 - am_su n0 + (am_su σ'.1 - am_su σ.1) = am_su σ'.1 - am_su n0 := by omega
  rw [e1, e2]
  exact hk
theorem am_callV {b ci N : Nat} {T : u_T} (hF : am_F X own cc nL) (hR : am_RN X fr lc NN) (hd : decode cc pc = .ok (.invokevirtual idx, 3)) (hC : am_C y bytes maxL ret fr' lc' (.ref b :: As) σ r σ') (hle : σ.1 ≤ σ'.1) (hNN : σ'.1 ≤ NN) (hl : Cond.methodLink own idx y ∈ am_tb) (hst : Cond.instanceMethod y ∈ am_tb) (hsel : Cond.selects y.cls y y ∈ am_tb) (hini : Cond.initialized y.cls ∈ am_tb) (hcode : Cond.code y bytes maxL ret ∈ am_tb) (hb : b < σ.1) (hb2 : b < 1000) (hsh : am_sh b = (0, ci)) (hc : am_cl[ci]? = some (y.cls, T, N)) (hy : am_yok y n = true) (hn : As.length = n) (hr : fr' + 1 ≤ fr ∧ 8 + (maxL + 11) + lc' ≤ lc) (hW : (st.map fun v => v.category).sum ≤ 8)
    (k : am_W X nL (pc + 3, lv, r.toList ++ st, σ')) : am_W X nL (pc, lv, As.reverse ++ .ref b :: st, σ) := by
  obtain ⟨p, l, e, R, s, m, args, below, meth, c, Q, g, n0⟩ := X
  intro H locs ls hn0 hI hS hl0
  have hts := hF.2.2.2.2.1
  obtain ⟨hR1, hR2, hR3, hR4⟩ := hR
  have hn0 : n0 ≤ σ.1 := hn0
  have m1 := am_su_mono hn0
  have m2 := am_su_mono hle
  have m3 := am_su_mono hNN
  have cw : CallW R s args own y.cls idx y bytes maxL ret (.code y bytes maxL ret :: am_tb) { frames := fr', cells := σ'.1 - σ.1, slots := am_su σ'.1 - am_su σ.1, locals := lc' } (σ'.1 - σ.1) (am_su σ'.1 - am_su σ.1) n :=
    ⟨callB_of n hts (am_good hcode) rfl rfl rfl (hts _ hini) (hts _ hl) (am_yok_of hy) ⟨Nat.le_trans hr.1 hR1, Nat.le_trans hr.2 hR2⟩, hts _ hst, hts _ hsel⟩
  have hrun := va_runV (C := y.cls) (b := am_ad g b) (g := F0 m pc ls ((As.reverse ++ .ref b :: st).map (am_rv g))) (rest := st.map (am_rv g)) (As := As.map (am_rv g)) (locs := locs) (cells := σ.1 - n0) (slots := am_su σ.1 - am_su n0) (below := below) (e := e) (meth := meth) ⟨hF.1, hF.2.1, hF.2.2.1, hF.2.2.2.1, hts⟩ (hC l g) cw ⟨am_blind, by rw [am_ad_lt hb2]; exact va_recv hF.2.2.2.2.2.1.1 hI.2.2 hc ((am_ws_at hb).trans (congrArg (fun e => some (g.1 + b, e)) (am_el_obj hsh))), fun U hU hW => ⟨rfl, by rw [hU]; exact hI, hF.2.2.2.2.2.1.step hW (fun q h1 h2 => by rw [hU]; exact hS.2.1 q h1 h2)⟩⟩ rfl (by rw [List.length_map]; exact hn) hl0.1 (by rw [List.map_append, List.map_reverse, List.map_cons]; rfl) (lv_room (by rw [am_cat]; exact hW)) hd ⟨by omega, by omega⟩
  refine am_run hrun hS hI hle fun H1 locs1 hI1 hS1 => ?_
  have hk := k H1 locs1 ls (Nat.le_trans hn0 hle) hI1 hS1 hl0
  rw [am_stk]
  have e1 : σ.1 - n0 + (σ'.1 - σ.1) = σ'.1 - n0 := by omega
  have e2 : am_su σ.1 - am_su n0 + (am_su σ'.1 - am_su σ.1) = am_su σ'.1 - am_su n0 := by omega
  rw [e1, e2]
  exact hk
end

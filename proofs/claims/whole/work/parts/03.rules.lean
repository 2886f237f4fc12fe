/-! what stands outside the world: nest words, String constants, static rows -/
def am_isN : Cond → Bool
  | .methodLinkNest _ _ _ _ => true
  | .fieldLinkNest _ _ _ _ _ _ => true
  | _ => false
def am_tb : List Cond := lw_tbl.filter goodWord
def am_sx : List Nat := [84, 92, 97, 99, 101, 103, 105, 90, 67, 125, 127, 129, 131, 117, 76, 135, 137, 138, 140]
def am_sw : List String := ["all", "roof", "lift", "lamps", "water", "fire", "agent", "and", "pays", "nothing", "equal", "area", "floor", "of", "if", "not", "shop", "above", "below"]
def am_len : List Nat := [3, 4, 4, 5, 5, 4, 5, 3, 4, 7, 5, 4, 5, 2, 2, 3, 4, 5, 5]
def am_byt : List (List Int32) := [[97, 108, 108], [114, 111, 111, 102], [108, 105, 102, 116], [108, 97, 109, 112, 115], [119, 97, 116, 101, 114], [102, 105, 114, 101], [97, 103, 101, 110, 116], [97, 110, 100], [112, 97, 121, 115], [110, 111, 116, 104, 105, 110, 103], [101, 113, 117, 97, 108], [97, 114, 101, 97], [102, 108, 111, 111, 114], [111, 102], [105, 102], [110, 111, 116], [115, 104, 111, 112], [97, 98, 111, 118, 101], [98, 101, 108, 111, 119]]
def am_RA : List Int32 := [540, 250, 30, 20, 0, 0]
def am_RM : List Int32 := [900, 9999, 90, 99, 99999, 9999]
def am_A (g : am_G) : Nat → Prop := fun q => g.1 ≤ q
def am_O (g : am_G) (U : State) (H : Heap) : Prop := vk_S 19 am_len am_byt (fun i => g.2.2.2 (1000 + i)) (fun i => g.2.2.2 (1050 + i)) (am_A g) U H ∧ va_Z "java/lang/String" "COMPACT_STRINGS" "Z" (.int 1) (am_A g) U H ∧ (va_Z "ShareHouse" "RULES_AT_FIRST" "[I" (.ref (g.2.2.2 1100)) (am_A g) U H ∧ va_T .int (g.2.2.2 1100) 6 (fun j => .int (am_RA.getD j 0)) (am_A g) U H) ∧ va_Z "ShareHouse" "RULES_MOST" "[I" (.ref (g.2.2.2 1101)) (am_A g) U H ∧ va_T .int (g.2.2.2 1101) 6 (fun j => .int (am_RM.getD j 0)) (am_A g) U H
def am_E (g : am_G) (U : State) : Prop := va_K g.2.1 am_cl (am_tys g) U ∧ (∀ w ∈ tables_1, am_isN w = true → va_Nw w U) ∧ (∀ i, i < 19 → vk_R "ShareHouse$Tape" (am_sx.getD i 0) (am_sw.getD i "") (g.2.2.2 (1000 + i)) U) ∧ am_O g U U.heap
theorem am_O.moved {g : am_G} {u U : State} {H : Heap} (hvm : u.vm.Alike U.vm) (h : am_O g u H) : am_O g U H := ⟨vk_S.moved hvm h.1, va_Z.moved hvm h.2.1, ⟨va_Z.moved hvm h.2.2.1.1, va_T.moved hvm h.2.2.1.2⟩, va_Z.moved hvm h.2.2.2.1, va_T.moved hvm h.2.2.2.2⟩
theorem am_O.kept {g : am_G} {U : State} {H H1 : Heap} (h : am_O g U H) (hq : ∀ a : Nat, a < H.size → ¬ am_A g a → H1[a]? = H[a]?) : am_O g U H1 := ⟨h.1.kept hq, h.2.1.kept hq, ⟨h.2.2.1.1.kept hq, h.2.2.1.2.kept hq⟩, h.2.2.2.1.kept hq, h.2.2.2.2.kept hq⟩
theorem am_Nw_warm {s U : State} (hW : s.WarmedH U.vm) {w : Cond} (hi : am_isN w = true) (h : va_Nw w s) : va_Nw w U := by
  cases w
  case methodLinkNest => exact va_Nw.warmM hW h
  case fieldLinkNest => exact va_Nw.warmF hW h
  all_goals (exact (nomatch (show false = true from hi)))
theorem am_E.step {g : am_G} {s U : State} (h : am_E g s) (hW : s.WarmedH U.vm) (hq : ∀ a : Nat, a < s.heap.size → ¬ am_A g a → U.heap[a]? = s.heap[a]?) : am_E g U :=
  ⟨va_K.moved hW.alike h.1, fun w hw hi => am_Nw_warm hW hi (h.2.1 w hw hi), fun i hi => vk_R.warm hW (h.2.2.1 i hi), (am_O.moved hW.alike h.2.2.2).kept hq⟩
/-- an activation: program, launch, environment, room, start, method, arguments, frames below, method, code, aim, the world's data, how many cells stood -/
abbrev am_X : Type := Program × Launch × Env × Room × State × MethodId × Array Value × List Frame × Method × Code × (State → Prop) × am_G × Nat
def am_suL : List Nat := am_shL.map (fun q => if q.1 = 0 then am_nf q.2 else q.2)
def am_su (n : Nat) : Nat := (am_suL.take n).sum
abbrev am_Y : Type := Nat × List (Nat × Value) × List Value × am_S
def am_W (X : am_X) (nL : Nat) (x : am_Y) : Prop := match X with
  | (p, l, e, R, s, m, args, below, meth, c, Q, g, n0) => ∀ (H : Heap) (locs : List Loc) (ls : Array Slot), n0 ≤ x.2.2.2.1 → am_I g x.2.2.2 H → va_S (am_A g) s.heap H locs → lv_has ls nL (am_ml g x.2.1) →
    W p l e R s m args below meth c H locs (x.2.2.2.1 - n0) (am_su x.2.2.2.1 - am_su n0) Q (F0 m x.1 ls (x.2.2.1.map (am_rv g)))
def am_F (X : am_X) (own : String) (cc : ByteArray) (nL : Nat) : Prop := match X with
  | (p, l, e, R, s, m, args, below, meth, c, Q, g, n0) => p.tables.exec = Jvm.exec ∧ c.code = cc ∧ c.maxLocals = nL ∧ s.vm.findClass own = some m.cls ∧ (∀ w ∈ am_tb, w.before args s = true) ∧ am_E g s ∧ meth.locks = false ∧ g.1 ≤ s.heap.size
theorem am_tbI {i : Nat} {w : Cond} (h : tables_1[i]? = some w) (hg : goodWord w = true) : w ∈ am_tb := List.mem_filter.mpr ⟨List.mem_append_right _ (List.mem_of_getElem? h), hg⟩
theorem am_tbP {i : Nat} {q : MethodName × Nat} (h : lw_privs[i]? = some q) : Cond.selects q.1.cls q.1 q.1 ∈ am_tb := List.mem_filter.mpr ⟨List.mem_append_left _ (List.mem_map.mpr ⟨q, List.mem_of_getElem? h, rfl⟩), rfl⟩
def am_av (σ : am_S) (k b : Nat) (t : FieldType) : Option Value := match t with
  | .int => some (.int (σ.2.1.1 k b))
  | .boolean => some (.int (σ.2.1.1 k b))
  | .long => some (.long (σ.2.1.2 k b))
  | _ => (σ.2.2 k b).map Value.ref
/-! simple instructions: (pc, instruction, a, b, place of a word, a value) -/
abbrev am_Q : Type := Nat × Instr × Nat × Nat × Nat × Value
def am_ln : Instr → Nat
  | .bipush _ => 2
  | .sipush _ => 3
  | .ldc _ => 2
  | .ldc_w _ => 3
  | .ldc2_w _ => 3
  | .iload _ => 2
  | .lload _ => 2
  | .aload _ => 2
  | .istore _ => 2
  | .lstore _ => 2
  | .astore _ => 2
  | .iinc _ _ => 3
  | .getfield _ => 3
  | .putfield _ => 3
  | .goto _ => 3
  | _ => 1
def am_op (nL pc : Nat) (i : Instr) (a b : Nat) (v : Value) (lv : List (Nat × Value)) (st : List Value) (σ : am_S) : Option am_Y := match i with
  | .iconst _ => some (pc + am_ln i, lv, v :: st, σ)
  | .bipush _ => some (pc + am_ln i, lv, v :: st, σ)
  | .sipush _ => some (pc + am_ln i, lv, v :: st, σ)
  | .ldc_w _ => some (pc + am_ln i, lv, v :: st, σ)
  | .lconst _ => some (pc + am_ln i, lv, v :: st, σ)
  | .ldc2_w _ => some (pc + am_ln i, lv, v :: st, σ)
  | .ldc _ => some (pc + 2, lv, v :: st, σ)
  | .iload_n k => match am_lg lv k with | some (.int x) => some (pc + 1, lv, .int x :: st, σ) | _ => none
  | .iload k => match am_lg lv k with | some (.int x) => some (pc + 2, lv, .int x :: st, σ) | _ => none
  | .lload_n k => match am_lg lv k with | some (.long x) => some (pc + 1, lv, .long x :: st, σ) | _ => none
  | .lload k => match am_lg lv k with | some (.long x) => some (pc + 2, lv, .long x :: st, σ) | _ => none
  | .aload_n k => match am_lg lv k with | some (.ref x) => some (pc + 1, lv, .ref x :: st, σ) | _ => none
  | .aload k => match am_lg lv k with | some (.ref x) => some (pc + 2, lv, .ref x :: st, σ) | _ => none
  | .istore_n k => match st with | .int x :: r => (bif Nat.blt k nL then some (pc + 1, am_l1 lv k (.int x), r, σ) else none) | _ => none
  | .istore k => match st with | .int x :: r => (bif Nat.blt k nL then some (pc + 2, am_l1 lv k (.int x), r, σ) else none) | _ => none
  | .astore_n k => match st with | .ref x :: r => (bif Nat.blt k nL then some (pc + 1, am_l1 lv k (.ref x), r, σ) else none) | _ => none
  | .astore k => match st with | .ref x :: r => (bif Nat.blt k nL then some (pc + 2, am_l1 lv k (.ref x), r, σ) else none) | _ => none
  | .lstore_n k => match st with | .long x :: r => (bif Nat.blt (k + 1) nL then some (pc + 1, am_l2 lv k (.long x), r, σ) else none) | _ => none
  | .lstore k => match st with | .long x :: r => (bif Nat.blt (k + 1) nL then some (pc + 2, am_l2 lv k (.long x), r, σ) else none) | _ => none
  | .iinc k _ => match am_lg lv k, v with | some (.int x), .int d => (bif Nat.blt k nL then some (pc + 3, am_l1 lv k (.int (x + d)), st, σ) else none) | _, _ => none
  | .iadd => match st with | .int y :: .int x :: r => some (pc + 1, lv, .int (x + y) :: r, σ) | _ => none
  | .isub => match st with | .int y :: .int x :: r => some (pc + 1, lv, .int (x - y) :: r, σ) | _ => none
  | .imul => match st with | .int y :: .int x :: r => some (pc + 1, lv, .int (x * y) :: r, σ) | _ => none
  | .iand => match st with | .int y :: .int x :: r => some (pc + 1, lv, .int (x &&& y) :: r, σ) | _ => none
  | .ior => match st with | .int y :: .int x :: r => some (pc + 1, lv, .int (x ||| y) :: r, σ) | _ => none
  | .ixor => match st with | .int y :: .int x :: r => some (pc + 1, lv, .int (x ^^^ y) :: r, σ) | _ => none
  | .ishl => match st with | .int y :: .int x :: r => some (pc + 1, lv, .int (x <<< (y &&& 31)) :: r, σ) | _ => none
  | .ishr => match st with | .int y :: .int x :: r => some (pc + 1, lv, .int (x >>> (y &&& 31)) :: r, σ) | _ => none
  | .iushr => match st with | .int y :: .int x :: r => some (pc + 1, lv, .int ((x.toUInt32 >>> (y.toUInt32 &&& Int32.toUInt32 31)).toInt32) :: r, σ) | _ => none
  | .ladd => match st with | .long y :: .long x :: r => some (pc + 1, lv, .long (x + y) :: r, σ) | _ => none
  | .lsub => match st with | .long y :: .long x :: r => some (pc + 1, lv, .long (x - y) :: r, σ) | _ => none
  | .lmul => match st with | .long y :: .long x :: r => some (pc + 1, lv, .long (x * y) :: r, σ) | _ => none
  | .land => match st with | .long y :: .long x :: r => some (pc + 1, lv, .long (x &&& y) :: r, σ) | _ => none
  | .lor => match st with | .long y :: .long x :: r => some (pc + 1, lv, .long (x ||| y) :: r, σ) | _ => none
  | .lxor => match st with | .long y :: .long x :: r => some (pc + 1, lv, .long (x ^^^ y) :: r, σ) | _ => none
  | .lshl => match st with | .int y :: .long x :: r => some (pc + 1, lv, .long (x <<< (y.toInt64 &&& 63)) :: r, σ) | _ => none
  | .lshr => match st with | .int y :: .long x :: r => some (pc + 1, lv, .long (x >>> (y.toInt64 &&& 63)) :: r, σ) | _ => none
  | .lushr => match st with | .int y :: .long x :: r => some (pc + 1, lv, .long ((x.toUInt64 >>> (y.toInt64.toUInt64 &&& Int64.toUInt64 63)).toInt64) :: r, σ) | _ => none
  | .lcmp => match st with | .long y :: .long x :: r => some (pc + 1, lv, .int (lg_cmp x y) :: r, σ) | _ => none
  | .ineg => match st with | .int x :: r => some (pc + 1, lv, .int (-x) :: r, σ) | _ => none
  | .i2l => match st with | .int x :: r => some (pc + 1, lv, .long x.toInt64 :: r, σ) | _ => none
  | .l2i => match st with | .long x :: r => some (pc + 1, lv, .int x.toInt32 :: r, σ) | _ => none
  | .dup => match st with | .int x :: r => some (pc + 1, lv, .int x :: .int x :: r, σ) | .ref x :: r => some (pc + 1, lv, .ref x :: .ref x :: r, σ) | _ => none
  | .dup2 => match st with | .int x :: .ref y :: r => some (pc + 1, lv, .int x :: .ref y :: .int x :: .ref y :: r, σ) | .long x :: r => some (pc + 1, lv, .long x :: .long x :: r, σ) | _ => none
  | .goto _ => some (a, lv, st, σ)
  | .getfield _ => match st with | .ref k :: r => (bif Nat.blt k σ.1 && Nat.blt k 1000 && Nat.beq (am_sh k).1 0 && Nat.beq (am_sh k).2 a && Nat.blt b (am_nf a) then (match am_av σ k b (am_ty a b) with | some w => some (pc + 3, lv, w :: r, σ) | none => none) else none) | _ => none
  | .putfield _ => match st with | .int x :: .ref k :: r => (bif Nat.blt k σ.1 && Nat.blt k 1000 && Nat.beq (am_sh k).1 0 && Nat.beq (am_sh k).2 a && Nat.blt b (am_nf a) then (match am_ty a b with | .int => some (pc + 3, lv, r, (σ.1, am_si σ.2.1 k b x, σ.2.2)) | _ => none) else none) | .long x :: .ref k :: r => (bif Nat.blt k σ.1 && Nat.blt k 1000 && Nat.beq (am_sh k).1 0 && Nat.beq (am_sh k).2 a && Nat.blt b (am_nf a) then (match am_ty a b with | .long => some (pc + 3, lv, r, (σ.1, am_sl σ.2.1 k b x, σ.2.2)) | _ => none) else none) | _ => none
  | .arraylength => match st with | .ref k :: r => (bif Nat.blt k σ.1 && Nat.blt k 1000 && Nat.blt 0 (am_sh k).1 && Nat.blt (am_sh k).1 6 then some (pc + 1, lv, .int (Int32.ofNat (am_sh k).2) :: r, σ) else none) | _ => none
  | _ => none
def am_lk (own : String) (q : am_Q) : Bool := match q with
  | (_, .iconst n, _, _, _, .int x) => decide (Int32.ofInt n = x)
  | (_, .bipush n, _, _, _, .int x) => decide ((Int8.ofInt n).toInt32 = x)
  | (_, .sipush n, _, _, _, .int x) => decide ((Int16.ofInt n).toInt32 = x)
  | (_, .lconst n, _, _, _, .long x) => decide (Int64.ofNat (n : Nat) = x)
  | (_, .ldc i, _, _, pos, .int x) => decide (tables_1[pos]? = some (.constant own i x))
  | (_, .ldc_w i, _, _, pos, .int x) => decide (tables_1[pos]? = some (.constant own i x))
  | (_, .ldc2_w i, _, _, pos, .long x) => decide (tables_1[pos]? = some (.constantLong own i x))
  | (_, .ldc i, a, _, _, .ref x) => decide (own = "ShareHouse$Tape" ∧ x = 1000 + a ∧ am_sx[a]? = some i)
  | (_, .iinc _ n, _, _, _, .int x) => decide (Int32.ofInt n = x)
  | (pc, .goto o, a, _, _, _) => decide ((pc : Int) + o = (a : Int))
  | (_, .getfield i, a, b, pos, _) => (match am_cl[a]? with | some (_, T, _) => decide (tables_1[pos]? = some (.fieldLink own i (T b).1 (T b).2.1 (T b).2.2.1)) | none => false)
  | (_, .putfield i, a, b, pos, _) => (match am_cl[a]? with | some (_, T, _) => decide (tables_1[pos]? = some (.fieldLink own i (T b).1 (T b).2.1 (T b).2.2.1) ∧ (T b).2.2.2 = false) | none => false)
  | (_, .iconst _, _) | (_, .bipush _, _) | (_, .sipush _, _) | (_, .lconst _, _) | (_, .ldc _, _) | (_, .ldc_w _, _) | (_, .ldc2_w _, _) | (_, .iinc _ _, _) => false
  | _ => true
def am_ok (own : String) (cc : ByteArray) (q : am_Q) : Bool := decide (decode cc q.1 = .ok (q.2.1, am_ln q.2.1)) && am_lk own q
def am_exs (nL : Nat) : List am_Q → am_Y → Option am_Y
  | [], x => some x
  | q :: r, x => bif Nat.beq q.1 x.1 then (match am_op nL q.1 q.2.1 q.2.2.1 q.2.2.2.1 q.2.2.2.2.2 x.2.1 x.2.2.1 x.2.2.2 with | some y => am_exs nL r y | none => none) else none
section
variable {X : am_X} {own : String} {cc : ByteArray} {nL pc : Nat} {lv : List (Nat × Value)} {st : List Value} {σ : am_S}
theorem am_iadd {x y : Int32} (hd : decode cc pc = .ok (.iadd, 1)) (hF : am_F X own cc nL) (k : am_W X nL (pc + 1, lv, .int (x + y) :: st, σ)) : am_W X nL (pc, lv, .int y :: .int x :: st, σ) := by
  obtain ⟨p, l, e, R, s, m, args, below, meth, c, Q, g, n0⟩ := X
  intro H locs ls hn hI hS hl
  exact lv_iadd hF.1 hF.2.1 hd (k H locs ls hn hI hS hl)
theorem am_isub {x y : Int32} (hd : decode cc pc = .ok (.isub, 1)) (hF : am_F X own cc nL) (k : am_W X nL (pc + 1, lv, .int (x - y) :: st, σ)) : am_W X nL (pc, lv, .int y :: .int x :: st, σ) := by
  obtain ⟨p, l, e, R, s, m, args, below, meth, c, Q, g, n0⟩ := X
  intro H locs ls hn hI hS hl
  exact lv_isub hF.1 hF.2.1 hd (k H locs ls hn hI hS hl)
theorem am_imul {x y : Int32} (hd : decode cc pc = .ok (.imul, 1)) (hF : am_F X own cc nL) (k : am_W X nL (pc + 1, lv, .int (x * y) :: st, σ)) : am_W X nL (pc, lv, .int y :: .int x :: st, σ) := by
  obtain ⟨p, l, e, R, s, m, args, below, meth, c, Q, g, n0⟩ := X
  intro H locs ls hn hI hS hl
  exact lv_imul hF.1 hF.2.1 hd (k H locs ls hn hI hS hl)
theorem am_iand {x y : Int32} (hd : decode cc pc = .ok (.iand, 1)) (hF : am_F X own cc nL) (k : am_W X nL (pc + 1, lv, .int (x &&& y) :: st, σ)) : am_W X nL (pc, lv, .int y :: .int x :: st, σ) := by
  obtain ⟨p, l, e, R, s, m, args, below, meth, c, Q, g, n0⟩ := X
  intro H locs ls hn hI hS hl
  exact lv_iand hF.1 hF.2.1 hd (k H locs ls hn hI hS hl)
theorem am_ior {x y : Int32} (hd : decode cc pc = .ok (.ior, 1)) (hF : am_F X own cc nL) (k : am_W X nL (pc + 1, lv, .int (x ||| y) :: st, σ)) : am_W X nL (pc, lv, .int y :: .int x :: st, σ) := by
  obtain ⟨p, l, e, R, s, m, args, below, meth, c, Q, g, n0⟩ := X
  intro H locs ls hn hI hS hl
  exact lv_ior hF.1 hF.2.1 hd (k H locs ls hn hI hS hl)
theorem am_ixor {x y : Int32} (hd : decode cc pc = .ok (.ixor, 1)) (hF : am_F X own cc nL) (k : am_W X nL (pc + 1, lv, .int (x ^^^ y) :: st, σ)) : am_W X nL (pc, lv, .int y :: .int x :: st, σ) := by
  obtain ⟨p, l, e, R, s, m, args, below, meth, c, Q, g, n0⟩ := X
  intro H locs ls hn hI hS hl
  exact lv_ixor hF.1 hF.2.1 hd (k H locs ls hn hI hS hl)
theorem am_ishl {x y : Int32} (hd : decode cc pc = .ok (.ishl, 1)) (hF : am_F X own cc nL) (k : am_W X nL (pc + 1, lv, .int (x <<< (y &&& 31)) :: st, σ)) : am_W X nL (pc, lv, .int y :: .int x :: st, σ) := by
  obtain ⟨p, l, e, R, s, m, args, below, meth, c, Q, g, n0⟩ := X
  intro H locs ls hn hI hS hl
  exact lv_ishl hF.1 hF.2.1 hd (k H locs ls hn hI hS hl)
theorem am_ishr {x y : Int32} (hd : decode cc pc = .ok (.ishr, 1)) (hF : am_F X own cc nL) (k : am_W X nL (pc + 1, lv, .int (x >>> (y &&& 31)) :: st, σ)) : am_W X nL (pc, lv, .int y :: .int x :: st, σ) := by
  obtain ⟨p, l, e, R, s, m, args, below, meth, c, Q, g, n0⟩ := X
  intro H locs ls hn hI hS hl
  exact lv_ishr hF.1 hF.2.1 hd (k H locs ls hn hI hS hl)
theorem am_iushr {x y : Int32} (hd : decode cc pc = .ok (.iushr, 1)) (hF : am_F X own cc nL) (k : am_W X nL (pc + 1, lv, .int ((x.toUInt32 >>> (y.toUInt32 &&& Int32.toUInt32 31)).toInt32) :: st, σ)) : am_W X nL (pc, lv, .int y :: .int x :: st, σ) := by
  obtain ⟨p, l, e, R, s, m, args, below, meth, c, Q, g, n0⟩ := X
  intro H locs ls hn hI hS hl
  exact lv_iushr hF.1 hF.2.1 hd rfl (k H locs ls hn hI hS hl)
theorem am_ladd {x y : Int64} (hd : decode cc pc = .ok (.ladd, 1)) (hF : am_F X own cc nL) (k : am_W X nL (pc + 1, lv, .long (x + y) :: st, σ)) : am_W X nL (pc, lv, .long y :: .long x :: st, σ) := by
  obtain ⟨p, l, e, R, s, m, args, below, meth, c, Q, g, n0⟩ := X
  intro H locs ls hn hI hS hl
  exact lv_ladd hF.1 hF.2.1 hd (k H locs ls hn hI hS hl)
theorem am_lsub {x y : Int64} (hd : decode cc pc = .ok (.lsub, 1)) (hF : am_F X own cc nL) (k : am_W X nL (pc + 1, lv, .long (x - y) :: st, σ)) : am_W X nL (pc, lv, .long y :: .long x :: st, σ) := by
  obtain ⟨p, l, e, R, s, m, args, below, meth, c, Q, g, n0⟩ := X
  intro H locs ls hn hI hS hl
  exact lv_lsub hF.1 hF.2.1 hd (k H locs ls hn hI hS hl)
theorem am_lmul {x y : Int64} (hd : decode cc pc = .ok (.lmul, 1)) (hF : am_F X own cc nL) (k : am_W X nL (pc + 1, lv, .long (x * y) :: st, σ)) : am_W X nL (pc, lv, .long y :: .long x :: st, σ) := by
  obtain ⟨p, l, e, R, s, m, args, below, meth, c, Q, g, n0⟩ := X
  intro H locs ls hn hI hS hl
  exact lv_lmul hF.1 hF.2.1 hd (k H locs ls hn hI hS hl)
theorem am_land {x y : Int64} (hd : decode cc pc = .ok (.land, 1)) (hF : am_F X own cc nL) (k : am_W X nL (pc + 1, lv, .long (x &&& y) :: st, σ)) : am_W X nL (pc, lv, .long y :: .long x :: st, σ) := by
  obtain ⟨p, l, e, R, s, m, args, below, meth, c, Q, g, n0⟩ := X
  intro H locs ls hn hI hS hl
  exact lv_land hF.1 hF.2.1 hd (k H locs ls hn hI hS hl)
theorem am_lor {x y : Int64} (hd : decode cc pc = .ok (.lor, 1)) (hF : am_F X own cc nL) (k : am_W X nL (pc + 1, lv, .long (x ||| y) :: st, σ)) : am_W X nL (pc, lv, .long y :: .long x :: st, σ) := by
  obtain ⟨p, l, e, R, s, m, args, below, meth, c, Q, g, n0⟩ := X
  intro H locs ls hn hI hS hl
  exact lv_lor hF.1 hF.2.1 hd (k H locs ls hn hI hS hl)
theorem am_lxor {x y : Int64} (hd : decode cc pc = .ok (.lxor, 1)) (hF : am_F X own cc nL) (k : am_W X nL (pc + 1, lv, .long (x ^^^ y) :: st, σ)) : am_W X nL (pc, lv, .long y :: .long x :: st, σ) := by
  obtain ⟨p, l, e, R, s, m, args, below, meth, c, Q, g, n0⟩ := X
  intro H locs ls hn hI hS hl
  exact lv_lxor hF.1 hF.2.1 hd (k H locs ls hn hI hS hl)
theorem am_lshl {x : Int64} {y : Int32} (hd : decode cc pc = .ok (.lshl, 1)) (hF : am_F X own cc nL) (k : am_W X nL (pc + 1, lv, .long (x <<< (y.toInt64 &&& 63)) :: st, σ)) : am_W X nL (pc, lv, .int y :: .long x :: st, σ) := by
  obtain ⟨p, l, e, R, s, m, args, below, meth, c, Q, g, n0⟩ := X
  intro H locs ls hn hI hS hl
  exact lv_lshl hF.1 hF.2.1 hd rfl (k H locs ls hn hI hS hl)
theorem am_lshr {x : Int64} {y : Int32} (hd : decode cc pc = .ok (.lshr, 1)) (hF : am_F X own cc nL) (k : am_W X nL (pc + 1, lv, .long (x >>> (y.toInt64 &&& 63)) :: st, σ)) : am_W X nL (pc, lv, .int y :: .long x :: st, σ) := by
  obtain ⟨p, l, e, R, s, m, args, below, meth, c, Q, g, n0⟩ := X
  intro H locs ls hn hI hS hl
  exact lv_lshr hF.1 hF.2.1 hd rfl (k H locs ls hn hI hS hl)
theorem am_lushr {x : Int64} {y : Int32} (hd : decode cc pc = .ok (.lushr, 1)) (hF : am_F X own cc nL) (k : am_W X nL (pc + 1, lv, .long ((x.toUInt64 >>> (y.toInt64.toUInt64 &&& Int64.toUInt64 63)).toInt64) :: st, σ)) : am_W X nL (pc, lv, .int y :: .long x :: st, σ) := by
  obtain ⟨p, l, e, R, s, m, args, below, meth, c, Q, g, n0⟩ := X
  intro H locs ls hn hI hS hl
  exact lv_lushr hF.1 hF.2.1 hd rfl (k H locs ls hn hI hS hl)
theorem am_lcmp {x y : Int64} (hd : decode cc pc = .ok (.lcmp, 1)) (hF : am_F X own cc nL) (k : am_W X nL (pc + 1, lv, .int (lg_cmp x y) :: st, σ)) : am_W X nL (pc, lv, .long y :: .long x :: st, σ) := by
  obtain ⟨p, l, e, R, s, m, args, below, meth, c, Q, g, n0⟩ := X
  intro H locs ls hn hI hS hl
  exact W.lcmp hF.1 hF.2.1 hd (k H locs ls hn hI hS hl)
theorem am_ineg {x : Int32} (hd : decode cc pc = .ok (.ineg, 1)) (hF : am_F X own cc nL) (k : am_W X nL (pc + 1, lv, .int (-x) :: st, σ)) : am_W X nL (pc, lv, .int x :: st, σ) := by
  obtain ⟨p, l, e, R, s, m, args, below, meth, c, Q, g, n0⟩ := X
  intro H locs ls hn hI hS hl
  exact lv_ineg hF.1 hF.2.1 hd (k H locs ls hn hI hS hl)
theorem am_i2l {x : Int32} (hd : decode cc pc = .ok (.i2l, 1)) (hF : am_F X own cc nL) (k : am_W X nL (pc + 1, lv, .long x.toInt64 :: st, σ)) : am_W X nL (pc, lv, .int x :: st, σ) := by
  obtain ⟨p, l, e, R, s, m, args, below, meth, c, Q, g, n0⟩ := X
  intro H locs ls hn hI hS hl
  exact lv_i2l hF.1 hF.2.1 hd rfl (k H locs ls hn hI hS hl)
theorem am_l2i {x : Int64} (hd : decode cc pc = .ok (.l2i, 1)) (hF : am_F X own cc nL) (k : am_W X nL (pc + 1, lv, .int x.toInt32 :: st, σ)) : am_W X nL (pc, lv, .long x :: st, σ) := by
  obtain ⟨p, l, e, R, s, m, args, below, meth, c, Q, g, n0⟩ := X
  intro H locs ls hn hI hS hl
  exact lv_l2i hF.1 hF.2.1 hd rfl (k H locs ls hn hI hS hl)
theorem am_dup {v : Value} (hd : decode cc pc = .ok (.dup, 1)) (hv : v.category = 1) (hF : am_F X own cc nL) (k : am_W X nL (pc + 1, lv, v :: v :: st, σ)) : am_W X nL (pc, lv, v :: st, σ) := by
  obtain ⟨p, l, e, R, s, m, args, below, meth, c, Q, g, n0⟩ := X
  intro H locs ls hn hI hS hl
  exact lv_dup hF.1 hF.2.1 hd (by rw [am_rv_cat]; exact hv) (k H locs ls hn hI hS hl)
theorem am_dup2a {v w : Value} (hd : decode cc pc = .ok (.dup2, 1)) (hv : v.category = 1) (hw : w.category = 1) (hF : am_F X own cc nL) (k : am_W X nL (pc + 1, lv, v :: w :: v :: w :: st, σ)) : am_W X nL (pc, lv, v :: w :: st, σ) := by
  obtain ⟨p, l, e, R, s, m, args, below, meth, c, Q, g, n0⟩ := X
  intro H locs ls hn hI hS hl
  exact lv_dup2_11 hF.1 hF.2.1 hd (by rw [am_rv_cat]; exact hv) (by rw [am_rv_cat]; exact hw) (k H locs ls hn hI hS hl)
theorem am_dup2b {v : Value} (hd : decode cc pc = .ok (.dup2, 1)) (hv : v.category = 2) (hF : am_F X own cc nL) (k : am_W X nL (pc + 1, lv, v :: v :: st, σ)) : am_W X nL (pc, lv, v :: st, σ) := by
  obtain ⟨p, l, e, R, s, m, args, below, meth, c, Q, g, n0⟩ := X
  intro H locs ls hn hI hS hl
  exact lv_dup2_2 hF.1 hF.2.1 hd (by rw [am_rv_cat]; exact hv) (k H locs ls hn hI hS hl)
theorem am_iconst {n : Int} {x : Int32} (hd : decode cc pc = .ok (.iconst n, 1)) (hv : Int32.ofInt n = x) (hF : am_F X own cc nL) (k : am_W X nL (pc + 1, lv, .int x :: st, σ)) : am_W X nL (pc, lv, st, σ) := by
  obtain ⟨p, l, e, R, s, m, args, below, meth, c, Q, g, n0⟩ := X
  intro H locs ls hn hI hS hl
  exact lv_iconst hF.1 hF.2.1 hd hv (k H locs ls hn hI hS hl)
theorem am_bipush {n : Int} {x : Int32} (hd : decode cc pc = .ok (.bipush n, 2)) (hv : (Int8.ofInt n).toInt32 = x) (hF : am_F X own cc nL) (k : am_W X nL (pc + 2, lv, .int x :: st, σ)) : am_W X nL (pc, lv, st, σ) := by
  obtain ⟨p, l, e, R, s, m, args, below, meth, c, Q, g, n0⟩ := X
  intro H locs ls hn hI hS hl
  exact lv_bipush hF.1 hF.2.1 hd hv (k H locs ls hn hI hS hl)
theorem am_sipush {n : Int} {x : Int32} (hd : decode cc pc = .ok (.sipush n, 3)) (hv : (Int16.ofInt n).toInt32 = x) (hF : am_F X own cc nL) (k : am_W X nL (pc + 3, lv, .int x :: st, σ)) : am_W X nL (pc, lv, st, σ) := by
  obtain ⟨p, l, e, R, s, m, args, below, meth, c, Q, g, n0⟩ := X
  intro H locs ls hn hI hS hl
  exact lv_sipush hF.1 hF.2.1 hd hv (k H locs ls hn hI hS hl)
theorem am_lconst {n : Fin 2} {x : Int64} (hd : decode cc pc = .ok (.lconst n, 1)) (hv : Int64.ofNat (n : Nat) = x) (hF : am_F X own cc nL) (k : am_W X nL (pc + 1, lv, .long x :: st, σ)) : am_W X nL (pc, lv, st, σ) := by
  obtain ⟨p, l, e, R, s, m, args, below, meth, c, Q, g, n0⟩ := X
  intro H locs ls hn hI hS hl
  exact lv_lconst hF.1 hF.2.1 hd hv (k H locs ls hn hI hS hl)
theorem am_ldc {i pos : Nat} {x : Int32} (hd : decode cc pc = .ok (.ldc i, 2)) (hv : tables_1[pos]? = some (.constant own i x)) (hF : am_F X own cc nL) (k : am_W X nL (pc + 2, lv, .int x :: st, σ)) : am_W X nL (pc, lv, st, σ) := by
  obtain ⟨p, l, e, R, s, m, args, below, meth, c, Q, g, n0⟩ := X
  intro H locs ls hn hI hS hl
  exact lv_ldc hF.1 hF.2.1 hF.2.2.2.1 (hF.2.2.2.2.1 _ (am_tbI hv rfl)) hd (k H locs ls hn hI hS hl)
theorem am_ldcw {i pos : Nat} {x : Int32} (hd : decode cc pc = .ok (.ldc_w i, 3)) (hv : tables_1[pos]? = some (.constant own i x)) (hF : am_F X own cc nL) (k : am_W X nL (pc + 3, lv, .int x :: st, σ)) : am_W X nL (pc, lv, st, σ) := by
  obtain ⟨p, l, e, R, s, m, args, below, meth, c, Q, g, n0⟩ := X
  intro H locs ls hn hI hS hl
  exact lv_ldcw hF.1 hF.2.1 hF.2.2.2.1 (hF.2.2.2.2.1 _ (am_tbI hv rfl)) hd (k H locs ls hn hI hS hl)
theorem am_ldc2 {i pos : Nat} {x : Int64} (hd : decode cc pc = .ok (.ldc2_w i, 3)) (hv : tables_1[pos]? = some (.constantLong own i x)) (hF : am_F X own cc nL) (k : am_W X nL (pc + 3, lv, .long x :: st, σ)) : am_W X nL (pc, lv, st, σ) := by
  obtain ⟨p, l, e, R, s, m, args, below, meth, c, Q, g, n0⟩ := X
  intro H locs ls hn hI hS hl
  exact lv_ldc2 hF.1 hF.2.1 hF.2.2.2.1 (hF.2.2.2.2.1 _ (am_tbI hv rfl)) hd (k H locs ls hn hI hS hl)
theorem am_ldcS {i a : Nat} (hd : decode cc pc = .ok (.ldc i, 2)) (ho : own = "ShareHouse$Tape") (hv : am_sx[a]? = some i) (hF : am_F X own cc nL) (k : am_W X nL (pc + 2, lv, .ref (1000 + a) :: st, σ)) : am_W X nL (pc, lv, st, σ) := by
  obtain ⟨p, l, e, R, s, m, args, below, meth, c, Q, g, n0⟩ := X
  intro H locs ls hn hI hS hl
  subst ho
  have ha : a < 19 := (List.getElem?_eq_some_iff.mp hv).1
  have h2 := hF.2.2.2.2.2.1.2.2.1 a ha
  have h3 : am_sx.getD a 0 = i := by rw [List.getD_eq_getElem?_getD, hv]; rfl
  rw [h3] at h2
  refine va_ldcS hF.1 hF.2.1 hF.2.2.2.1 h2 hd ?_
  have hk := k H locs ls hn hI hS hl
  have he : am_ad g (1000 + a) = g.2.2.2 (1000 + a) := if_neg (by omega)
  simpa only [List.map_cons, am_rv, he] using hk
theorem am_iload_n {i : Fin 4} {x : Int32} (hd : decode cc pc = .ok (.iload_n i, 1)) (hv : am_lg lv i = some (.int x)) (hF : am_F X own cc nL) (k : am_W X nL (pc + 1, lv, .int x :: st, σ)) : am_W X nL (pc, lv, st, σ) := by
  obtain ⟨p, l, e, R, s, m, args, below, meth, c, Q, g, n0⟩ := X
  intro H locs ls hn hI hS hl
  exact lv_iload_n hF.1 hF.2.1 hd rfl (am_lg_at hl hv) (k H locs ls hn hI hS hl)
theorem am_iload {i : Nat} {x : Int32} (hd : decode cc pc = .ok (.iload i, 2)) (hv : am_lg lv i = some (.int x)) (hF : am_F X own cc nL) (k : am_W X nL (pc + 2, lv, .int x :: st, σ)) : am_W X nL (pc, lv, st, σ) := by
  obtain ⟨p, l, e, R, s, m, args, below, meth, c, Q, g, n0⟩ := X
  intro H locs ls hn hI hS hl
  exact lv_iload hF.1 hF.2.1 hd (am_lg_at hl hv) (k H locs ls hn hI hS hl)
theorem am_lload_n {i : Fin 4} {x : Int64} (hd : decode cc pc = .ok (.lload_n i, 1)) (hv : am_lg lv i = some (.long x)) (hF : am_F X own cc nL) (k : am_W X nL (pc + 1, lv, .long x :: st, σ)) : am_W X nL (pc, lv, st, σ) := by
  obtain ⟨p, l, e, R, s, m, args, below, meth, c, Q, g, n0⟩ := X
  intro H locs ls hn hI hS hl
  exact lv_lload_n hF.1 hF.2.1 hd rfl (am_lg_at hl hv) (k H locs ls hn hI hS hl)
theorem am_lload {i : Nat} {x : Int64} (hd : decode cc pc = .ok (.lload i, 2)) (hv : am_lg lv i = some (.long x)) (hF : am_F X own cc nL) (k : am_W X nL (pc + 2, lv, .long x :: st, σ)) : am_W X nL (pc, lv, st, σ) := by
  obtain ⟨p, l, e, R, s, m, args, below, meth, c, Q, g, n0⟩ := X
  intro H locs ls hn hI hS hl
  exact lv_lload hF.1 hF.2.1 hd (am_lg_at hl hv) (k H locs ls hn hI hS hl)
theorem am_aload_n {i : Fin 4} {x : Nat} (hd : decode cc pc = .ok (.aload_n i, 1)) (hv : am_lg lv i = some (.ref x)) (hF : am_F X own cc nL) (k : am_W X nL (pc + 1, lv, .ref x :: st, σ)) : am_W X nL (pc, lv, st, σ) := by
  obtain ⟨p, l, e, R, s, m, args, below, meth, c, Q, g, n0⟩ := X
  intro H locs ls hn hI hS hl
  exact lv_aload_n hF.1 hF.2.1 hd rfl (am_lg_at hl hv) (k H locs ls hn hI hS hl)
theorem am_aload {i : Nat} {x : Nat} (hd : decode cc pc = .ok (.aload i, 2)) (hv : am_lg lv i = some (.ref x)) (hF : am_F X own cc nL) (k : am_W X nL (pc + 2, lv, .ref x :: st, σ)) : am_W X nL (pc, lv, st, σ) := by
  obtain ⟨p, l, e, R, s, m, args, below, meth, c, Q, g, n0⟩ := X
  intro H locs ls hn hI hS hl
  exact lv_aload hF.1 hF.2.1 hd (am_lg_at hl hv) (k H locs ls hn hI hS hl)
theorem am_istore_n {i : Fin 4} {x : Int32} (hd : decode cc pc = .ok (.istore_n i, 1)) (hv : (i : Nat) < nL) (hF : am_F X own cc nL) (k : am_W X nL (pc + 1, am_l1 lv i (.int x), st, σ)) : am_W X nL (pc, lv, .int x :: st, σ) := by
  obtain ⟨p, l, e, R, s, m, args, below, meth, c, Q, g, n0⟩ := X
  intro H locs ls hn hI hS hl
  exact lv_istore_n hF.1 hF.2.1 hd rfl hl hv (am_ml_1 (v := .int x)) (fun ls2 hl2 => k H locs ls2 hn hI hS hl2)
theorem am_istore {i : Nat} {x : Int32} (hd : decode cc pc = .ok (.istore i, 2)) (hv : i < nL) (hF : am_F X own cc nL) (k : am_W X nL (pc + 2, am_l1 lv i (.int x), st, σ)) : am_W X nL (pc, lv, .int x :: st, σ) := by
  obtain ⟨p, l, e, R, s, m, args, below, meth, c, Q, g, n0⟩ := X
  intro H locs ls hn hI hS hl
  exact lv_istore hF.1 hF.2.1 hd hl hv (am_ml_1 (v := .int x)) (fun ls2 hl2 => k H locs ls2 hn hI hS hl2)
theorem am_lstore_n {i : Fin 4} {x : Int64} (hd : decode cc pc = .ok (.lstore_n i, 1)) (hv : (i : Nat) + 1 < nL) (hF : am_F X own cc nL) (k : am_W X nL (pc + 1, am_l2 lv i (.long x), st, σ)) : am_W X nL (pc, lv, .long x :: st, σ) := by
  obtain ⟨p, l, e, R, s, m, args, below, meth, c, Q, g, n0⟩ := X
  intro H locs ls hn hI hS hl
  exact lv_lstore_n hF.1 hF.2.1 hd rfl hl hv (am_ml_2 (v := .long x)) (fun ls2 hl2 => k H locs ls2 hn hI hS hl2)
theorem am_lstore {i : Nat} {x : Int64} (hd : decode cc pc = .ok (.lstore i, 2)) (hv : i + 1 < nL) (hF : am_F X own cc nL) (k : am_W X nL (pc + 2, am_l2 lv i (.long x), st, σ)) : am_W X nL (pc, lv, .long x :: st, σ) := by
  obtain ⟨p, l, e, R, s, m, args, below, meth, c, Q, g, n0⟩ := X
  intro H locs ls hn hI hS hl
  exact lv_lstore hF.1 hF.2.1 hd hl hv (am_ml_2 (v := .long x)) (fun ls2 hl2 => k H locs ls2 hn hI hS hl2)
theorem am_astore_n {i : Fin 4} {x : Nat} (hd : decode cc pc = .ok (.astore_n i, 1)) (hv : (i : Nat) < nL) (hF : am_F X own cc nL) (k : am_W X nL (pc + 1, am_l1 lv i (.ref x), st, σ)) : am_W X nL (pc, lv, .ref x :: st, σ) := by
  obtain ⟨p, l, e, R, s, m, args, below, meth, c, Q, g, n0⟩ := X
  intro H locs ls hn hI hS hl
  exact lv_astore_n hF.1 hF.2.1 hd rfl hl hv (am_ml_1 (v := .ref x)) (fun ls2 hl2 => k H locs ls2 hn hI hS hl2)
theorem am_astore {i : Nat} {x : Nat} (hd : decode cc pc = .ok (.astore i, 2)) (hv : i < nL) (hF : am_F X own cc nL) (k : am_W X nL (pc + 2, am_l1 lv i (.ref x), st, σ)) : am_W X nL (pc, lv, .ref x :: st, σ) := by
  obtain ⟨p, l, e, R, s, m, args, below, meth, c, Q, g, n0⟩ := X
  intro H locs ls hn hI hS hl
  exact lv_astore hF.1 hF.2.1 hd hl hv (am_ml_1 (v := .ref x)) (fun ls2 hl2 => k H locs ls2 hn hI hS hl2)
theorem am_iinc {i : Nat} {n : Int} {x d : Int32} (hd : decode cc pc = .ok (.iinc i n, 3)) (hx : am_lg lv i = some (.int x)) (hv : Int32.ofInt n = d) (hi : i < nL) (hF : am_F X own cc nL) (k : am_W X nL (pc + 3, am_l1 lv i (.int (x + d)), st, σ)) : am_W X nL (pc, lv, st, σ) := by
  obtain ⟨p, l, e, R, s, m, args, below, meth, c, Q, g, n0⟩ := X
  intro H locs ls hn hI hS hl
  subst hv
  obtain ⟨j, hj⟩ := am_lg_get (g := g) hx
  exact lv_iinc hF.1 hF.2.1 hd hl hj rfl hi (am_ml_1 (v := .int (x + Int32.ofInt n))) (fun ls2 hl2 => k H locs ls2 hn hI hS hl2)
theorem am_goto {o : Int} {t : Nat} (hd : decode cc pc = .ok (.goto o, 3)) (ht : (pc : Int) + o = (t : Int)) (hF : am_F X own cc nL) (k : am_W X nL (t, lv, st, σ)) : am_W X nL (pc, lv, st, σ) := by
  obtain ⟨p, l, e, R, s, m, args, below, meth, c, Q, g, n0⟩ := X
  intro H locs ls hn hI hS hl
  exact lv_goto hF.1 hF.2.1 hd ht (k H locs ls hn hI hS hl)
end

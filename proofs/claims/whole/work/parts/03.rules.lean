/-! what stands outside the world: nest words, String constants, static rows -/
def am_isN : Cond → Bool
  | .methodLinkNest _ _ _ _ => true
  | .fieldLinkNest _ _ _ _ _ _ => true
  | _ => false
def am_tb : List Cond := lw_tbl.filter goodWord
def am_sx : List Nat := [84, 92, 97, 99, 101, 103, 105, 90, 67, 125, 127, 129, 131, 117, 76, 135, 137, 138, 140]
def am_sw : List String := ["all", "roof", "lift", "lamps", "water", "fire", "agent", "and", "pays", "nothing", "equal", "area", "floor", "of", "if", "not", "shop", "above", "below"]
def am_len : List Nat := [3, 4, 4, 5, 5, 4, 5, 3, 4, 7, 5, 4, 5, 2, 2, 3, 4, 5, 5]
def am_byt : List (List Int32) := [[97, 108, 108], [114, 111, 111, 102], [108, 105, 102, 116], [108, 97, 109, 112, 115], [119, 97, 116, 101, 114], [102, 105, 114, 101], [97, 103, 101, 110, 116], [97, 110, 100], [112, 97, 121, 115], [110, 111, 116, 104, 105, 110, 103], [101, 113, 117, 97, 108], [97, 114, 101, 97], [102, 108, 111, 111, 114], [111, 102], [105, 102], [110, 111, 116], [115, 104, 111, 112], [97, 98, 111, 118, 101], [98, 101, 108, 111, 119]]
def am_RA : List Int32 := [540, 250, 30, 20, 0, 0]
def am_RM : List Int32 := [900, 9999, 90, 99, 99999, 9999]
def am_A (g : am_G) : Nat → Prop := fun q => g.1 ≤ q
def am_AOA (U : State) : Prop := (Cond.arrayOver (.array .int)).before #[] U = true
theorem am_AOA.moved {u U : State} (hvm : u.vm.Alike U.vm) (h : am_AOA u) : am_AOA U := by
  obtain ⟨comp, c, k, h1, h2, h3, h4, h5⟩ := arrayOverA_spec h
  obtain ⟨k', hk', he⟩ := hvm.2.2 _ _ h3
  have hi : (U.vm.classes.findIdx? fun (x : Class) => match x.kind with | .array component _ => component == comp | _ => false) = some c := by
    have e1 := va_idx_bare U.vm comp
    have e2 := va_idx_bare u.vm comp
    first | rw [hvm.bare_eq] at e1 | rw [← hvm.bare_eq] at e1
    exact e1.symm.trans (e2.trans h2)
  have hkind : k'.kind = .array comp (.array .int) := by rw [he]; exact h4
  have f1 : U.vm.findClass (FieldType.array .int).toString = some comp := by rw [hvm.findClass]; exact h1
  have f2 : U.vm.findClass ("[" ++ (FieldType.array .int).toString) = some c := by rw [hvm.findClass]; exact h5
  unfold am_AOA Cond.before Cond.holds
  simp only [Cond.value]
  rw [f1, Option.bind_some]
  refine (congrArg (fun o : Option Nat => (o.bind (fun c => (U.vm.classes[c]?).map fun (k : Class) => match k.kind with | .array _ ty => decide (ty = FieldType.array .int) && decide (U.vm.findClass ("[" ++ (FieldType.array .int).toString) = some c) | _ => false) == some true)) hi).trans ?_
  simp [hk', hkind, f2]
def am_O2 (g : am_G) (U : State) (H : Heap) : Prop := va_Z "java/lang/String" "COMPACT_STRINGS" "Z" (.int 1) (am_A g) U H ∧ (va_Z "jdk/internal/util/Preconditions" "SIOOBE_FORMATTER" "Ljava/util/function/BiFunction;" .null (am_A g) U H ∨ va_Z "jdk/internal/util/Preconditions" "SIOOBE_FORMATTER" "Ljava/util/function/BiFunction;" (.ref (g.2.2.2 1102)) (am_A g) U H) ∧ va_AO "ShareHouse$Lease" U ∧ am_AOA U
theorem am_O2.moved {g : am_G} {u U : State} {H : Heap} (hvm : u.vm.Alike U.vm) (h : am_O2 g u H) : am_O2 g U H := ⟨va_Z.moved hvm h.1, h.2.1.imp (va_Z.moved hvm) (va_Z.moved hvm), h.2.2.1.moved hvm, h.2.2.2.moved hvm⟩
theorem am_O2.kept {g : am_G} {U : State} {H H1 : Heap} (h : am_O2 g U H) (hq : ∀ a : Nat, a < H.size → ¬ am_A g a → H1[a]? = H[a]?) : am_O2 g U H1 := ⟨h.1.kept hq, h.2.1.imp (fun z => z.kept hq) (fun z => z.kept hq), h.2.2⟩
def am_O (g : am_G) (U : State) (H : Heap) : Prop := vk_S 19 am_len am_byt (fun i => g.2.2.2 (1000 + i)) (fun i => g.2.2.2 (1050 + i)) (am_A g) U H ∧ am_O2 g U H ∧ (va_Z "ShareHouse" "RULES_AT_FIRST" "[I" (.ref (g.2.2.2 1100)) (am_A g) U H ∧ va_T .int (g.2.2.2 1100) 6 (fun j => .int (am_RA.getD j 0)) (am_A g) U H) ∧ va_Z "ShareHouse" "RULES_MOST" "[I" (.ref (g.2.2.2 1101)) (am_A g) U H ∧ va_T .int (g.2.2.2 1101) 6 (fun j => .int (am_RM.getD j 0)) (am_A g) U H
def am_E (g : am_G) (U : State) : Prop := va_K g.2.1 am_cl (am_tys g) U ∧ (∀ w ∈ tables_1, am_isN w = true → va_Nw w U) ∧ (∀ i, i < 19 → vk_R "ShareHouse$Tape" (am_sx.getD i 0) (am_sw.getD i "") (g.2.2.2 (1000 + i)) U) ∧ am_O g U U.heap
theorem am_O.moved {g : am_G} {u U : State} {H : Heap} (hvm : u.vm.Alike U.vm) (h : am_O g u H) : am_O g U H := ⟨vk_S.moved hvm h.1, h.2.1.moved hvm, ⟨va_Z.moved hvm h.2.2.1.1, va_T.moved hvm h.2.2.1.2⟩, va_Z.moved hvm h.2.2.2.1, va_T.moved hvm h.2.2.2.2⟩
theorem am_O.kept {g : am_G} {U : State} {H H1 : Heap} (h : am_O g U H) (hq : ∀ a : Nat, a < H.size → ¬ am_A g a → H1[a]? = H[a]?) : am_O g U H1 := ⟨h.1.kept hq, h.2.1.kept hq, ⟨h.2.2.1.1.kept hq, h.2.2.1.2.kept hq⟩, h.2.2.2.1.kept hq, h.2.2.2.2.kept hq⟩
theorem am_Nw_warm {s U : State} (hW : s.WarmedH U.vm) {w : Cond} (hi : am_isN w = true) (h : va_Nw w s) : va_Nw w U := by
  cases w
  case methodLinkNest => exact va_Nw.warmM hW h
  case fieldLinkNest => exact va_Nw.warmF hW h
  all_goals (exact (nomatch (show false = true from hi)))
theorem am_E.step {g : am_G} {s U : State} (h : am_E g s) (hW : s.WarmedH U.vm) (hq : ∀ a : Nat, a < s.heap.size → ¬ am_A g a → U.heap[a]? = s.heap[a]?) : am_E g U :=
  ⟨va_K.moved hW.alike h.1, fun w hw hi => am_Nw_warm hW hi (h.2.1 w hw hi), fun i hi => vk_R.warm hW (h.2.2.1 i hi), (am_O.moved hW.alike h.2.2.2).kept hq⟩
/-- an activation: program, launch, environment, room, start, method, arguments, frames below, method, code, aim, the world's data, how many cells stood -/
abbrev am_X : Type := Program × Launch × Env × Room × State × MethodId × Array Value × List Frame × Method × Code × (State → Prop) × am_G × Nat
def am_suL : List Nat := am_shL.map (fun q => if q.1 = 0 then am_nf q.2 else q.2)
def am_su (n : Nat) : Nat := (am_suL.take n).sum
abbrev am_Y : Type := Nat × List (Nat × Value) × List Value × am_S
def am_W (X : am_X) (nL : Nat) (x : am_Y) : Prop := match X with
  | (p, l, e, R, s, m, args, below, meth, c, Q, g, n0) => ∀ (H : Heap) (locs : List Loc) (ls : Array Slot), n0 ≤ x.2.2.2.1 → am_I g x.2.2.2 H → va_S (am_A g) s.heap H locs → lv_has ls nL (am_ml g x.2.1) →
    W p l e R s m args below meth c H locs (x.2.2.2.1 - n0) (am_su x.2.2.2.1 - am_su n0) Q (F0 m x.1 ls (x.2.2.1.map (am_rv g)))
def am_F (X : am_X) (own : String) (cc : ByteArray) (nL : Nat) : Prop := match X with
  | (p, l, e, R, s, m, args, below, meth, c, Q, g, n0) => p.tables.exec = Jvm.exec ∧ c.code = cc ∧ c.maxLocals = nL ∧ s.vm.findClass own = some m.cls ∧ (∀ w ∈ am_tb, w.before args s = true) ∧ am_E g s ∧ meth.locks = false ∧ g.1 ≤ s.heap.size
theorem am_tbI {i : Nat} {w : Cond} (h : tables_1[i]? = some w) (hg : goodWord w = true) : w ∈ am_tb := List.mem_filter.mpr ⟨List.mem_append_right _ (List.mem_of_getElem? h), hg⟩
theorem am_tbP {i : Nat} {q : MethodName × Nat} (h : lw_privs[i]? = some q) : Cond.selects q.1.cls q.1 q.1 ∈ am_tb := List.mem_filter.mpr ⟨List.mem_append_left _ (List.mem_map.mpr ⟨q, List.mem_of_getElem? h, rfl⟩), rfl⟩
theorem am_tm1 {i : Nat} {w : Cond} (h : tables_1_1[i]? = some w) : w ∈ tables_1 := List.mem_append_left _ (List.mem_of_getElem? h)
theorem am_tb1 {i : Nat} {w : Cond} (h : tables_1_1[i]? = some w) (hg : goodWord w = true) : w ∈ am_tb := List.mem_filter.mpr ⟨List.mem_append_right _ (show w ∈ tables_1 from List.mem_append_left _ (List.mem_of_getElem? h)), hg⟩
theorem am_tm2 {i : Nat} {w : Cond} (h : tables_1_2[i]? = some w) : w ∈ tables_1 := List.mem_append_right _ (List.mem_append_left _ (List.mem_of_getElem? h))
theorem am_tb2 {i : Nat} {w : Cond} (h : tables_1_2[i]? = some w) (hg : goodWord w = true) : w ∈ am_tb := List.mem_filter.mpr ⟨List.mem_append_right _ (show w ∈ tables_1 from List.mem_append_right _ (List.mem_append_left _ (List.mem_of_getElem? h))), hg⟩
theorem am_tm3 {i : Nat} {w : Cond} (h : tables_1_3[i]? = some w) : w ∈ tables_1 := List.mem_append_right _ (List.mem_append_right _ (List.mem_append_left _ (List.mem_of_getElem? h)))
theorem am_tb3 {i : Nat} {w : Cond} (h : tables_1_3[i]? = some w) (hg : goodWord w = true) : w ∈ am_tb := List.mem_filter.mpr ⟨List.mem_append_right _ (show w ∈ tables_1 from List.mem_append_right _ (List.mem_append_right _ (List.mem_append_left _ (List.mem_of_getElem? h)))), hg⟩
theorem am_tm4 {i : Nat} {w : Cond} (h : tables_1_4[i]? = some w) : w ∈ tables_1 := List.mem_append_right _ (List.mem_append_right _ (List.mem_append_right _ (List.mem_append_left _ (List.mem_of_getElem? h))))
theorem am_tb4 {i : Nat} {w : Cond} (h : tables_1_4[i]? = some w) (hg : goodWord w = true) : w ∈ am_tb := List.mem_filter.mpr ⟨List.mem_append_right _ (show w ∈ tables_1 from List.mem_append_right _ (List.mem_append_right _ (List.mem_append_right _ (List.mem_append_left _ (List.mem_of_getElem? h))))), hg⟩
theorem am_tm5 {i : Nat} {w : Cond} (h : tables_1_5[i]? = some w) : w ∈ tables_1 := List.mem_append_right _ (List.mem_append_right _ (List.mem_append_right _ (List.mem_append_right _ (List.mem_append_left _ (List.mem_of_getElem? h)))))
theorem am_tb5 {i : Nat} {w : Cond} (h : tables_1_5[i]? = some w) (hg : goodWord w = true) : w ∈ am_tb := List.mem_filter.mpr ⟨List.mem_append_right _ (show w ∈ tables_1 from List.mem_append_right _ (List.mem_append_right _ (List.mem_append_right _ (List.mem_append_right _ (List.mem_append_left _ (List.mem_of_getElem? h)))))), hg⟩
theorem am_tm6 {i : Nat} {w : Cond} (h : tables_1_6[i]? = some w) : w ∈ tables_1 := List.mem_append_right _ (List.mem_append_right _ (List.mem_append_right _ (List.mem_append_right _ (List.mem_append_right _ (List.mem_append_left _ (List.mem_of_getElem? h))))))
theorem am_tb6 {i : Nat} {w : Cond} (h : tables_1_6[i]? = some w) (hg : goodWord w = true) : w ∈ am_tb := List.mem_filter.mpr ⟨List.mem_append_right _ (show w ∈ tables_1 from List.mem_append_right _ (List.mem_append_right _ (List.mem_append_right _ (List.mem_append_right _ (List.mem_append_right _ (List.mem_append_left _ (List.mem_of_getElem? h))))))), hg⟩
theorem am_tm7 {i : Nat} {w : Cond} (h : tables_1_7[i]? = some w) : w ∈ tables_1 := List.mem_append_right _ (List.mem_append_right _ (List.mem_append_right _ (List.mem_append_right _ (List.mem_append_right _ (List.mem_append_right _ (List.mem_of_getElem? h))))))
theorem am_tb7 {i : Nat} {w : Cond} (h : tables_1_7[i]? = some w) (hg : goodWord w = true) : w ∈ am_tb := List.mem_filter.mpr ⟨List.mem_append_right _ (show w ∈ tables_1 from List.mem_append_right _ (List.mem_append_right _ (List.mem_append_right _ (List.mem_append_right _ (List.mem_append_right _ (List.mem_append_right _ (List.mem_of_getElem? h))))))), hg⟩
def am_on (k : Nat) : String := match k with
  | 0 => "ShareHouse$Accounts"
  | 1 => "ShareHouse$Costs"
  | 2 => "ShareHouse$Flats"
  | 3 => "ShareHouse$House"
  | 4 => "ShareHouse$Lease"
  | 5 => "ShareHouse$Owners"
  | 6 => "ShareHouse$Parting"
  | 7 => "ShareHouse$Proof"
  | 8 => "ShareHouse$Reserve"
  | 9 => "ShareHouse$Tape"
  | 10 => "ShareHouse$Works"
  | 11 => "ShareHouse"
  | 12 => "ShareHouseModel"
  | 13 => "java/lang/Integer"
  | 14 => "java/util/Arrays"
  | _ => "ShareHouseLaw"
/-- field links: class number of the user, pool entry, class of the field, its place -/
def am_flk : List (Nat × Nat × Nat × Nat) := [(4, 9, 4, 0), (4, 19, 4, 1), (9, 40, 4, 1), (11, 105, 4, 1), (2, 9, 2, 0), (6, 79, 2, 0), (11, 79, 2, 0), (2, 15, 2, 1), (6, 72, 2, 1), (0, 154, 2, 1), (2, 18, 2, 2), (11, 83, 2, 2), (2, 24, 2, 3), (6, 54, 2, 3), (11, 91, 2, 3), (6, 32, 2, 4), (2, 40, 2, 4), (0, 62, 2, 4), (11, 206, 2, 4), (1, 9, 1, 0), (6, 91, 1, 0), (11, 173, 1, 0), (1, 15, 1, 1), (0, 69, 1, 1), (11, 176, 1, 1), (1, 18, 1, 2), (11, 179, 1, 2), (1, 21, 1, 3), (11, 182, 1, 3), (1, 24, 1, 4), (6, 117, 1, 4), (11, 185, 1, 4), (0, 38, 1, 5), (1, 44, 1, 5), (11, 328, 1, 5), (1, 28, 1, 6), (1, 31, 1, 7), (1, 34, 1, 8), (1, 48, 1, 9), (11, 329, 1, 9), (5, 11, 5, 0), (5, 15, 5, 1), (5, 18, 5, 2), (5, 34, 5, 3), (11, 332, 5, 3), (5, 21, 5, 4), (0, 116, 5, 4), (5, 24, 5, 5), (0, 122, 5, 5), (5, 27, 5, 6), (0, 119, 5, 6), (5, 38, 5, 7), (0, 113, 5, 7), (11, 335, 5, 7), (10, 11, 10, 0), (11, 270, 10, 0), (10, 15, 10, 1), (11, 271, 10, 1), (10, 18, 10, 2), (11, 258, 10, 2), (10, 22, 10, 3), (10, 25, 10, 4), (10, 28, 10, 5), (10, 31, 10, 6), (10, 34, 10, 7), (10, 50, 10, 8), (11, 338, 10, 8), (10, 37, 10, 9), (10, 40, 10, 10), (10, 54, 10, 11), (11, 339, 10, 11), (8, 9, 8, 0), (8, 15, 8, 1), (8, 18, 8, 2), (8, 28, 8, 3), (11, 342, 8, 3), (8, 21, 8, 4), (11, 305, 8, 4), (7, 45, 8, 5), (8, 46, 8, 5), (11, 299, 8, 5), (7, 48, 8, 6), (8, 49, 8, 6), (11, 302, 8, 6), (3, 61, 3, 0), (11, 61, 3, 0), (0, 151, 3, 0), (3, 18, 3, 1), (6, 121, 3, 1), (0, 101, 3, 1), (11, 150, 3, 1), (3, 23, 3, 2), (6, 104, 3, 2), (11, 144, 3, 2), (3, 29, 3, 3), (11, 51, 3, 3), (0, 58, 3, 3), (6, 96, 3, 3), (3, 36, 3, 4), (0, 32, 3, 4), (6, 85, 3, 4), (11, 157, 3, 4), (3, 43, 3, 5), (0, 65, 3, 5), (11, 213, 3, 5), (3, 50, 3, 6), (11, 249, 3, 6), (3, 57, 3, 7), (11, 282, 3, 7), (9, 11, 9, 0), (9, 15, 9, 1), (9, 25, 9, 2), (11, 343, 9, 2), (9, 21, 9, 3), (11, 95, 9, 3), (9, 54, 9, 4), (9, 41, 9, 5), (9, 47, 9, 6), (9, 33, 9, 7), (9, 36, 9, 8), (9, 61, 9, 9), (7, 11, 7, 0), (11, 314, 7, 0), (7, 18, 7, 1), (11, 317, 7, 1), (7, 15, 7, 2), (7, 26, 7, 3), (11, 318, 7, 3), (6, 9, 6, 0), (11, 119, 6, 0), (6, 15, 6, 1), (11, 123, 6, 1), (6, 18, 6, 2), (6, 21, 6, 3), (6, 24, 6, 4), (0, 82, 6, 4), (11, 202, 6, 4), (6, 28, 6, 5), (11, 132, 6, 5), (6, 51, 6, 6), (11, 128, 6, 6), (0, 11, 0, 0), (0, 16, 0, 1), (0, 20, 0, 2), (0, 23, 0, 3), (11, 10, 11, 0), (11, 16, 11, 1), (11, 347, 11, 2), (11, 22, 11, 3), (11, 29, 11, 4), (11, 36, 11, 5), (11, 43, 11, 6), (12, 7, 12, 0), (12, 13, 12, 1), (12, 318, 12, 2), (12, 16, 12, 3), (12, 55, 12, 4), (12, 63, 12, 5), (12, 60, 12, 6), (12, 73, 12, 7), (12, 126, 12, 8), (12, 112, 12, 9), (12, 115, 12, 10), (12, 141, 12, 11), (12, 153, 12, 12), (12, 19, 12, 13), (12, 162, 12, 14), (12, 189, 12, 15), (12, 192, 12, 16), (12, 22, 12, 17), (12, 210, 12, 18), (12, 214, 12, 19), (12, 26, 12, 20), (12, 29, 12, 21), (12, 257, 12, 22), (12, 32, 12, 23), (12, 35, 12, 24), (12, 38, 12, 25), (12, 41, 12, 26), (12, 45, 12, 27), (12, 311, 12, 28), (12, 48, 12, 29)]
set_option maxRecDepth 100000 in
theorem am_fl0 : Cond.fieldLink "ShareHouse$Lease" 9 (TX4 0).1 (TX4 0).2.1 (TX4 0).2.2.1 ∈ am_tb := am_tb1 (i := 58) rfl rfl
set_option maxRecDepth 100000 in
theorem am_fl1 : Cond.fieldLink "ShareHouse$Lease" 19 (TX4 1).1 (TX4 1).2.1 (TX4 1).2.2.1 ∈ am_tb := am_tb1 (i := 59) rfl rfl
set_option maxRecDepth 100000 in
theorem am_fl2 : Cond.fieldLink "ShareHouse$Tape" 40 (TX4 1).1 (TX4 1).2.1 (TX4 1).2.2.1 ∈ am_tb := am_tb1 (i := 60) rfl rfl
set_option maxRecDepth 100000 in
theorem am_fl3 : Cond.fieldLink "ShareHouse" 105 (TX4 1).1 (TX4 1).2.1 (TX4 1).2.2.1 ∈ am_tb := am_tb1 (i := 61) rfl rfl
set_option maxRecDepth 100000 in
theorem am_fl4 : Cond.fieldLink "ShareHouse$Flats" 9 (TX2 0).1 (TX2 0).2.1 (TX2 0).2.2.1 ∈ am_tb := am_tb1 (i := 69) rfl rfl
set_option maxRecDepth 100000 in
theorem am_fl5 : Cond.fieldLink "ShareHouse$Parting" 79 (TX2 0).1 (TX2 0).2.1 (TX2 0).2.2.1 ∈ am_tb := am_tb1 (i := 70) rfl rfl
set_option maxRecDepth 100000 in
theorem am_fl6 : Cond.fieldLink "ShareHouse" 79 (TX2 0).1 (TX2 0).2.1 (TX2 0).2.2.1 ∈ am_tb := am_tb1 (i := 71) rfl rfl
set_option maxRecDepth 100000 in
theorem am_fl7 : Cond.fieldLink "ShareHouse$Flats" 15 (TX2 1).1 (TX2 1).2.1 (TX2 1).2.2.1 ∈ am_tb := am_tb1 (i := 72) rfl rfl
set_option maxRecDepth 100000 in
theorem am_fl8 : Cond.fieldLink "ShareHouse$Parting" 72 (TX2 1).1 (TX2 1).2.1 (TX2 1).2.2.1 ∈ am_tb := am_tb1 (i := 73) rfl rfl
set_option maxRecDepth 100000 in
theorem am_fl9 : Cond.fieldLink "ShareHouse$Accounts" 154 (TX2 1).1 (TX2 1).2.1 (TX2 1).2.2.1 ∈ am_tb := am_tb1 (i := 74) rfl rfl
set_option maxRecDepth 100000 in
theorem am_fl10 : Cond.fieldLink "ShareHouse$Flats" 18 (TX2 2).1 (TX2 2).2.1 (TX2 2).2.2.1 ∈ am_tb := am_tb1 (i := 75) rfl rfl
set_option maxRecDepth 100000 in
theorem am_fl11 : Cond.fieldLink "ShareHouse" 83 (TX2 2).1 (TX2 2).2.1 (TX2 2).2.2.1 ∈ am_tb := am_tb1 (i := 76) rfl rfl
set_option maxRecDepth 100000 in
theorem am_fl12 : Cond.fieldLink "ShareHouse$Flats" 24 (TX2 3).1 (TX2 3).2.1 (TX2 3).2.2.1 ∈ am_tb := am_tb1 (i := 77) rfl rfl
set_option maxRecDepth 100000 in
theorem am_fl13 : Cond.fieldLink "ShareHouse$Parting" 54 (TX2 3).1 (TX2 3).2.1 (TX2 3).2.2.1 ∈ am_tb := am_tb1 (i := 78) rfl rfl
set_option maxRecDepth 100000 in
theorem am_fl14 : Cond.fieldLink "ShareHouse" 91 (TX2 3).1 (TX2 3).2.1 (TX2 3).2.2.1 ∈ am_tb := am_tb1 (i := 79) rfl rfl
set_option maxRecDepth 100000 in
theorem am_fl15 : Cond.fieldLink "ShareHouse$Parting" 32 (TX2 4).1 (TX2 4).2.1 (TX2 4).2.2.1 ∈ am_tb := am_tb1 (i := 80) rfl rfl
set_option maxRecDepth 100000 in
theorem am_fl16 : Cond.fieldLink "ShareHouse$Flats" 40 (TX2 4).1 (TX2 4).2.1 (TX2 4).2.2.1 ∈ am_tb := am_tb1 (i := 81) rfl rfl
set_option maxRecDepth 100000 in
theorem am_fl17 : Cond.fieldLink "ShareHouse$Accounts" 62 (TX2 4).1 (TX2 4).2.1 (TX2 4).2.2.1 ∈ am_tb := am_tb1 (i := 82) rfl rfl
set_option maxRecDepth 100000 in
theorem am_fl18 : Cond.fieldLink "ShareHouse" 206 (TX2 4).1 (TX2 4).2.1 (TX2 4).2.2.1 ∈ am_tb := am_tb1 (i := 83) rfl rfl
set_option maxRecDepth 100000 in
theorem am_fl19 : Cond.fieldLink "ShareHouse$Costs" 9 (TX1 0).1 (TX1 0).2.1 (TX1 0).2.2.1 ∈ am_tb := am_tb1 (i := 101) rfl rfl
set_option maxRecDepth 100000 in
theorem am_fl20 : Cond.fieldLink "ShareHouse$Parting" 91 (TX1 0).1 (TX1 0).2.1 (TX1 0).2.2.1 ∈ am_tb := am_tb1 (i := 102) rfl rfl
set_option maxRecDepth 100000 in
theorem am_fl21 : Cond.fieldLink "ShareHouse" 173 (TX1 0).1 (TX1 0).2.1 (TX1 0).2.2.1 ∈ am_tb := am_tb1 (i := 103) rfl rfl
set_option maxRecDepth 100000 in
theorem am_fl22 : Cond.fieldLink "ShareHouse$Costs" 15 (TX1 1).1 (TX1 1).2.1 (TX1 1).2.2.1 ∈ am_tb := am_tb1 (i := 104) rfl rfl
set_option maxRecDepth 100000 in
theorem am_fl23 : Cond.fieldLink "ShareHouse$Accounts" 69 (TX1 1).1 (TX1 1).2.1 (TX1 1).2.2.1 ∈ am_tb := am_tb1 (i := 105) rfl rfl
set_option maxRecDepth 100000 in
theorem am_fl24 : Cond.fieldLink "ShareHouse" 176 (TX1 1).1 (TX1 1).2.1 (TX1 1).2.2.1 ∈ am_tb := am_tb1 (i := 106) rfl rfl
set_option maxRecDepth 100000 in
theorem am_fl25 : Cond.fieldLink "ShareHouse$Costs" 18 (TX1 2).1 (TX1 2).2.1 (TX1 2).2.2.1 ∈ am_tb := am_tb1 (i := 107) rfl rfl
set_option maxRecDepth 100000 in
theorem am_fl26 : Cond.fieldLink "ShareHouse" 179 (TX1 2).1 (TX1 2).2.1 (TX1 2).2.2.1 ∈ am_tb := am_tb1 (i := 108) rfl rfl
set_option maxRecDepth 100000 in
theorem am_fl27 : Cond.fieldLink "ShareHouse$Costs" 21 (TX1 3).1 (TX1 3).2.1 (TX1 3).2.2.1 ∈ am_tb := am_tb1 (i := 109) rfl rfl
set_option maxRecDepth 100000 in
theorem am_fl28 : Cond.fieldLink "ShareHouse" 182 (TX1 3).1 (TX1 3).2.1 (TX1 3).2.2.1 ∈ am_tb := am_tb1 (i := 110) rfl rfl
set_option maxRecDepth 100000 in
theorem am_fl29 : Cond.fieldLink "ShareHouse$Costs" 24 (TX1 4).1 (TX1 4).2.1 (TX1 4).2.2.1 ∈ am_tb := am_tb1 (i := 111) rfl rfl
set_option maxRecDepth 100000 in
theorem am_fl30 : Cond.fieldLink "ShareHouse$Parting" 117 (TX1 4).1 (TX1 4).2.1 (TX1 4).2.2.1 ∈ am_tb := am_tb1 (i := 112) rfl rfl
set_option maxRecDepth 100000 in
theorem am_fl31 : Cond.fieldLink "ShareHouse" 185 (TX1 4).1 (TX1 4).2.1 (TX1 4).2.2.1 ∈ am_tb := am_tb1 (i := 113) rfl rfl
set_option maxRecDepth 100000 in
theorem am_fl32 : Cond.fieldLink "ShareHouse$Accounts" 38 (TX1 5).1 (TX1 5).2.1 (TX1 5).2.2.1 ∈ am_tb := am_tb1 (i := 114) rfl rfl
set_option maxRecDepth 100000 in
theorem am_fl33 : Cond.fieldLink "ShareHouse$Costs" 44 (TX1 5).1 (TX1 5).2.1 (TX1 5).2.2.1 ∈ am_tb := am_tb1 (i := 115) rfl rfl
set_option maxRecDepth 100000 in
theorem am_fl34 : Cond.fieldLink "ShareHouse" 328 (TX1 5).1 (TX1 5).2.1 (TX1 5).2.2.1 ∈ am_tb := am_tb1 (i := 116) rfl rfl
set_option maxRecDepth 100000 in
theorem am_fl35 : Cond.fieldLink "ShareHouse$Costs" 28 (TX1 6).1 (TX1 6).2.1 (TX1 6).2.2.1 ∈ am_tb := am_tb1 (i := 117) rfl rfl
set_option maxRecDepth 100000 in
theorem am_fl36 : Cond.fieldLink "ShareHouse$Costs" 31 (TX1 7).1 (TX1 7).2.1 (TX1 7).2.2.1 ∈ am_tb := am_tb1 (i := 118) rfl rfl
set_option maxRecDepth 100000 in
theorem am_fl37 : Cond.fieldLink "ShareHouse$Costs" 34 (TX1 8).1 (TX1 8).2.1 (TX1 8).2.2.1 ∈ am_tb := am_tb1 (i := 119) rfl rfl
set_option maxRecDepth 100000 in
theorem am_fl38 : Cond.fieldLink "ShareHouse$Costs" 48 (TX1 9).1 (TX1 9).2.1 (TX1 9).2.2.1 ∈ am_tb := am_tb1 (i := 120) rfl rfl
set_option maxRecDepth 100000 in
theorem am_fl39 : Cond.fieldLink "ShareHouse" 329 (TX1 9).1 (TX1 9).2.1 (TX1 9).2.2.1 ∈ am_tb := am_tb1 (i := 121) rfl rfl
set_option maxRecDepth 100000 in
theorem am_fl40 : Cond.fieldLink "ShareHouse$Owners" 11 (TX5 0).1 (TX5 0).2.1 (TX5 0).2.2.1 ∈ am_tb := am_tb1 (i := 149) rfl rfl
set_option maxRecDepth 100000 in
theorem am_fl41 : Cond.fieldLink "ShareHouse$Owners" 15 (TX5 1).1 (TX5 1).2.1 (TX5 1).2.2.1 ∈ am_tb := am_tb1 (i := 150) rfl rfl
set_option maxRecDepth 100000 in
theorem am_fl42 : Cond.fieldLink "ShareHouse$Owners" 18 (TX5 2).1 (TX5 2).2.1 (TX5 2).2.2.1 ∈ am_tb := am_tb1 (i := 151) rfl rfl
set_option maxRecDepth 100000 in
theorem am_fl43 : Cond.fieldLink "ShareHouse$Owners" 34 (TX5 3).1 (TX5 3).2.1 (TX5 3).2.2.1 ∈ am_tb := am_tb1 (i := 152) rfl rfl
set_option maxRecDepth 100000 in
theorem am_fl44 : Cond.fieldLink "ShareHouse" 332 (TX5 3).1 (TX5 3).2.1 (TX5 3).2.2.1 ∈ am_tb := am_tb1 (i := 153) rfl rfl
set_option maxRecDepth 100000 in
theorem am_fl45 : Cond.fieldLink "ShareHouse$Owners" 21 (TX5 4).1 (TX5 4).2.1 (TX5 4).2.2.1 ∈ am_tb := am_tb1 (i := 154) rfl rfl
set_option maxRecDepth 100000 in
theorem am_fl46 : Cond.fieldLink "ShareHouse$Accounts" 116 (TX5 4).1 (TX5 4).2.1 (TX5 4).2.2.1 ∈ am_tb := am_tb1 (i := 155) rfl rfl
set_option maxRecDepth 100000 in
theorem am_fl47 : Cond.fieldLink "ShareHouse$Owners" 24 (TX5 5).1 (TX5 5).2.1 (TX5 5).2.2.1 ∈ am_tb := am_tb1 (i := 156) rfl rfl
set_option maxRecDepth 100000 in
theorem am_fl48 : Cond.fieldLink "ShareHouse$Accounts" 122 (TX5 5).1 (TX5 5).2.1 (TX5 5).2.2.1 ∈ am_tb := am_tb1 (i := 157) rfl rfl
set_option maxRecDepth 100000 in
theorem am_fl49 : Cond.fieldLink "ShareHouse$Owners" 27 (TX5 6).1 (TX5 6).2.1 (TX5 6).2.2.1 ∈ am_tb := am_tb1 (i := 158) rfl rfl
set_option maxRecDepth 100000 in
theorem am_fl50 : Cond.fieldLink "ShareHouse$Accounts" 119 (TX5 6).1 (TX5 6).2.1 (TX5 6).2.2.1 ∈ am_tb := am_tb1 (i := 159) rfl rfl
set_option maxRecDepth 100000 in
theorem am_fl51 : Cond.fieldLink "ShareHouse$Owners" 38 (TX5 7).1 (TX5 7).2.1 (TX5 7).2.2.1 ∈ am_tb := am_tb1 (i := 160) rfl rfl
set_option maxRecDepth 100000 in
theorem am_fl52 : Cond.fieldLink "ShareHouse$Accounts" 113 (TX5 7).1 (TX5 7).2.1 (TX5 7).2.2.1 ∈ am_tb := am_tb1 (i := 161) rfl rfl
set_option maxRecDepth 100000 in
theorem am_fl53 : Cond.fieldLink "ShareHouse" 335 (TX5 7).1 (TX5 7).2.1 (TX5 7).2.2.1 ∈ am_tb := am_tb1 (i := 162) rfl rfl
set_option maxRecDepth 100000 in
theorem am_fl54 : Cond.fieldLink "ShareHouse$Works" 11 (TX10 0).1 (TX10 0).2.1 (TX10 0).2.2.1 ∈ am_tb := am_tb1 (i := 186) rfl rfl
set_option maxRecDepth 100000 in
theorem am_fl55 : Cond.fieldLink "ShareHouse" 270 (TX10 0).1 (TX10 0).2.1 (TX10 0).2.2.1 ∈ am_tb := am_tb1 (i := 187) rfl rfl
set_option maxRecDepth 100000 in
theorem am_fl56 : Cond.fieldLink "ShareHouse$Works" 15 (TX10 1).1 (TX10 1).2.1 (TX10 1).2.2.1 ∈ am_tb := am_tb1 (i := 188) rfl rfl
set_option maxRecDepth 100000 in
theorem am_fl57 : Cond.fieldLink "ShareHouse" 271 (TX10 1).1 (TX10 1).2.1 (TX10 1).2.2.1 ∈ am_tb := am_tb1 (i := 189) rfl rfl
set_option maxRecDepth 100000 in
theorem am_fl58 : Cond.fieldLink "ShareHouse$Works" 18 (TX10 2).1 (TX10 2).2.1 (TX10 2).2.2.1 ∈ am_tb := am_tb1 (i := 190) rfl rfl
set_option maxRecDepth 100000 in
theorem am_fl59 : Cond.fieldLink "ShareHouse" 258 (TX10 2).1 (TX10 2).2.1 (TX10 2).2.2.1 ∈ am_tb := am_tb1 (i := 191) rfl rfl
set_option maxRecDepth 100000 in
theorem am_fl60 : Cond.fieldLink "ShareHouse$Works" 22 (TX10 3).1 (TX10 3).2.1 (TX10 3).2.2.1 ∈ am_tb := am_tb1 (i := 192) rfl rfl
set_option maxRecDepth 100000 in
theorem am_fl61 : Cond.fieldLink "ShareHouse$Works" 25 (TX10 4).1 (TX10 4).2.1 (TX10 4).2.2.1 ∈ am_tb := am_tb1 (i := 193) rfl rfl
set_option maxRecDepth 100000 in
theorem am_fl62 : Cond.fieldLink "ShareHouse$Works" 28 (TX10 5).1 (TX10 5).2.1 (TX10 5).2.2.1 ∈ am_tb := am_tb1 (i := 194) rfl rfl
set_option maxRecDepth 100000 in
theorem am_fl63 : Cond.fieldLink "ShareHouse$Works" 31 (TX10 6).1 (TX10 6).2.1 (TX10 6).2.2.1 ∈ am_tb := am_tb1 (i := 195) rfl rfl
set_option maxRecDepth 100000 in
theorem am_fl64 : Cond.fieldLink "ShareHouse$Works" 34 (TX10 7).1 (TX10 7).2.1 (TX10 7).2.2.1 ∈ am_tb := am_tb1 (i := 196) rfl rfl
set_option maxRecDepth 100000 in
theorem am_fl65 : Cond.fieldLink "ShareHouse$Works" 50 (TX10 8).1 (TX10 8).2.1 (TX10 8).2.2.1 ∈ am_tb := am_tb1 (i := 197) rfl rfl
set_option maxRecDepth 100000 in
theorem am_fl66 : Cond.fieldLink "ShareHouse" 338 (TX10 8).1 (TX10 8).2.1 (TX10 8).2.2.1 ∈ am_tb := am_tb1 (i := 198) rfl rfl
set_option maxRecDepth 100000 in
theorem am_fl67 : Cond.fieldLink "ShareHouse$Works" 37 (TX10 9).1 (TX10 9).2.1 (TX10 9).2.2.1 ∈ am_tb := am_tb1 (i := 199) rfl rfl
set_option maxRecDepth 100000 in
theorem am_fl68 : Cond.fieldLink "ShareHouse$Works" 40 (TX10 10).1 (TX10 10).2.1 (TX10 10).2.2.1 ∈ am_tb := am_tb1 (i := 200) rfl rfl
set_option maxRecDepth 100000 in
theorem am_fl69 : Cond.fieldLink "ShareHouse$Works" 54 (TX10 11).1 (TX10 11).2.1 (TX10 11).2.2.1 ∈ am_tb := am_tb1 (i := 201) rfl rfl
set_option maxRecDepth 100000 in
theorem am_fl70 : Cond.fieldLink "ShareHouse" 339 (TX10 11).1 (TX10 11).2.1 (TX10 11).2.2.1 ∈ am_tb := am_tb1 (i := 202) rfl rfl
set_option maxRecDepth 100000 in
theorem am_fl71 : Cond.fieldLink "ShareHouse$Reserve" 9 (TX8 0).1 (TX8 0).2.1 (TX8 0).2.2.1 ∈ am_tb := am_tb1 (i := 234) rfl rfl
set_option maxRecDepth 100000 in
theorem am_fl72 : Cond.fieldLink "ShareHouse$Reserve" 15 (TX8 1).1 (TX8 1).2.1 (TX8 1).2.2.1 ∈ am_tb := am_tb1 (i := 235) rfl rfl
set_option maxRecDepth 100000 in
theorem am_fl73 : Cond.fieldLink "ShareHouse$Reserve" 18 (TX8 2).1 (TX8 2).2.1 (TX8 2).2.2.1 ∈ am_tb := am_tb1 (i := 236) rfl rfl
set_option maxRecDepth 100000 in
theorem am_fl74 : Cond.fieldLink "ShareHouse$Reserve" 28 (TX8 3).1 (TX8 3).2.1 (TX8 3).2.2.1 ∈ am_tb := am_tb1 (i := 237) rfl rfl
set_option maxRecDepth 100000 in
theorem am_fl75 : Cond.fieldLink "ShareHouse" 342 (TX8 3).1 (TX8 3).2.1 (TX8 3).2.2.1 ∈ am_tb := am_tb1 (i := 238) rfl rfl
set_option maxRecDepth 100000 in
theorem am_fl76 : Cond.fieldLink "ShareHouse$Reserve" 21 (TX8 4).1 (TX8 4).2.1 (TX8 4).2.2.1 ∈ am_tb := am_tb1 (i := 239) rfl rfl
set_option maxRecDepth 100000 in
theorem am_fl77 : Cond.fieldLink "ShareHouse" 305 (TX8 4).1 (TX8 4).2.1 (TX8 4).2.2.1 ∈ am_tb := am_tb2 (i := 0) rfl rfl
set_option maxRecDepth 100000 in
theorem am_fl78 : Cond.fieldLink "ShareHouse$Proof" 45 (TX8 5).1 (TX8 5).2.1 (TX8 5).2.2.1 ∈ am_tb := am_tb2 (i := 1) rfl rfl
set_option maxRecDepth 100000 in
theorem am_fl79 : Cond.fieldLink "ShareHouse$Reserve" 46 (TX8 5).1 (TX8 5).2.1 (TX8 5).2.2.1 ∈ am_tb := am_tb2 (i := 2) rfl rfl
set_option maxRecDepth 100000 in
theorem am_fl80 : Cond.fieldLink "ShareHouse" 299 (TX8 5).1 (TX8 5).2.1 (TX8 5).2.2.1 ∈ am_tb := am_tb2 (i := 3) rfl rfl
set_option maxRecDepth 100000 in
theorem am_fl81 : Cond.fieldLink "ShareHouse$Proof" 48 (TX8 6).1 (TX8 6).2.1 (TX8 6).2.2.1 ∈ am_tb := am_tb2 (i := 4) rfl rfl
set_option maxRecDepth 100000 in
theorem am_fl82 : Cond.fieldLink "ShareHouse$Reserve" 49 (TX8 6).1 (TX8 6).2.1 (TX8 6).2.2.1 ∈ am_tb := am_tb2 (i := 5) rfl rfl
set_option maxRecDepth 100000 in
theorem am_fl83 : Cond.fieldLink "ShareHouse" 302 (TX8 6).1 (TX8 6).2.1 (TX8 6).2.2.1 ∈ am_tb := am_tb2 (i := 6) rfl rfl
set_option maxRecDepth 100000 in
theorem am_fl84 : Cond.fieldLink "ShareHouse$House" 61 (TX3 0).1 (TX3 0).2.1 (TX3 0).2.2.1 ∈ am_tb := am_tb2 (i := 22) rfl rfl
set_option maxRecDepth 100000 in
theorem am_fl85 : Cond.fieldLink "ShareHouse" 61 (TX3 0).1 (TX3 0).2.1 (TX3 0).2.2.1 ∈ am_tb := am_tb2 (i := 23) rfl rfl
set_option maxRecDepth 100000 in
theorem am_fl86 : Cond.fieldLink "ShareHouse$Accounts" 151 (TX3 0).1 (TX3 0).2.1 (TX3 0).2.2.1 ∈ am_tb := am_tb2 (i := 24) rfl rfl
set_option maxRecDepth 100000 in
theorem am_fl87 : Cond.fieldLink "ShareHouse$House" 18 (TX3 1).1 (TX3 1).2.1 (TX3 1).2.2.1 ∈ am_tb := am_tb2 (i := 25) rfl rfl
set_option maxRecDepth 100000 in
theorem am_fl88 : Cond.fieldLink "ShareHouse$Parting" 121 (TX3 1).1 (TX3 1).2.1 (TX3 1).2.2.1 ∈ am_tb := am_tb2 (i := 26) rfl rfl
set_option maxRecDepth 100000 in
theorem am_fl89 : Cond.fieldLink "ShareHouse$Accounts" 101 (TX3 1).1 (TX3 1).2.1 (TX3 1).2.2.1 ∈ am_tb := am_tb2 (i := 27) rfl rfl
set_option maxRecDepth 100000 in
theorem am_fl90 : Cond.fieldLink "ShareHouse" 150 (TX3 1).1 (TX3 1).2.1 (TX3 1).2.2.1 ∈ am_tb := am_tb2 (i := 28) rfl rfl
set_option maxRecDepth 100000 in
theorem am_fl91 : Cond.fieldLink "ShareHouse$House" 23 (TX3 2).1 (TX3 2).2.1 (TX3 2).2.2.1 ∈ am_tb := am_tb2 (i := 29) rfl rfl
set_option maxRecDepth 100000 in
theorem am_fl92 : Cond.fieldLink "ShareHouse$Parting" 104 (TX3 2).1 (TX3 2).2.1 (TX3 2).2.2.1 ∈ am_tb := am_tb2 (i := 30) rfl rfl
set_option maxRecDepth 100000 in
theorem am_fl93 : Cond.fieldLink "ShareHouse" 144 (TX3 2).1 (TX3 2).2.1 (TX3 2).2.2.1 ∈ am_tb := am_tb2 (i := 31) rfl rfl
set_option maxRecDepth 100000 in
theorem am_fl94 : Cond.fieldLink "ShareHouse$House" 29 (TX3 3).1 (TX3 3).2.1 (TX3 3).2.2.1 ∈ am_tb := am_tb2 (i := 32) rfl rfl
set_option maxRecDepth 100000 in
theorem am_fl95 : Cond.fieldLink "ShareHouse" 51 (TX3 3).1 (TX3 3).2.1 (TX3 3).2.2.1 ∈ am_tb := am_tb2 (i := 33) rfl rfl
set_option maxRecDepth 100000 in
theorem am_fl96 : Cond.fieldLink "ShareHouse$Accounts" 58 (TX3 3).1 (TX3 3).2.1 (TX3 3).2.2.1 ∈ am_tb := am_tb2 (i := 34) rfl rfl
set_option maxRecDepth 100000 in
theorem am_fl97 : Cond.fieldLink "ShareHouse$Parting" 96 (TX3 3).1 (TX3 3).2.1 (TX3 3).2.2.1 ∈ am_tb := am_tb2 (i := 35) rfl rfl
set_option maxRecDepth 100000 in
theorem am_fl98 : Cond.fieldLink "ShareHouse$House" 36 (TX3 4).1 (TX3 4).2.1 (TX3 4).2.2.1 ∈ am_tb := am_tb2 (i := 36) rfl rfl
set_option maxRecDepth 100000 in
theorem am_fl99 : Cond.fieldLink "ShareHouse$Accounts" 32 (TX3 4).1 (TX3 4).2.1 (TX3 4).2.2.1 ∈ am_tb := am_tb2 (i := 37) rfl rfl
set_option maxRecDepth 100000 in
theorem am_fl100 : Cond.fieldLink "ShareHouse$Parting" 85 (TX3 4).1 (TX3 4).2.1 (TX3 4).2.2.1 ∈ am_tb := am_tb2 (i := 38) rfl rfl
set_option maxRecDepth 100000 in
theorem am_fl101 : Cond.fieldLink "ShareHouse" 157 (TX3 4).1 (TX3 4).2.1 (TX3 4).2.2.1 ∈ am_tb := am_tb2 (i := 39) rfl rfl
set_option maxRecDepth 100000 in
theorem am_fl102 : Cond.fieldLink "ShareHouse$House" 43 (TX3 5).1 (TX3 5).2.1 (TX3 5).2.2.1 ∈ am_tb := am_tb2 (i := 40) rfl rfl
set_option maxRecDepth 100000 in
theorem am_fl103 : Cond.fieldLink "ShareHouse$Accounts" 65 (TX3 5).1 (TX3 5).2.1 (TX3 5).2.2.1 ∈ am_tb := am_tb2 (i := 41) rfl rfl
set_option maxRecDepth 100000 in
theorem am_fl104 : Cond.fieldLink "ShareHouse" 213 (TX3 5).1 (TX3 5).2.1 (TX3 5).2.2.1 ∈ am_tb := am_tb2 (i := 42) rfl rfl
set_option maxRecDepth 100000 in
theorem am_fl105 : Cond.fieldLink "ShareHouse$House" 50 (TX3 6).1 (TX3 6).2.1 (TX3 6).2.2.1 ∈ am_tb := am_tb2 (i := 43) rfl rfl
set_option maxRecDepth 100000 in
theorem am_fl106 : Cond.fieldLink "ShareHouse" 249 (TX3 6).1 (TX3 6).2.1 (TX3 6).2.2.1 ∈ am_tb := am_tb2 (i := 44) rfl rfl
set_option maxRecDepth 100000 in
theorem am_fl107 : Cond.fieldLink "ShareHouse$House" 57 (TX3 7).1 (TX3 7).2.1 (TX3 7).2.2.1 ∈ am_tb := am_tb2 (i := 45) rfl rfl
set_option maxRecDepth 100000 in
theorem am_fl108 : Cond.fieldLink "ShareHouse" 282 (TX3 7).1 (TX3 7).2.1 (TX3 7).2.2.1 ∈ am_tb := am_tb2 (i := 46) rfl rfl
set_option maxRecDepth 100000 in
theorem am_fl109 : Cond.fieldLink "ShareHouse$Tape" 11 (TX9 0).1 (TX9 0).2.1 (TX9 0).2.2.1 ∈ am_tb := am_tb2 (i := 72) rfl rfl
set_option maxRecDepth 100000 in
theorem am_fl110 : Cond.fieldLink "ShareHouse$Tape" 15 (TX9 1).1 (TX9 1).2.1 (TX9 1).2.2.1 ∈ am_tb := am_tb2 (i := 73) rfl rfl
set_option maxRecDepth 100000 in
theorem am_fl111 : Cond.fieldLink "ShareHouse$Tape" 25 (TX9 2).1 (TX9 2).2.1 (TX9 2).2.2.1 ∈ am_tb := am_tb2 (i := 74) rfl rfl
set_option maxRecDepth 100000 in
theorem am_fl112 : Cond.fieldLink "ShareHouse" 343 (TX9 2).1 (TX9 2).2.1 (TX9 2).2.2.1 ∈ am_tb := am_tb2 (i := 75) rfl rfl
set_option maxRecDepth 100000 in
theorem am_fl113 : Cond.fieldLink "ShareHouse$Tape" 21 (TX9 3).1 (TX9 3).2.1 (TX9 3).2.2.1 ∈ am_tb := am_tb2 (i := 76) rfl rfl
set_option maxRecDepth 100000 in
theorem am_fl114 : Cond.fieldLink "ShareHouse" 95 (TX9 3).1 (TX9 3).2.1 (TX9 3).2.2.1 ∈ am_tb := am_tb2 (i := 77) rfl rfl
set_option maxRecDepth 100000 in
theorem am_fl115 : Cond.fieldLink "ShareHouse$Tape" 54 (TX9 4).1 (TX9 4).2.1 (TX9 4).2.2.1 ∈ am_tb := am_tb2 (i := 78) rfl rfl
set_option maxRecDepth 100000 in
theorem am_fl116 : Cond.fieldLink "ShareHouse$Tape" 41 (TX9 5).1 (TX9 5).2.1 (TX9 5).2.2.1 ∈ am_tb := am_tb2 (i := 79) rfl rfl
set_option maxRecDepth 100000 in
theorem am_fl117 : Cond.fieldLink "ShareHouse$Tape" 47 (TX9 6).1 (TX9 6).2.1 (TX9 6).2.2.1 ∈ am_tb := am_tb2 (i := 80) rfl rfl
set_option maxRecDepth 100000 in
theorem am_fl118 : Cond.fieldLink "ShareHouse$Tape" 33 (TX9 7).1 (TX9 7).2.1 (TX9 7).2.2.1 ∈ am_tb := am_tb2 (i := 81) rfl rfl
set_option maxRecDepth 100000 in
theorem am_fl119 : Cond.fieldLink "ShareHouse$Tape" 36 (TX9 8).1 (TX9 8).2.1 (TX9 8).2.2.1 ∈ am_tb := am_tb2 (i := 82) rfl rfl
set_option maxRecDepth 100000 in
theorem am_fl120 : Cond.fieldLink "ShareHouse$Tape" 61 (TX9 9).1 (TX9 9).2.1 (TX9 9).2.2.1 ∈ am_tb := am_tb2 (i := 83) rfl rfl
set_option maxRecDepth 100000 in
theorem am_fl121 : Cond.fieldLink "ShareHouse$Proof" 11 (TX7 0).1 (TX7 0).2.1 (TX7 0).2.2.1 ∈ am_tb := am_tb2 (i := 111) rfl rfl
set_option maxRecDepth 100000 in
theorem am_fl122 : Cond.fieldLink "ShareHouse" 314 (TX7 0).1 (TX7 0).2.1 (TX7 0).2.2.1 ∈ am_tb := am_tb2 (i := 112) rfl rfl
set_option maxRecDepth 100000 in
theorem am_fl123 : Cond.fieldLink "ShareHouse$Proof" 18 (TX7 1).1 (TX7 1).2.1 (TX7 1).2.2.1 ∈ am_tb := am_tb2 (i := 113) rfl rfl
set_option maxRecDepth 100000 in
theorem am_fl124 : Cond.fieldLink "ShareHouse" 317 (TX7 1).1 (TX7 1).2.1 (TX7 1).2.2.1 ∈ am_tb := am_tb2 (i := 114) rfl rfl
set_option maxRecDepth 100000 in
theorem am_fl125 : Cond.fieldLink "ShareHouse$Proof" 15 (TX7 2).1 (TX7 2).2.1 (TX7 2).2.2.1 ∈ am_tb := am_tb2 (i := 115) rfl rfl
set_option maxRecDepth 100000 in
theorem am_fl126 : Cond.fieldLink "ShareHouse$Proof" 26 (TX7 3).1 (TX7 3).2.1 (TX7 3).2.2.1 ∈ am_tb := am_tb2 (i := 116) rfl rfl
set_option maxRecDepth 100000 in
theorem am_fl127 : Cond.fieldLink "ShareHouse" 318 (TX7 3).1 (TX7 3).2.1 (TX7 3).2.2.1 ∈ am_tb := am_tb2 (i := 117) rfl rfl
set_option maxRecDepth 100000 in
theorem am_fl128 : Cond.fieldLink "ShareHouse$Parting" 9 (TX6 0).1 (TX6 0).2.1 (TX6 0).2.2.1 ∈ am_tb := am_tb2 (i := 133) rfl rfl
set_option maxRecDepth 100000 in
theorem am_fl129 : Cond.fieldLink "ShareHouse" 119 (TX6 0).1 (TX6 0).2.1 (TX6 0).2.2.1 ∈ am_tb := am_tb2 (i := 134) rfl rfl
set_option maxRecDepth 100000 in
theorem am_fl130 : Cond.fieldLink "ShareHouse$Parting" 15 (TX6 1).1 (TX6 1).2.1 (TX6 1).2.2.1 ∈ am_tb := am_tb2 (i := 135) rfl rfl
set_option maxRecDepth 100000 in
theorem am_fl131 : Cond.fieldLink "ShareHouse" 123 (TX6 1).1 (TX6 1).2.1 (TX6 1).2.2.1 ∈ am_tb := am_tb2 (i := 136) rfl rfl
set_option maxRecDepth 100000 in
theorem am_fl132 : Cond.fieldLink "ShareHouse$Parting" 18 (TX6 2).1 (TX6 2).2.1 (TX6 2).2.2.1 ∈ am_tb := am_tb2 (i := 137) rfl rfl
set_option maxRecDepth 100000 in
theorem am_fl133 : Cond.fieldLink "ShareHouse$Parting" 21 (TX6 3).1 (TX6 3).2.1 (TX6 3).2.2.1 ∈ am_tb := am_tb2 (i := 138) rfl rfl
set_option maxRecDepth 100000 in
theorem am_fl134 : Cond.fieldLink "ShareHouse$Parting" 24 (TX6 4).1 (TX6 4).2.1 (TX6 4).2.2.1 ∈ am_tb := am_tb2 (i := 139) rfl rfl
set_option maxRecDepth 100000 in
theorem am_fl135 : Cond.fieldLink "ShareHouse$Accounts" 82 (TX6 4).1 (TX6 4).2.1 (TX6 4).2.2.1 ∈ am_tb := am_tb2 (i := 140) rfl rfl
set_option maxRecDepth 100000 in
theorem am_fl136 : Cond.fieldLink "ShareHouse" 202 (TX6 4).1 (TX6 4).2.1 (TX6 4).2.2.1 ∈ am_tb := am_tb2 (i := 141) rfl rfl
set_option maxRecDepth 100000 in
theorem am_fl137 : Cond.fieldLink "ShareHouse$Parting" 28 (TX6 5).1 (TX6 5).2.1 (TX6 5).2.2.1 ∈ am_tb := am_tb2 (i := 142) rfl rfl
set_option maxRecDepth 100000 in
theorem am_fl138 : Cond.fieldLink "ShareHouse" 132 (TX6 5).1 (TX6 5).2.1 (TX6 5).2.2.1 ∈ am_tb := am_tb2 (i := 143) rfl rfl
set_option maxRecDepth 100000 in
theorem am_fl139 : Cond.fieldLink "ShareHouse$Parting" 51 (TX6 6).1 (TX6 6).2.1 (TX6 6).2.2.1 ∈ am_tb := am_tb2 (i := 144) rfl rfl
set_option maxRecDepth 100000 in
theorem am_fl140 : Cond.fieldLink "ShareHouse" 128 (TX6 6).1 (TX6 6).2.1 (TX6 6).2.2.1 ∈ am_tb := am_tb2 (i := 145) rfl rfl
set_option maxRecDepth 100000 in
theorem am_fl141 : Cond.fieldLink "ShareHouse$Accounts" 11 (TX0 0).1 (TX0 0).2.1 (TX0 0).2.2.1 ∈ am_tb := am_tb2 (i := 170) rfl rfl
set_option maxRecDepth 100000 in
theorem am_fl142 : Cond.fieldLink "ShareHouse$Accounts" 16 (TX0 1).1 (TX0 1).2.1 (TX0 1).2.2.1 ∈ am_tb := am_tb2 (i := 171) rfl rfl
set_option maxRecDepth 100000 in
theorem am_fl143 : Cond.fieldLink "ShareHouse$Accounts" 20 (TX0 2).1 (TX0 2).2.1 (TX0 2).2.2.1 ∈ am_tb := am_tb2 (i := 172) rfl rfl
set_option maxRecDepth 100000 in
theorem am_fl144 : Cond.fieldLink "ShareHouse$Accounts" 23 (TX0 3).1 (TX0 3).2.1 (TX0 3).2.2.1 ∈ am_tb := am_tb2 (i := 173) rfl rfl
set_option maxRecDepth 100000 in
theorem am_fl145 : Cond.fieldLink "ShareHouse" 10 (TX11 0).1 (TX11 0).2.1 (TX11 0).2.2.1 ∈ am_tb := am_tb2 (i := 183) rfl rfl
set_option maxRecDepth 100000 in
theorem am_fl146 : Cond.fieldLink "ShareHouse" 16 (TX11 1).1 (TX11 1).2.1 (TX11 1).2.2.1 ∈ am_tb := am_tb2 (i := 184) rfl rfl
set_option maxRecDepth 100000 in
theorem am_fl147 : Cond.fieldLink "ShareHouse" 347 (TX11 2).1 (TX11 2).2.1 (TX11 2).2.2.1 ∈ am_tb := am_tb2 (i := 185) rfl rfl
set_option maxRecDepth 100000 in
theorem am_fl148 : Cond.fieldLink "ShareHouse" 22 (TX11 3).1 (TX11 3).2.1 (TX11 3).2.2.1 ∈ am_tb := am_tb2 (i := 186) rfl rfl
set_option maxRecDepth 100000 in
theorem am_fl149 : Cond.fieldLink "ShareHouse" 29 (TX11 4).1 (TX11 4).2.1 (TX11 4).2.2.1 ∈ am_tb := am_tb2 (i := 187) rfl rfl
set_option maxRecDepth 100000 in
theorem am_fl150 : Cond.fieldLink "ShareHouse" 36 (TX11 5).1 (TX11 5).2.1 (TX11 5).2.2.1 ∈ am_tb := am_tb2 (i := 188) rfl rfl
set_option maxRecDepth 100000 in
theorem am_fl151 : Cond.fieldLink "ShareHouse" 43 (TX11 6).1 (TX11 6).2.1 (TX11 6).2.2.1 ∈ am_tb := am_tb2 (i := 189) rfl rfl
set_option maxRecDepth 100000 in
theorem am_fl152 : Cond.fieldLink "ShareHouseModel" 7 (TX12 0).1 (TX12 0).2.1 (TX12 0).2.2.1 ∈ am_tb := am_tb5 (i := 129) rfl rfl
set_option maxRecDepth 100000 in
theorem am_fl153 : Cond.fieldLink "ShareHouseModel" 13 (TX12 1).1 (TX12 1).2.1 (TX12 1).2.2.1 ∈ am_tb := am_tb5 (i := 130) rfl rfl
set_option maxRecDepth 100000 in
theorem am_fl154 : Cond.fieldLink "ShareHouseModel" 318 (TX12 2).1 (TX12 2).2.1 (TX12 2).2.2.1 ∈ am_tb := am_tb5 (i := 131) rfl rfl
set_option maxRecDepth 100000 in
theorem am_fl155 : Cond.fieldLink "ShareHouseModel" 16 (TX12 3).1 (TX12 3).2.1 (TX12 3).2.2.1 ∈ am_tb := am_tb5 (i := 132) rfl rfl
set_option maxRecDepth 100000 in
theorem am_fl156 : Cond.fieldLink "ShareHouseModel" 55 (TX12 4).1 (TX12 4).2.1 (TX12 4).2.2.1 ∈ am_tb := am_tb5 (i := 133) rfl rfl
set_option maxRecDepth 100000 in
theorem am_fl157 : Cond.fieldLink "ShareHouseModel" 63 (TX12 5).1 (TX12 5).2.1 (TX12 5).2.2.1 ∈ am_tb := am_tb5 (i := 134) rfl rfl
set_option maxRecDepth 100000 in
theorem am_fl158 : Cond.fieldLink "ShareHouseModel" 60 (TX12 6).1 (TX12 6).2.1 (TX12 6).2.2.1 ∈ am_tb := am_tb5 (i := 135) rfl rfl
set_option maxRecDepth 100000 in
theorem am_fl159 : Cond.fieldLink "ShareHouseModel" 73 (TX12 7).1 (TX12 7).2.1 (TX12 7).2.2.1 ∈ am_tb := am_tb5 (i := 136) rfl rfl
set_option maxRecDepth 100000 in
theorem am_fl160 : Cond.fieldLink "ShareHouseModel" 126 (TX12 8).1 (TX12 8).2.1 (TX12 8).2.2.1 ∈ am_tb := am_tb5 (i := 137) rfl rfl
set_option maxRecDepth 100000 in
theorem am_fl161 : Cond.fieldLink "ShareHouseModel" 112 (TX12 9).1 (TX12 9).2.1 (TX12 9).2.2.1 ∈ am_tb := am_tb5 (i := 138) rfl rfl
set_option maxRecDepth 100000 in
theorem am_fl162 : Cond.fieldLink "ShareHouseModel" 115 (TX12 10).1 (TX12 10).2.1 (TX12 10).2.2.1 ∈ am_tb := am_tb5 (i := 139) rfl rfl
set_option maxRecDepth 100000 in
theorem am_fl163 : Cond.fieldLink "ShareHouseModel" 141 (TX12 11).1 (TX12 11).2.1 (TX12 11).2.2.1 ∈ am_tb := am_tb5 (i := 140) rfl rfl
set_option maxRecDepth 100000 in
theorem am_fl164 : Cond.fieldLink "ShareHouseModel" 153 (TX12 12).1 (TX12 12).2.1 (TX12 12).2.2.1 ∈ am_tb := am_tb5 (i := 141) rfl rfl
set_option maxRecDepth 100000 in
theorem am_fl165 : Cond.fieldLink "ShareHouseModel" 19 (TX12 13).1 (TX12 13).2.1 (TX12 13).2.2.1 ∈ am_tb := am_tb5 (i := 142) rfl rfl
set_option maxRecDepth 100000 in
theorem am_fl166 : Cond.fieldLink "ShareHouseModel" 162 (TX12 14).1 (TX12 14).2.1 (TX12 14).2.2.1 ∈ am_tb := am_tb5 (i := 143) rfl rfl
set_option maxRecDepth 100000 in
theorem am_fl167 : Cond.fieldLink "ShareHouseModel" 189 (TX12 15).1 (TX12 15).2.1 (TX12 15).2.2.1 ∈ am_tb := am_tb5 (i := 144) rfl rfl
set_option maxRecDepth 100000 in
theorem am_fl168 : Cond.fieldLink "ShareHouseModel" 192 (TX12 16).1 (TX12 16).2.1 (TX12 16).2.2.1 ∈ am_tb := am_tb5 (i := 145) rfl rfl
set_option maxRecDepth 100000 in
theorem am_fl169 : Cond.fieldLink "ShareHouseModel" 22 (TX12 17).1 (TX12 17).2.1 (TX12 17).2.2.1 ∈ am_tb := am_tb5 (i := 146) rfl rfl
set_option maxRecDepth 100000 in
theorem am_fl170 : Cond.fieldLink "ShareHouseModel" 210 (TX12 18).1 (TX12 18).2.1 (TX12 18).2.2.1 ∈ am_tb := am_tb5 (i := 147) rfl rfl
set_option maxRecDepth 100000 in
theorem am_fl171 : Cond.fieldLink "ShareHouseModel" 214 (TX12 19).1 (TX12 19).2.1 (TX12 19).2.2.1 ∈ am_tb := am_tb5 (i := 148) rfl rfl
set_option maxRecDepth 100000 in
theorem am_fl172 : Cond.fieldLink "ShareHouseModel" 26 (TX12 20).1 (TX12 20).2.1 (TX12 20).2.2.1 ∈ am_tb := am_tb5 (i := 149) rfl rfl
set_option maxRecDepth 100000 in
theorem am_fl173 : Cond.fieldLink "ShareHouseModel" 29 (TX12 21).1 (TX12 21).2.1 (TX12 21).2.2.1 ∈ am_tb := am_tb5 (i := 150) rfl rfl
set_option maxRecDepth 100000 in
theorem am_fl174 : Cond.fieldLink "ShareHouseModel" 257 (TX12 22).1 (TX12 22).2.1 (TX12 22).2.2.1 ∈ am_tb := am_tb5 (i := 151) rfl rfl
set_option maxRecDepth 100000 in
theorem am_fl175 : Cond.fieldLink "ShareHouseModel" 32 (TX12 23).1 (TX12 23).2.1 (TX12 23).2.2.1 ∈ am_tb := am_tb5 (i := 152) rfl rfl
set_option maxRecDepth 100000 in
theorem am_fl176 : Cond.fieldLink "ShareHouseModel" 35 (TX12 24).1 (TX12 24).2.1 (TX12 24).2.2.1 ∈ am_tb := am_tb5 (i := 153) rfl rfl
set_option maxRecDepth 100000 in
theorem am_fl177 : Cond.fieldLink "ShareHouseModel" 38 (TX12 25).1 (TX12 25).2.1 (TX12 25).2.2.1 ∈ am_tb := am_tb5 (i := 154) rfl rfl
set_option maxRecDepth 100000 in
theorem am_fl178 : Cond.fieldLink "ShareHouseModel" 41 (TX12 26).1 (TX12 26).2.1 (TX12 26).2.2.1 ∈ am_tb := am_tb5 (i := 155) rfl rfl
set_option maxRecDepth 100000 in
theorem am_fl179 : Cond.fieldLink "ShareHouseModel" 45 (TX12 27).1 (TX12 27).2.1 (TX12 27).2.2.1 ∈ am_tb := am_tb5 (i := 156) rfl rfl
set_option maxRecDepth 100000 in
theorem am_fl180 : Cond.fieldLink "ShareHouseModel" 311 (TX12 28).1 (TX12 28).2.1 (TX12 28).2.2.1 ∈ am_tb := am_tb5 (i := 157) rfl rfl
set_option maxRecDepth 100000 in
theorem am_fl181 : Cond.fieldLink "ShareHouseModel" 48 (TX12 29).1 (TX12 29).2.1 (TX12 29).2.2.1 ∈ am_tb := am_tb5 (i := 158) rfl rfl
set_option maxRecDepth 100000 in
theorem am_flk_ok {pos no i a b : Nat} (h : am_flk[pos]? = some (no, i, a, b)) : ∃ q : vw_C, am_cl[a]? = some q ∧ Cond.fieldLink (am_on no) i (q.2.1 b).1 (q.2.1 b).2.1 (q.2.1 b).2.2.1 ∈ am_tb := by
  match pos, h with
  | 0, h => cases h; exact ⟨_, rfl, am_fl0⟩
  | 1, h => cases h; exact ⟨_, rfl, am_fl1⟩
  | 2, h => cases h; exact ⟨_, rfl, am_fl2⟩
  | 3, h => cases h; exact ⟨_, rfl, am_fl3⟩
  | 4, h => cases h; exact ⟨_, rfl, am_fl4⟩
  | 5, h => cases h; exact ⟨_, rfl, am_fl5⟩
  | 6, h => cases h; exact ⟨_, rfl, am_fl6⟩
  | 7, h => cases h; exact ⟨_, rfl, am_fl7⟩
  | 8, h => cases h; exact ⟨_, rfl, am_fl8⟩
  | 9, h => cases h; exact ⟨_, rfl, am_fl9⟩
  | 10, h => cases h; exact ⟨_, rfl, am_fl10⟩
  | 11, h => cases h; exact ⟨_, rfl, am_fl11⟩
  | 12, h => cases h; exact ⟨_, rfl, am_fl12⟩
  | 13, h => cases h; exact ⟨_, rfl, am_fl13⟩
  | 14, h => cases h; exact ⟨_, rfl, am_fl14⟩
  | 15, h => cases h; exact ⟨_, rfl, am_fl15⟩
  | 16, h => cases h; exact ⟨_, rfl, am_fl16⟩
  | 17, h => cases h; exact ⟨_, rfl, am_fl17⟩
  | 18, h => cases h; exact ⟨_, rfl, am_fl18⟩
  | 19, h => cases h; exact ⟨_, rfl, am_fl19⟩
  | 20, h => cases h; exact ⟨_, rfl, am_fl20⟩
  | 21, h => cases h; exact ⟨_, rfl, am_fl21⟩
  | 22, h => cases h; exact ⟨_, rfl, am_fl22⟩
  | 23, h => cases h; exact ⟨_, rfl, am_fl23⟩
  | 24, h => cases h; exact ⟨_, rfl, am_fl24⟩
  | 25, h => cases h; exact ⟨_, rfl, am_fl25⟩
  | 26, h => cases h; exact ⟨_, rfl, am_fl26⟩
  | 27, h => cases h; exact ⟨_, rfl, am_fl27⟩
  | 28, h => cases h; exact ⟨_, rfl, am_fl28⟩
  | 29, h => cases h; exact ⟨_, rfl, am_fl29⟩
  | 30, h => cases h; exact ⟨_, rfl, am_fl30⟩
  | 31, h => cases h; exact ⟨_, rfl, am_fl31⟩
  | 32, h => cases h; exact ⟨_, rfl, am_fl32⟩
  | 33, h => cases h; exact ⟨_, rfl, am_fl33⟩
  | 34, h => cases h; exact ⟨_, rfl, am_fl34⟩
  | 35, h => cases h; exact ⟨_, rfl, am_fl35⟩
  | 36, h => cases h; exact ⟨_, rfl, am_fl36⟩
  | 37, h => cases h; exact ⟨_, rfl, am_fl37⟩
  | 38, h => cases h; exact ⟨_, rfl, am_fl38⟩
  | 39, h => cases h; exact ⟨_, rfl, am_fl39⟩
  | 40, h => cases h; exact ⟨_, rfl, am_fl40⟩
  | 41, h => cases h; exact ⟨_, rfl, am_fl41⟩
  | 42, h => cases h; exact ⟨_, rfl, am_fl42⟩
  | 43, h => cases h; exact ⟨_, rfl, am_fl43⟩
  | 44, h => cases h; exact ⟨_, rfl, am_fl44⟩
  | 45, h => cases h; exact ⟨_, rfl, am_fl45⟩
  | 46, h => cases h; exact ⟨_, rfl, am_fl46⟩
  | 47, h => cases h; exact ⟨_, rfl, am_fl47⟩
  | 48, h => cases h; exact ⟨_, rfl, am_fl48⟩
  | 49, h => cases h; exact ⟨_, rfl, am_fl49⟩
  | 50, h => cases h; exact ⟨_, rfl, am_fl50⟩
  | 51, h => cases h; exact ⟨_, rfl, am_fl51⟩
  | 52, h => cases h; exact ⟨_, rfl, am_fl52⟩
  | 53, h => cases h; exact ⟨_, rfl, am_fl53⟩
  | 54, h => cases h; exact ⟨_, rfl, am_fl54⟩
  | 55, h => cases h; exact ⟨_, rfl, am_fl55⟩
  | 56, h => cases h; exact ⟨_, rfl, am_fl56⟩
  | 57, h => cases h; exact ⟨_, rfl, am_fl57⟩
  | 58, h => cases h; exact ⟨_, rfl, am_fl58⟩
  | 59, h => cases h; exact ⟨_, rfl, am_fl59⟩
  | 60, h => cases h; exact ⟨_, rfl, am_fl60⟩
  | 61, h => cases h; exact ⟨_, rfl, am_fl61⟩
  | 62, h => cases h; exact ⟨_, rfl, am_fl62⟩
  | 63, h => cases h; exact ⟨_, rfl, am_fl63⟩
  | 64, h => cases h; exact ⟨_, rfl, am_fl64⟩
  | 65, h => cases h; exact ⟨_, rfl, am_fl65⟩
  | 66, h => cases h; exact ⟨_, rfl, am_fl66⟩
  | 67, h => cases h; exact ⟨_, rfl, am_fl67⟩
  | 68, h => cases h; exact ⟨_, rfl, am_fl68⟩
  | 69, h => cases h; exact ⟨_, rfl, am_fl69⟩
  | 70, h => cases h; exact ⟨_, rfl, am_fl70⟩
  | 71, h => cases h; exact ⟨_, rfl, am_fl71⟩
  | 72, h => cases h; exact ⟨_, rfl, am_fl72⟩
  | 73, h => cases h; exact ⟨_, rfl, am_fl73⟩
  | 74, h => cases h; exact ⟨_, rfl, am_fl74⟩
  | 75, h => cases h; exact ⟨_, rfl, am_fl75⟩
  | 76, h => cases h; exact ⟨_, rfl, am_fl76⟩
  | 77, h => cases h; exact ⟨_, rfl, am_fl77⟩
  | 78, h => cases h; exact ⟨_, rfl, am_fl78⟩
  | 79, h => cases h; exact ⟨_, rfl, am_fl79⟩
  | 80, h => cases h; exact ⟨_, rfl, am_fl80⟩
  | 81, h => cases h; exact ⟨_, rfl, am_fl81⟩
  | 82, h => cases h; exact ⟨_, rfl, am_fl82⟩
  | 83, h => cases h; exact ⟨_, rfl, am_fl83⟩
  | 84, h => cases h; exact ⟨_, rfl, am_fl84⟩
  | 85, h => cases h; exact ⟨_, rfl, am_fl85⟩
  | 86, h => cases h; exact ⟨_, rfl, am_fl86⟩
  | 87, h => cases h; exact ⟨_, rfl, am_fl87⟩
  | 88, h => cases h; exact ⟨_, rfl, am_fl88⟩
  | 89, h => cases h; exact ⟨_, rfl, am_fl89⟩
  | 90, h => cases h; exact ⟨_, rfl, am_fl90⟩
  | 91, h => cases h; exact ⟨_, rfl, am_fl91⟩
  | 92, h => cases h; exact ⟨_, rfl, am_fl92⟩
  | 93, h => cases h; exact ⟨_, rfl, am_fl93⟩
  | 94, h => cases h; exact ⟨_, rfl, am_fl94⟩
  | 95, h => cases h; exact ⟨_, rfl, am_fl95⟩
  | 96, h => cases h; exact ⟨_, rfl, am_fl96⟩
  | 97, h => cases h; exact ⟨_, rfl, am_fl97⟩
  | 98, h => cases h; exact ⟨_, rfl, am_fl98⟩
  | 99, h => cases h; exact ⟨_, rfl, am_fl99⟩
  | 100, h => cases h; exact ⟨_, rfl, am_fl100⟩
  | 101, h => cases h; exact ⟨_, rfl, am_fl101⟩
  | 102, h => cases h; exact ⟨_, rfl, am_fl102⟩
  | 103, h => cases h; exact ⟨_, rfl, am_fl103⟩
  | 104, h => cases h; exact ⟨_, rfl, am_fl104⟩
  | 105, h => cases h; exact ⟨_, rfl, am_fl105⟩
  | 106, h => cases h; exact ⟨_, rfl, am_fl106⟩
  | 107, h => cases h; exact ⟨_, rfl, am_fl107⟩
  | 108, h => cases h; exact ⟨_, rfl, am_fl108⟩
  | 109, h => cases h; exact ⟨_, rfl, am_fl109⟩
  | 110, h => cases h; exact ⟨_, rfl, am_fl110⟩
  | 111, h => cases h; exact ⟨_, rfl, am_fl111⟩
  | 112, h => cases h; exact ⟨_, rfl, am_fl112⟩
  | 113, h => cases h; exact ⟨_, rfl, am_fl113⟩
  | 114, h => cases h; exact ⟨_, rfl, am_fl114⟩
  | 115, h => cases h; exact ⟨_, rfl, am_fl115⟩
  | 116, h => cases h; exact ⟨_, rfl, am_fl116⟩
  | 117, h => cases h; exact ⟨_, rfl, am_fl117⟩
  | 118, h => cases h; exact ⟨_, rfl, am_fl118⟩
  | 119, h => cases h; exact ⟨_, rfl, am_fl119⟩
  | 120, h => cases h; exact ⟨_, rfl, am_fl120⟩
  | 121, h => cases h; exact ⟨_, rfl, am_fl121⟩
  | 122, h => cases h; exact ⟨_, rfl, am_fl122⟩
  | 123, h => cases h; exact ⟨_, rfl, am_fl123⟩
  | 124, h => cases h; exact ⟨_, rfl, am_fl124⟩
  | 125, h => cases h; exact ⟨_, rfl, am_fl125⟩
  | 126, h => cases h; exact ⟨_, rfl, am_fl126⟩
  | 127, h => cases h; exact ⟨_, rfl, am_fl127⟩
  | 128, h => cases h; exact ⟨_, rfl, am_fl128⟩
  | 129, h => cases h; exact ⟨_, rfl, am_fl129⟩
  | 130, h => cases h; exact ⟨_, rfl, am_fl130⟩
  | 131, h => cases h; exact ⟨_, rfl, am_fl131⟩
  | 132, h => cases h; exact ⟨_, rfl, am_fl132⟩
  | 133, h => cases h; exact ⟨_, rfl, am_fl133⟩
  | 134, h => cases h; exact ⟨_, rfl, am_fl134⟩
  | 135, h => cases h; exact ⟨_, rfl, am_fl135⟩
  | 136, h => cases h; exact ⟨_, rfl, am_fl136⟩
  | 137, h => cases h; exact ⟨_, rfl, am_fl137⟩
  | 138, h => cases h; exact ⟨_, rfl, am_fl138⟩
  | 139, h => cases h; exact ⟨_, rfl, am_fl139⟩
  | 140, h => cases h; exact ⟨_, rfl, am_fl140⟩
  | 141, h => cases h; exact ⟨_, rfl, am_fl141⟩
  | 142, h => cases h; exact ⟨_, rfl, am_fl142⟩
  | 143, h => cases h; exact ⟨_, rfl, am_fl143⟩
  | 144, h => cases h; exact ⟨_, rfl, am_fl144⟩
  | 145, h => cases h; exact ⟨_, rfl, am_fl145⟩
  | 146, h => cases h; exact ⟨_, rfl, am_fl146⟩
  | 147, h => cases h; exact ⟨_, rfl, am_fl147⟩
  | 148, h => cases h; exact ⟨_, rfl, am_fl148⟩
  | 149, h => cases h; exact ⟨_, rfl, am_fl149⟩
  | 150, h => cases h; exact ⟨_, rfl, am_fl150⟩
  | 151, h => cases h; exact ⟨_, rfl, am_fl151⟩
  | 152, h => cases h; exact ⟨_, rfl, am_fl152⟩
  | 153, h => cases h; exact ⟨_, rfl, am_fl153⟩
  | 154, h => cases h; exact ⟨_, rfl, am_fl154⟩
  | 155, h => cases h; exact ⟨_, rfl, am_fl155⟩
  | 156, h => cases h; exact ⟨_, rfl, am_fl156⟩
  | 157, h => cases h; exact ⟨_, rfl, am_fl157⟩
  | 158, h => cases h; exact ⟨_, rfl, am_fl158⟩
  | 159, h => cases h; exact ⟨_, rfl, am_fl159⟩
  | 160, h => cases h; exact ⟨_, rfl, am_fl160⟩
  | 161, h => cases h; exact ⟨_, rfl, am_fl161⟩
  | 162, h => cases h; exact ⟨_, rfl, am_fl162⟩
  | 163, h => cases h; exact ⟨_, rfl, am_fl163⟩
  | 164, h => cases h; exact ⟨_, rfl, am_fl164⟩
  | 165, h => cases h; exact ⟨_, rfl, am_fl165⟩
  | 166, h => cases h; exact ⟨_, rfl, am_fl166⟩
  | 167, h => cases h; exact ⟨_, rfl, am_fl167⟩
  | 168, h => cases h; exact ⟨_, rfl, am_fl168⟩
  | 169, h => cases h; exact ⟨_, rfl, am_fl169⟩
  | 170, h => cases h; exact ⟨_, rfl, am_fl170⟩
  | 171, h => cases h; exact ⟨_, rfl, am_fl171⟩
  | 172, h => cases h; exact ⟨_, rfl, am_fl172⟩
  | 173, h => cases h; exact ⟨_, rfl, am_fl173⟩
  | 174, h => cases h; exact ⟨_, rfl, am_fl174⟩
  | 175, h => cases h; exact ⟨_, rfl, am_fl175⟩
  | 176, h => cases h; exact ⟨_, rfl, am_fl176⟩
  | 177, h => cases h; exact ⟨_, rfl, am_fl177⟩
  | 178, h => cases h; exact ⟨_, rfl, am_fl178⟩
  | 179, h => cases h; exact ⟨_, rfl, am_fl179⟩
  | 180, h => cases h; exact ⟨_, rfl, am_fl180⟩
  | 181, h => cases h; exact ⟨_, rfl, am_fl181⟩
  | k + 182, h => rw [List.getElem?_eq_none (show am_flk.length ≤ _ from Nat.le_add_left 182 k)] at h; cases h
def am_cnk : List (Nat × Nat × Value) := [(11, 126, .long (-1000000000)), (11, 156, .int (99999)), (6, 127, .long (-1)), (11, 205, .int (-1000000000)), (0, 104, .long (100000)), (13, 265, .int (1431655765)), (13, 266, .int (858993459)), (13, 267, .int (252645135)), (12, 58, .long (255)), (12, 105, .long (6384748)), (12, 89, .long (1919905638)), (12, 91, .long (1818846836)), (12, 93, .long (465491030131)), (12, 95, .long (512736126322)), (12, 97, .long (1718186597)), (12, 99, .long (418346528372)), (12, 110, .long (6385252)), (12, 168, .long (1885436275)), (12, 118, .long (31084793196801639)), (12, 120, .long (435695214956)), (12, 122, .long (1634887009)), (12, 124, .long (439905906546)), (12, 133, .long (28518)), (12, 157, .long (26982)), (12, 139, .long (7237492)), (12, 144, .long (1936224112)), (12, 149, .long (418263299685)), (12, 151, .long (422608400247)), (12, 177, .long (59)), (12, 217, .long (-1000000000)), (12, 222, .int (99999)), (12, 255, .long (-1)), (12, 263, .int (-1000000000)), (12, 273, .long (100000)), (15, 23, .long (4294967295))]
set_option maxRecDepth 100000 in
theorem am_cnk_i {pos no i : Nat} {x : Int32} (h : am_cnk[pos]? = some (no, i, .int x)) : Cond.constant (am_on no) i x ∈ am_tb := by
  match pos, h with
  | 0, h => cases h
  | 1, h => cases h; exact am_tb3 (i := 221) rfl rfl
  | 2, h => cases h
  | 3, h => cases h; exact am_tb4 (i := 53) rfl rfl
  | 4, h => cases h
  | 5, h => cases h; exact am_tb5 (i := 20) rfl rfl
  | 6, h => cases h; exact am_tb5 (i := 21) rfl rfl
  | 7, h => cases h; exact am_tb5 (i := 22) rfl rfl
  | 8, h => cases h
  | 9, h => cases h
  | 10, h => cases h
  | 11, h => cases h
  | 12, h => cases h
  | 13, h => cases h
  | 14, h => cases h
  | 15, h => cases h
  | 16, h => cases h
  | 17, h => cases h
  | 18, h => cases h
  | 19, h => cases h
  | 20, h => cases h
  | 21, h => cases h
  | 22, h => cases h
  | 23, h => cases h
  | 24, h => cases h
  | 25, h => cases h
  | 26, h => cases h
  | 27, h => cases h
  | 28, h => cases h
  | 29, h => cases h
  | 30, h => cases h; exact am_tb6 (i := 134) rfl rfl
  | 31, h => cases h
  | 32, h => cases h; exact am_tb6 (i := 196) rfl rfl
  | 33, h => cases h
  | 34, h => cases h
  | k + 35, h => simp [am_cnk] at h
set_option maxRecDepth 100000 in
theorem am_cnk_l {pos no i : Nat} {x : Int64} (h : am_cnk[pos]? = some (no, i, .long x)) : Cond.constantLong (am_on no) i x ∈ am_tb := by
  match pos, h with
  | 0, h => cases h; exact am_tb3 (i := 200) rfl rfl
  | 1, h => cases h
  | 2, h => cases h; exact am_tb4 (i := 43) rfl rfl
  | 3, h => cases h
  | 4, h => cases h; exact am_tb4 (i := 127) rfl rfl
  | 5, h => cases h
  | 6, h => cases h
  | 7, h => cases h
  | 8, h => cases h; exact am_tb5 (i := 235) rfl rfl
  | 9, h => cases h; exact am_tb6 (i := 28) rfl rfl
  | 10, h => cases h; exact am_tb6 (i := 45) rfl rfl
  | 11, h => cases h; exact am_tb6 (i := 46) rfl rfl
  | 12, h => cases h; exact am_tb6 (i := 47) rfl rfl
  | 13, h => cases h; exact am_tb6 (i := 48) rfl rfl
  | 14, h => cases h; exact am_tb6 (i := 49) rfl rfl
  | 15, h => cases h; exact am_tb6 (i := 50) rfl rfl
  | 16, h => cases h; exact am_tb6 (i := 51) rfl rfl
  | 17, h => cases h; exact am_tb6 (i := 52) rfl rfl
  | 18, h => cases h; exact am_tb6 (i := 61) rfl rfl
  | 19, h => cases h; exact am_tb6 (i := 62) rfl rfl
  | 20, h => cases h; exact am_tb6 (i := 63) rfl rfl
  | 21, h => cases h; exact am_tb6 (i := 64) rfl rfl
  | 22, h => cases h; exact am_tb6 (i := 69) rfl rfl
  | 23, h => cases h; exact am_tb6 (i := 74) rfl rfl
  | 24, h => cases h; exact am_tb6 (i := 79) rfl rfl
  | 25, h => cases h; exact am_tb6 (i := 80) rfl rfl
  | 26, h => cases h; exact am_tb6 (i := 85) rfl rfl
  | 27, h => cases h; exact am_tb6 (i := 86) rfl rfl
  | 28, h => cases h; exact am_tb6 (i := 87) rfl rfl
  | 29, h => cases h; exact am_tb6 (i := 118) rfl rfl
  | 30, h => cases h
  | 31, h => cases h; exact am_tb6 (i := 191) rfl rfl
  | 32, h => cases h
  | 33, h => cases h; exact am_tb6 (i := 232) rfl rfl
  | 34, h => cases h; exact am_tb7 (i := 120) rfl rfl
  | k + 35, h => simp [am_cnk] at h
def am_av (σ : am_S) (k b : Nat) (t : FieldType) : Option Value := match t with
  | .int => some (.int (σ.2.1.1 k b))
  | .boolean => some (.int (σ.2.1.1 k b))
  | .long => some (.long (σ.2.1.2 k b))
  | _ => (σ.2.2 k b).map Value.ref
/-! simple instructions: (pc, instruction, a, b, place of a word, a value) -/
abbrev am_Q : Type := Nat × Instr × Nat × Nat × Nat × Value
def am_ln : Instr → Nat
  | .bipush _ => 2
  | .sipush _ => 3
  | .ldc _ => 2
  | .ldc_w _ => 3
  | .ldc2_w _ => 3
  | .iload _ => 2
  | .lload _ => 2
  | .aload _ => 2
  | .istore _ => 2
  | .lstore _ => 2
  | .astore _ => 2
  | .iinc _ _ => 3
  | .getfield _ => 3
  | .putfield _ => 3
  | .goto _ => 3
  | _ => 1
def am_op (nL pc : Nat) (i : Instr) (a b : Nat) (v : Value) (lv : List (Nat × Value)) (st : List Value) (σ : am_S) : Option am_Y := match i with
  | .iconst _ => some (pc + am_ln i, lv, v :: st, σ)
  | .bipush _ => some (pc + am_ln i, lv, v :: st, σ)
  | .sipush _ => some (pc + am_ln i, lv, v :: st, σ)
  | .ldc_w _ => some (pc + am_ln i, lv, v :: st, σ)
  | .lconst _ => some (pc + am_ln i, lv, v :: st, σ)
  | .ldc2_w _ => some (pc + am_ln i, lv, v :: st, σ)
  | .ldc _ => some (pc + 2, lv, v :: st, σ)
  | .iload_n k => match am_lg lv k with | some (.int x) => some (pc + 1, lv, .int x :: st, σ) | _ => none
  | .iload k => match am_lg lv k with | some (.int x) => some (pc + 2, lv, .int x :: st, σ) | _ => none
  | .lload_n k => match am_lg lv k with | some (.long x) => some (pc + 1, lv, .long x :: st, σ) | _ => none
  | .lload k => match am_lg lv k with | some (.long x) => some (pc + 2, lv, .long x :: st, σ) | _ => none
  | .aload_n k => match am_lg lv k with | some (.ref x) => some (pc + 1, lv, .ref x :: st, σ) | _ => none
  | .aload k => match am_lg lv k with | some (.ref x) => some (pc + 2, lv, .ref x :: st, σ) | _ => none
  | .istore_n k => match st with | .int x :: r => (bif Nat.blt k nL then some (pc + 1, am_l1 lv k (.int x), r, σ) else none) | _ => none
  | .istore k => match st with | .int x :: r => (bif Nat.blt k nL then some (pc + 2, am_l1 lv k (.int x), r, σ) else none) | _ => none
  | .astore_n k => match st with | .ref x :: r => (bif Nat.blt k nL then some (pc + 1, am_l1 lv k (.ref x), r, σ) else none) | _ => none
  | .astore k => match st with | .ref x :: r => (bif Nat.blt k nL then some (pc + 2, am_l1 lv k (.ref x), r, σ) else none) | _ => none
  | .lstore_n k => match st with | .long x :: r => (bif Nat.blt (k + 1) nL then some (pc + 1, am_l2 lv k (.long x), r, σ) else none) | _ => none
  | .lstore k => match st with | .long x :: r => (bif Nat.blt (k + 1) nL then some (pc + 2, am_l2 lv k (.long x), r, σ) else none) | _ => none
  | .iinc k _ => match am_lg lv k, v with | some (.int x), .int d => (bif Nat.blt k nL then some (pc + 3, am_l1 lv k (.int (x + d)), st, σ) else none) | _, _ => none
  | .iadd => match st with | .int y :: .int x :: r => some (pc + 1, lv, .int (x + y) :: r, σ) | _ => none
  | .isub => match st with | .int y :: .int x :: r => some (pc + 1, lv, .int (x - y) :: r, σ) | _ => none
  | .imul => match st with | .int y :: .int x :: r => some (pc + 1, lv, .int (x * y) :: r, σ) | _ => none
  | .iand => match st with | .int y :: .int x :: r => some (pc + 1, lv, .int (x &&& y) :: r, σ) | _ => none
  | .ior => match st with | .int y :: .int x :: r => some (pc + 1, lv, .int (x ||| y) :: r, σ) | _ => none
  | .ixor => match st with | .int y :: .int x :: r => some (pc + 1, lv, .int (x ^^^ y) :: r, σ) | _ => none
  | .ishl => match st with | .int y :: .int x :: r => some (pc + 1, lv, .int (x <<< (y &&& 31)) :: r, σ) | _ => none
  | .ishr => match st with | .int y :: .int x :: r => some (pc + 1, lv, .int (x >>> (y &&& 31)) :: r, σ) | _ => none
  | .iushr => match st with | .int y :: .int x :: r => some (pc + 1, lv, .int ((x.toUInt32 >>> (y.toUInt32 &&& Int32.toUInt32 31)).toInt32) :: r, σ) | _ => none
  | .ladd => match st with | .long y :: .long x :: r => some (pc + 1, lv, .long (x + y) :: r, σ) | _ => none
  | .lsub => match st with | .long y :: .long x :: r => some (pc + 1, lv, .long (x - y) :: r, σ) | _ => none
  | .lmul => match st with | .long y :: .long x :: r => some (pc + 1, lv, .long (x * y) :: r, σ) | _ => none
  | .land => match st with | .long y :: .long x :: r => some (pc + 1, lv, .long (x &&& y) :: r, σ) | _ => none
  | .lor => match st with | .long y :: .long x :: r => some (pc + 1, lv, .long (x ||| y) :: r, σ) | _ => none
  | .lxor => match st with | .long y :: .long x :: r => some (pc + 1, lv, .long (x ^^^ y) :: r, σ) | _ => none
  | .lshl => match st with | .int y :: .long x :: r => some (pc + 1, lv, .long (x <<< (y.toInt64 &&& 63)) :: r, σ) | _ => none
  | .lshr => match st with | .int y :: .long x :: r => some (pc + 1, lv, .long (x >>> (y.toInt64 &&& 63)) :: r, σ) | _ => none
  | .lushr => match st with | .int y :: .long x :: r => some (pc + 1, lv, .long ((x.toUInt64 >>> (y.toInt64.toUInt64 &&& Int64.toUInt64 63)).toInt64) :: r, σ) | _ => none
  | .lcmp => match st with | .long y :: .long x :: r => some (pc + 1, lv, .int (lg_cmp x y) :: r, σ) | _ => none
  | .ineg => match st with | .int x :: r => some (pc + 1, lv, .int (-x) :: r, σ) | _ => none
  | .i2l => match st with | .int x :: r => some (pc + 1, lv, .long x.toInt64 :: r, σ) | _ => none
  | .l2i => match st with | .long x :: r => some (pc + 1, lv, .int x.toInt32 :: r, σ) | _ => none
  | .dup => match st with | .int x :: r => some (pc + 1, lv, .int x :: .int x :: r, σ) | .ref x :: r => some (pc + 1, lv, .ref x :: .ref x :: r, σ) | _ => none
  | .dup2 => match st with | .int x :: .ref y :: r => some (pc + 1, lv, .int x :: .ref y :: .int x :: .ref y :: r, σ) | .long x :: r => some (pc + 1, lv, .long x :: .long x :: r, σ) | _ => none
  | .goto _ => some (a, lv, st, σ)
  | .getfield _ => match st with | .ref k :: r => (bif Nat.blt k σ.1 && Nat.blt k 1000 && Nat.beq (am_sh k).1 0 && Nat.beq (am_sh k).2 a && Nat.blt b (am_nf a) then (match am_av σ k b (am_ty a b) with | some w => some (pc + 3, lv, w :: r, σ) | none => none) else none) | _ => none
  | .putfield _ => match st with | .int x :: .ref k :: r => (bif Nat.blt k σ.1 && Nat.blt k 1000 && Nat.beq (am_sh k).1 0 && Nat.beq (am_sh k).2 a && Nat.blt b (am_nf a) then (match am_ty a b with | .int => some (pc + 3, lv, r, (σ.1, am_si σ.2.1 k b x, σ.2.2)) | _ => none) else none) | .long x :: .ref k :: r => (bif Nat.blt k σ.1 && Nat.blt k 1000 && Nat.beq (am_sh k).1 0 && Nat.beq (am_sh k).2 a && Nat.blt b (am_nf a) then (match am_ty a b with | .long => some (pc + 3, lv, r, (σ.1, am_sl σ.2.1 k b x, σ.2.2)) | _ => none) else none) | _ => none
  | .arraylength => match st with | .ref k :: r => (bif Nat.blt k σ.1 && Nat.blt k 1000 && Nat.blt 0 (am_sh k).1 && Nat.blt (am_sh k).1 6 then some (pc + 1, lv, .int (Int32.ofNat (am_sh k).2) :: r, σ) else none) | _ => none
  | _ => none
def am_lk (no : Nat) (q : am_Q) : Bool := match q with
  | (_, .iconst n, _, _, _, .int x) => decide (Int32.ofInt n = x)
  | (_, .bipush n, _, _, _, .int x) => decide ((Int8.ofInt n).toInt32 = x)
  | (_, .sipush n, _, _, _, .int x) => decide ((Int16.ofInt n).toInt32 = x)
  | (_, .lconst n, _, _, _, .long x) => decide (Int64.ofNat (n : Nat) = x)
  | (_, .ldc i, _, _, pos, .int x) => decide (am_cnk[pos]? = some (no, i, .int x))
  | (_, .ldc_w i, _, _, pos, .int x) => decide (am_cnk[pos]? = some (no, i, .int x))
  | (_, .ldc2_w i, _, _, pos, .long x) => decide (am_cnk[pos]? = some (no, i, .long x))
  | (_, .ldc i, a, _, _, .ref x) => decide (no = 9 ∧ x = 1000 + a ∧ am_sx[a]? = some i)
  | (_, .iinc _ n, _, _, _, .int x) => decide (Int32.ofInt n = x)
  | (pc, .goto o, a, _, _, _) => decide ((pc : Int) + o = (a : Int))
  | (_, .getfield i, a, b, pos, _) => decide (am_flk[pos]? = some (no, i, a, b))
  | (_, .putfield i, a, b, pos, _) => decide (am_flk[pos]? = some (no, i, a, b)) && (match am_cl[a]? with | some (_, T, _) => decide ((T b).2.2.2 = false) | none => false)
  | (_, .iconst _, _) | (_, .bipush _, _) | (_, .sipush _, _) | (_, .lconst _, _) | (_, .ldc _, _) | (_, .ldc_w _, _) | (_, .ldc2_w _, _) | (_, .iinc _ _, _) => false
  | _ => true
def am_ok (no : Nat) (cc : ByteArray) (q : am_Q) : Bool := decide (decode cc q.1 = .ok (q.2.1, am_ln q.2.1)) && am_lk no q
def am_exs (nL : Nat) : List am_Q → am_Y → Option am_Y
  | [], x => some x
  | q :: r, x => bif Nat.beq q.1 x.1 then (match am_op nL q.1 q.2.1 q.2.2.1 q.2.2.2.1 q.2.2.2.2.2 x.2.1 x.2.2.1 x.2.2.2 with | some y => am_exs nL r y | none => none) else none
section
variable {X : am_X} {own : String} {cc : ByteArray} {nL pc : Nat} {lv : List (Nat × Value)} {st : List Value} {σ : am_S}
theorem am_iadd {x y : Int32} (hd : decode cc pc = .ok (.iadd, 1)) (hF : am_F X own cc nL) (k : am_W X nL (pc + 1, lv, .int (x + y) :: st, σ)) : am_W X nL (pc, lv, .int y :: .int x :: st, σ) := by
  obtain ⟨p, l, e, R, s, m, args, below, meth, c, Q, g, n0⟩ := X
  intro H locs ls hn hI hS hl
  exact lv_iadd hF.1 hF.2.1 hd (k H locs ls hn hI hS hl)
theorem am_isub {x y : Int32} (hd : decode cc pc = .ok (.isub, 1)) (hF : am_F X own cc nL) (k : am_W X nL (pc + 1, lv, .int (x - y) :: st, σ)) : am_W X nL (pc, lv, .int y :: .int x :: st, σ) := by
  obtain ⟨p, l, e, R, s, m, args, below, meth, c, Q, g, n0⟩ := X
  intro H locs ls hn hI hS hl
  exact lv_isub hF.1 hF.2.1 hd (k H locs ls hn hI hS hl)
theorem am_imul {x y : Int32} (hd : decode cc pc = .ok (.imul, 1)) (hF : am_F X own cc nL) (k : am_W X nL (pc + 1, lv, .int (x * y) :: st, σ)) : am_W X nL (pc, lv, .int y :: .int x :: st, σ) := by
  obtain ⟨p, l, e, R, s, m, args, below, meth, c, Q, g, n0⟩ := X
  intro H locs ls hn hI hS hl
  exact lv_imul hF.1 hF.2.1 hd (k H locs ls hn hI hS hl)
theorem am_iand {x y : Int32} (hd : decode cc pc = .ok (.iand, 1)) (hF : am_F X own cc nL) (k : am_W X nL (pc + 1, lv, .int (x &&& y) :: st, σ)) : am_W X nL (pc, lv, .int y :: .int x :: st, σ) := by
  obtain ⟨p, l, e, R, s, m, args, below, meth, c, Q, g, n0⟩ := X
  intro H locs ls hn hI hS hl
  exact lv_iand hF.1 hF.2.1 hd (k H locs ls hn hI hS hl)
theorem am_ior {x y : Int32} (hd : decode cc pc = .ok (.ior, 1)) (hF : am_F X own cc nL) (k : am_W X nL (pc + 1, lv, .int (x ||| y) :: st, σ)) : am_W X nL (pc, lv, .int y :: .int x :: st, σ) := by
  obtain ⟨p, l, e, R, s, m, args, below, meth, c, Q, g, n0⟩ := X
  intro H locs ls hn hI hS hl
  exact lv_ior hF.1 hF.2.1 hd (k H locs ls hn hI hS hl)
theorem am_ixor {x y : Int32} (hd : decode cc pc = .ok (.ixor, 1)) (hF : am_F X own cc nL) (k : am_W X nL (pc + 1, lv, .int (x ^^^ y) :: st, σ)) : am_W X nL (pc, lv, .int y :: .int x :: st, σ) := by
  obtain ⟨p, l, e, R, s, m, args, below, meth, c, Q, g, n0⟩ := X
  intro H locs ls hn hI hS hl
  exact lv_ixor hF.1 hF.2.1 hd (k H locs ls hn hI hS hl)
theorem am_ishl {x y : Int32} (hd : decode cc pc = .ok (.ishl, 1)) (hF : am_F X own cc nL) (k : am_W X nL (pc + 1, lv, .int (x <<< (y &&& 31)) :: st, σ)) : am_W X nL (pc, lv, .int y :: .int x :: st, σ) := by
  obtain ⟨p, l, e, R, s, m, args, below, meth, c, Q, g, n0⟩ := X
  intro H locs ls hn hI hS hl
  exact lv_ishl hF.1 hF.2.1 hd (k H locs ls hn hI hS hl)
theorem am_ishr {x y : Int32} (hd : decode cc pc = .ok (.ishr, 1)) (hF : am_F X own cc nL) (k : am_W X nL (pc + 1, lv, .int (x >>> (y &&& 31)) :: st, σ)) : am_W X nL (pc, lv, .int y :: .int x :: st, σ) := by
  obtain ⟨p, l, e, R, s, m, args, below, meth, c, Q, g, n0⟩ := X
  intro H locs ls hn hI hS hl
  exact lv_ishr hF.1 hF.2.1 hd (k H locs ls hn hI hS hl)
theorem am_iushr {x y : Int32} (hd : decode cc pc = .ok (.iushr, 1)) (hF : am_F X own cc nL) (k : am_W X nL (pc + 1, lv, .int ((x.toUInt32 >>> (y.toUInt32 &&& Int32.toUInt32 31)).toInt32) :: st, σ)) : am_W X nL (pc, lv, .int y :: .int x :: st, σ) := by
  obtain ⟨p, l, e, R, s, m, args, below, meth, c, Q, g, n0⟩ := X
  intro H locs ls hn hI hS hl
  exact lv_iushr hF.1 hF.2.1 hd rfl (k H locs ls hn hI hS hl)
theorem am_ladd {x y : Int64} (hd : decode cc pc = .ok (.ladd, 1)) (hF : am_F X own cc nL) (k : am_W X nL (pc + 1, lv, .long (x + y) :: st, σ)) : am_W X nL (pc, lv, .long y :: .long x :: st, σ) := by
  obtain ⟨p, l, e, R, s, m, args, below, meth, c, Q, g, n0⟩ := X
  intro H locs ls hn hI hS hl
  exact lv_ladd hF.1 hF.2.1 hd (k H locs ls hn hI hS hl)
theorem am_lsub {x y : Int64} (hd : decode cc pc = .ok (.lsub, 1)) (hF : am_F X own cc nL) (k : am_W X nL (pc + 1, lv, .long (x - y) :: st, σ)) : am_W X nL (pc, lv, .long y :: .long x :: st, σ) := by
  obtain ⟨p, l, e, R, s, m, args, below, meth, c, Q, g, n0⟩ := X
  intro H locs ls hn hI hS hl
  exact lv_lsub hF.1 hF.2.1 hd (k H locs ls hn hI hS hl)
theorem am_lmul {x y : Int64} (hd : decode cc pc = .ok (.lmul, 1)) (hF : am_F X own cc nL) (k : am_W X nL (pc + 1, lv, .long (x * y) :: st, σ)) : am_W X nL (pc, lv, .long y :: .long x :: st, σ) := by
  obtain ⟨p, l, e, R, s, m, args, below, meth, c, Q, g, n0⟩ := X
  intro H locs ls hn hI hS hl
  exact lv_lmul hF.1 hF.2.1 hd (k H locs ls hn hI hS hl)
theorem am_land {x y : Int64} (hd : decode cc pc = .ok (.land, 1)) (hF : am_F X own cc nL) (k : am_W X nL (pc + 1, lv, .long (x &&& y) :: st, σ)) : am_W X nL (pc, lv, .long y :: .long x :: st, σ) := by
  obtain ⟨p, l, e, R, s, m, args, below, meth, c, Q, g, n0⟩ := X
  intro H locs ls hn hI hS hl
  exact lv_land hF.1 hF.2.1 hd (k H locs ls hn hI hS hl)
theorem am_lor {x y : Int64} (hd : decode cc pc = .ok (.lor, 1)) (hF : am_F X own cc nL) (k : am_W X nL (pc + 1, lv, .long (x ||| y) :: st, σ)) : am_W X nL (pc, lv, .long y :: .long x :: st, σ) := by
  obtain ⟨p, l, e, R, s, m, args, below, meth, c, Q, g, n0⟩ := X
  intro H locs ls hn hI hS hl
  exact lv_lor hF.1 hF.2.1 hd (k H locs ls hn hI hS hl)
theorem am_lxor {x y : Int64} (hd : decode cc pc = .ok (.lxor, 1)) (hF : am_F X own cc nL) (k : am_W X nL (pc + 1, lv, .long (x ^^^ y) :: st, σ)) : am_W X nL (pc, lv, .long y :: .long x :: st, σ) := by
  obtain ⟨p, l, e, R, s, m, args, below, meth, c, Q, g, n0⟩ := X
  intro H locs ls hn hI hS hl
  exact lv_lxor hF.1 hF.2.1 hd (k H locs ls hn hI hS hl)
theorem am_lshl {x : Int64} {y : Int32} (hd : decode cc pc = .ok (.lshl, 1)) (hF : am_F X own cc nL) (k : am_W X nL (pc + 1, lv, .long (x <<< (y.toInt64 &&& 63)) :: st, σ)) : am_W X nL (pc, lv, .int y :: .long x :: st, σ) := by
  obtain ⟨p, l, e, R, s, m, args, below, meth, c, Q, g, n0⟩ := X
  intro H locs ls hn hI hS hl
  exact lv_lshl hF.1 hF.2.1 hd rfl (k H locs ls hn hI hS hl)
theorem am_lshr {x : Int64} {y : Int32} (hd : decode cc pc = .ok (.lshr, 1)) (hF : am_F X own cc nL) (k : am_W X nL (pc + 1, lv, .long (x >>> (y.toInt64 &&& 63)) :: st, σ)) : am_W X nL (pc, lv, .int y :: .long x :: st, σ) := by
  obtain ⟨p, l, e, R, s, m, args, below, meth, c, Q, g, n0⟩ := X
  intro H locs ls hn hI hS hl
  exact lv_lshr hF.1 hF.2.1 hd rfl (k H locs ls hn hI hS hl)
theorem am_lushr {x : Int64} {y : Int32} (hd : decode cc pc = .ok (.lushr, 1)) (hF : am_F X own cc nL) (k : am_W X nL (pc + 1, lv, .long ((x.toUInt64 >>> (y.toInt64.toUInt64 &&& Int64.toUInt64 63)).toInt64) :: st, σ)) : am_W X nL (pc, lv, .int y :: .long x :: st, σ) := by
  obtain ⟨p, l, e, R, s, m, args, below, meth, c, Q, g, n0⟩ := X
  intro H locs ls hn hI hS hl
  exact lv_lushr hF.1 hF.2.1 hd rfl (k H locs ls hn hI hS hl)
theorem am_lcmp {x y : Int64} (hd : decode cc pc = .ok (.lcmp, 1)) (hF : am_F X own cc nL) (k : am_W X nL (pc + 1, lv, .int (lg_cmp x y) :: st, σ)) : am_W X nL (pc, lv, .long y :: .long x :: st, σ) := by
  obtain ⟨p, l, e, R, s, m, args, below, meth, c, Q, g, n0⟩ := X
  intro H locs ls hn hI hS hl
  exact W.lcmp hF.1 hF.2.1 hd (k H locs ls hn hI hS hl)
theorem am_ineg {x : Int32} (hd : decode cc pc = .ok (.ineg, 1)) (hF : am_F X own cc nL) (k : am_W X nL (pc + 1, lv, .int (-x) :: st, σ)) : am_W X nL (pc, lv, .int x :: st, σ) := by
  obtain ⟨p, l, e, R, s, m, args, below, meth, c, Q, g, n0⟩ := X
  intro H locs ls hn hI hS hl
  exact lv_ineg hF.1 hF.2.1 hd (k H locs ls hn hI hS hl)
theorem am_i2l {x : Int32} (hd : decode cc pc = .ok (.i2l, 1)) (hF : am_F X own cc nL) (k : am_W X nL (pc + 1, lv, .long x.toInt64 :: st, σ)) : am_W X nL (pc, lv, .int x :: st, σ) := by
  obtain ⟨p, l, e, R, s, m, args, below, meth, c, Q, g, n0⟩ := X
  intro H locs ls hn hI hS hl
  exact lv_i2l hF.1 hF.2.1 hd rfl (k H locs ls hn hI hS hl)
theorem am_l2i {x : Int64} (hd : decode cc pc = .ok (.l2i, 1)) (hF : am_F X own cc nL) (k : am_W X nL (pc + 1, lv, .int x.toInt32 :: st, σ)) : am_W X nL (pc, lv, .long x :: st, σ) := by
  obtain ⟨p, l, e, R, s, m, args, below, meth, c, Q, g, n0⟩ := X
  intro H locs ls hn hI hS hl
  exact lv_l2i hF.1 hF.2.1 hd rfl (k H locs ls hn hI hS hl)
theorem am_dup {v : Value} (hd : decode cc pc = .ok (.dup, 1)) (hv : v.category = 1) (hF : am_F X own cc nL) (k : am_W X nL (pc + 1, lv, v :: v :: st, σ)) : am_W X nL (pc, lv, v :: st, σ) := by
  obtain ⟨p, l, e, R, s, m, args, below, meth, c, Q, g, n0⟩ := X
  intro H locs ls hn hI hS hl
  exact lv_dup hF.1 hF.2.1 hd (by rw [am_rv_cat]; exact hv) (k H locs ls hn hI hS hl)
theorem am_dup2a {v w : Value} (hd : decode cc pc = .ok (.dup2, 1)) (hv : v.category = 1) (hw : w.category = 1) (hF : am_F X own cc nL) (k : am_W X nL (pc + 1, lv, v :: w :: v :: w :: st, σ)) : am_W X nL (pc, lv, v :: w :: st, σ) := by
  obtain ⟨p, l, e, R, s, m, args, below, meth, c, Q, g, n0⟩ := X
  intro H locs ls hn hI hS hl
  exact lv_dup2_11 hF.1 hF.2.1 hd (by rw [am_rv_cat]; exact hv) (by rw [am_rv_cat]; exact hw) (k H locs ls hn hI hS hl)
theorem am_dup2b {v : Value} (hd : decode cc pc = .ok (.dup2, 1)) (hv : v.category = 2) (hF : am_F X own cc nL) (k : am_W X nL (pc + 1, lv, v :: v :: st, σ)) : am_W X nL (pc, lv, v :: st, σ) := by
  obtain ⟨p, l, e, R, s, m, args, below, meth, c, Q, g, n0⟩ := X
  intro H locs ls hn hI hS hl
  exact lv_dup2_2 hF.1 hF.2.1 hd (by rw [am_rv_cat]; exact hv) (k H locs ls hn hI hS hl)
theorem am_iconst {n : Int} {x : Int32} (hd : decode cc pc = .ok (.iconst n, 1)) (hv : Int32.ofInt n = x) (hF : am_F X own cc nL) (k : am_W X nL (pc + 1, lv, .int x :: st, σ)) : am_W X nL (pc, lv, st, σ) := by
  obtain ⟨p, l, e, R, s, m, args, below, meth, c, Q, g, n0⟩ := X
  intro H locs ls hn hI hS hl
  exact lv_iconst hF.1 hF.2.1 hd hv (k H locs ls hn hI hS hl)
theorem am_bipush {n : Int} {x : Int32} (hd : decode cc pc = .ok (.bipush n, 2)) (hv : (Int8.ofInt n).toInt32 = x) (hF : am_F X own cc nL) (k : am_W X nL (pc + 2, lv, .int x :: st, σ)) : am_W X nL (pc, lv, st, σ) := by
  obtain ⟨p, l, e, R, s, m, args, below, meth, c, Q, g, n0⟩ := X
  intro H locs ls hn hI hS hl
  exact lv_bipush hF.1 hF.2.1 hd hv (k H locs ls hn hI hS hl)
theorem am_sipush {n : Int} {x : Int32} (hd : decode cc pc = .ok (.sipush n, 3)) (hv : (Int16.ofInt n).toInt32 = x) (hF : am_F X own cc nL) (k : am_W X nL (pc + 3, lv, .int x :: st, σ)) : am_W X nL (pc, lv, st, σ) := by
  obtain ⟨p, l, e, R, s, m, args, below, meth, c, Q, g, n0⟩ := X
  intro H locs ls hn hI hS hl
  exact lv_sipush hF.1 hF.2.1 hd hv (k H locs ls hn hI hS hl)
theorem am_lconst {n : Fin 2} {x : Int64} (hd : decode cc pc = .ok (.lconst n, 1)) (hv : Int64.ofNat (n : Nat) = x) (hF : am_F X own cc nL) (k : am_W X nL (pc + 1, lv, .long x :: st, σ)) : am_W X nL (pc, lv, st, σ) := by
  obtain ⟨p, l, e, R, s, m, args, below, meth, c, Q, g, n0⟩ := X
  intro H locs ls hn hI hS hl
  exact lv_lconst hF.1 hF.2.1 hd hv (k H locs ls hn hI hS hl)
theorem am_ldc {i : Nat} {x : Int32} (hd : decode cc pc = .ok (.ldc i, 2)) (hv : Cond.constant own i x ∈ am_tb) (hF : am_F X own cc nL) (k : am_W X nL (pc + 2, lv, .int x :: st, σ)) : am_W X nL (pc, lv, st, σ) := by
  obtain ⟨p, l, e, R, s, m, args, below, meth, c, Q, g, n0⟩ := X
  intro H locs ls hn hI hS hl
  exact lv_ldc hF.1 hF.2.1 hF.2.2.2.1 (hF.2.2.2.2.1 _ hv) hd (k H locs ls hn hI hS hl)
theorem am_ldcw {i : Nat} {x : Int32} (hd : decode cc pc = .ok (.ldc_w i, 3)) (hv : Cond.constant own i x ∈ am_tb) (hF : am_F X own cc nL) (k : am_W X nL (pc + 3, lv, .int x :: st, σ)) : am_W X nL (pc, lv, st, σ) := by
  obtain ⟨p, l, e, R, s, m, args, below, meth, c, Q, g, n0⟩ := X
  intro H locs ls hn hI hS hl
  exact lv_ldcw hF.1 hF.2.1 hF.2.2.2.1 (hF.2.2.2.2.1 _ hv) hd (k H locs ls hn hI hS hl)
theorem am_ldc2 {i : Nat} {x : Int64} (hd : decode cc pc = .ok (.ldc2_w i, 3)) (hv : Cond.constantLong own i x ∈ am_tb) (hF : am_F X own cc nL) (k : am_W X nL (pc + 3, lv, .long x :: st, σ)) : am_W X nL (pc, lv, st, σ) := by
  obtain ⟨p, l, e, R, s, m, args, below, meth, c, Q, g, n0⟩ := X
  intro H locs ls hn hI hS hl
  exact lv_ldc2 hF.1 hF.2.1 hF.2.2.2.1 (hF.2.2.2.2.1 _ hv) hd (k H locs ls hn hI hS hl)
theorem am_ldcS {i a : Nat} (hd : decode cc pc = .ok (.ldc i, 2)) (ho : own = "ShareHouse$Tape") (hv : am_sx[a]? = some i) (hF : am_F X own cc nL) (k : am_W X nL (pc + 2, lv, .ref (1000 + a) :: st, σ)) : am_W X nL (pc, lv, st, σ) := by
  obtain ⟨p, l, e, R, s, m, args, below, meth, c, Q, g, n0⟩ := X
  intro H locs ls hn hI hS hl
  subst ho
  have ha : a < 19 := (List.getElem?_eq_some_iff.mp hv).1
  have h2 := hF.2.2.2.2.2.1.2.2.1 a ha
  have h3 : am_sx.getD a 0 = i := by rw [List.getD_eq_getElem?_getD, hv]; rfl
  rw [h3] at h2
  refine va_ldcS hF.1 hF.2.1 hF.2.2.2.1 h2 hd ?_
  have hk := k H locs ls hn hI hS hl
  have he : am_ad g (1000 + a) = g.2.2.2 (1000 + a) := if_neg (by omega)
  simpa only [List.map_cons, am_rv, he] using hk
theorem am_iload_n {i : Fin 4} {x : Int32} (hd : decode cc pc = .ok (.iload_n i, 1)) (hv : am_lg lv i = some (.int x)) (hF : am_F X own cc nL) (k : am_W X nL (pc + 1, lv, .int x :: st, σ)) : am_W X nL (pc, lv, st, σ) := by
  obtain ⟨p, l, e, R, s, m, args, below, meth, c, Q, g, n0⟩ := X
  intro H locs ls hn hI hS hl
  exact lv_iload_n hF.1 hF.2.1 hd rfl (am_lg_at hl hv) (k H locs ls hn hI hS hl)
theorem am_iload {i : Nat} {x : Int32} (hd : decode cc pc = .ok (.iload i, 2)) (hv : am_lg lv i = some (.int x)) (hF : am_F X own cc nL) (k : am_W X nL (pc + 2, lv, .int x :: st, σ)) : am_W X nL (pc, lv, st, σ) := by
  obtain ⟨p, l, e, R, s, m, args, below, meth, c, Q, g, n0⟩ := X
  intro H locs ls hn hI hS hl
  exact lv_iload hF.1 hF.2.1 hd (am_lg_at hl hv) (k H locs ls hn hI hS hl)
theorem am_lload_n {i : Fin 4} {x : Int64} (hd : decode cc pc = .ok (.lload_n i, 1)) (hv : am_lg lv i = some (.long x)) (hF : am_F X own cc nL) (k : am_W X nL (pc + 1, lv, .long x :: st, σ)) : am_W X nL (pc, lv, st, σ) := by
  obtain ⟨p, l, e, R, s, m, args, below, meth, c, Q, g, n0⟩ := X
  intro H locs ls hn hI hS hl
  exact lv_lload_n hF.1 hF.2.1 hd rfl (am_lg_at hl hv) (k H locs ls hn hI hS hl)
theorem am_lload {i : Nat} {x : Int64} (hd : decode cc pc = .ok (.lload i, 2)) (hv : am_lg lv i = some (.long x)) (hF : am_F X own cc nL) (k : am_W X nL (pc + 2, lv, .long x :: st, σ)) : am_W X nL (pc, lv, st, σ) := by
  obtain ⟨p, l, e, R, s, m, args, below, meth, c, Q, g, n0⟩ := X
  intro H locs ls hn hI hS hl
  exact lv_lload hF.1 hF.2.1 hd (am_lg_at hl hv) (k H locs ls hn hI hS hl)
theorem am_aload_n {i : Fin 4} {x : Nat} (hd : decode cc pc = .ok (.aload_n i, 1)) (hv : am_lg lv i = some (.ref x)) (hF : am_F X own cc nL) (k : am_W X nL (pc + 1, lv, .ref x :: st, σ)) : am_W X nL (pc, lv, st, σ) := by
  obtain ⟨p, l, e, R, s, m, args, below, meth, c, Q, g, n0⟩ := X
  intro H locs ls hn hI hS hl
  exact lv_aload_n hF.1 hF.2.1 hd rfl (am_lg_at hl hv) (k H locs ls hn hI hS hl)
theorem am_aload {i : Nat} {x : Nat} (hd : decode cc pc = .ok (.aload i, 2)) (hv : am_lg lv i = some (.ref x)) (hF : am_F X own cc nL) (k : am_W X nL (pc + 2, lv, .ref x :: st, σ)) : am_W X nL (pc, lv, st, σ) := by
  obtain ⟨p, l, e, R, s, m, args, below, meth, c, Q, g, n0⟩ := X
  intro H locs ls hn hI hS hl
  exact lv_aload hF.1 hF.2.1 hd (am_lg_at hl hv) (k H locs ls hn hI hS hl)
theorem am_istore_n {i : Fin 4} {x : Int32} (hd : decode cc pc = .ok (.istore_n i, 1)) (hv : (i : Nat) < nL) (hF : am_F X own cc nL) (k : am_W X nL (pc + 1, am_l1 lv i (.int x), st, σ)) : am_W X nL (pc, lv, .int x :: st, σ) := by
  obtain ⟨p, l, e, R, s, m, args, below, meth, c, Q, g, n0⟩ := X
  intro H locs ls hn hI hS hl
  exact lv_istore_n hF.1 hF.2.1 hd rfl hl hv (am_ml_1 (v := .int x)) (fun ls2 hl2 => k H locs ls2 hn hI hS hl2)
theorem am_istore {i : Nat} {x : Int32} (hd : decode cc pc = .ok (.istore i, 2)) (hv : i < nL) (hF : am_F X own cc nL) (k : am_W X nL (pc + 2, am_l1 lv i (.int x), st, σ)) : am_W X nL (pc, lv, .int x :: st, σ) := by
  obtain ⟨p, l, e, R, s, m, args, below, meth, c, Q, g, n0⟩ := X
  intro H locs ls hn hI hS hl
  exact lv_istore hF.1 hF.2.1 hd hl hv (am_ml_1 (v := .int x)) (fun ls2 hl2 => k H locs ls2 hn hI hS hl2)
theorem am_lstore_n {i : Fin 4} {x : Int64} (hd : decode cc pc = .ok (.lstore_n i, 1)) (hv : (i : Nat) + 1 < nL) (hF : am_F X own cc nL) (k : am_W X nL (pc + 1, am_l2 lv i (.long x), st, σ)) : am_W X nL (pc, lv, .long x :: st, σ) := by
  obtain ⟨p, l, e, R, s, m, args, below, meth, c, Q, g, n0⟩ := X
  intro H locs ls hn hI hS hl
  exact lv_lstore_n hF.1 hF.2.1 hd rfl hl hv (am_ml_2 (v := .long x)) (fun ls2 hl2 => k H locs ls2 hn hI hS hl2)
theorem am_lstore {i : Nat} {x : Int64} (hd : decode cc pc = .ok (.lstore i, 2)) (hv : i + 1 < nL) (hF : am_F X own cc nL) (k : am_W X nL (pc + 2, am_l2 lv i (.long x), st, σ)) : am_W X nL (pc, lv, .long x :: st, σ) := by
  obtain ⟨p, l, e, R, s, m, args, below, meth, c, Q, g, n0⟩ := X
  intro H locs ls hn hI hS hl
  exact lv_lstore hF.1 hF.2.1 hd hl hv (am_ml_2 (v := .long x)) (fun ls2 hl2 => k H locs ls2 hn hI hS hl2)
theorem am_astore_n {i : Fin 4} {x : Nat} (hd : decode cc pc = .ok (.astore_n i, 1)) (hv : (i : Nat) < nL) (hF : am_F X own cc nL) (k : am_W X nL (pc + 1, am_l1 lv i (.ref x), st, σ)) : am_W X nL (pc, lv, .ref x :: st, σ) := by
  obtain ⟨p, l, e, R, s, m, args, below, meth, c, Q, g, n0⟩ := X
  intro H locs ls hn hI hS hl
  exact lv_astore_n hF.1 hF.2.1 hd rfl hl hv (am_ml_1 (v := .ref x)) (fun ls2 hl2 => k H locs ls2 hn hI hS hl2)
theorem am_astore {i : Nat} {x : Nat} (hd : decode cc pc = .ok (.astore i, 2)) (hv : i < nL) (hF : am_F X own cc nL) (k : am_W X nL (pc + 2, am_l1 lv i (.ref x), st, σ)) : am_W X nL (pc, lv, .ref x :: st, σ) := by
  obtain ⟨p, l, e, R, s, m, args, below, meth, c, Q, g, n0⟩ := X
  intro H locs ls hn hI hS hl
  exact lv_astore hF.1 hF.2.1 hd hl hv (am_ml_1 (v := .ref x)) (fun ls2 hl2 => k H locs ls2 hn hI hS hl2)
theorem am_iinc {i : Nat} {n : Int} {x d : Int32} (hd : decode cc pc = .ok (.iinc i n, 3)) (hx : am_lg lv i = some (.int x)) (hv : Int32.ofInt n = d) (hi : i < nL) (hF : am_F X own cc nL) (k : am_W X nL (pc + 3, am_l1 lv i (.int (x + d)), st, σ)) : am_W X nL (pc, lv, st, σ) := by
  obtain ⟨p, l, e, R, s, m, args, below, meth, c, Q, g, n0⟩ := X
  intro H locs ls hn hI hS hl
  subst hv
  obtain ⟨j, hj⟩ := am_lg_get (g := g) hx
  exact lv_iinc hF.1 hF.2.1 hd hl hj rfl hi (am_ml_1 (v := .int (x + Int32.ofInt n))) (fun ls2 hl2 => k H locs ls2 hn hI hS hl2)
theorem am_goto {o : Int} {t : Nat} (hd : decode cc pc = .ok (.goto o, 3)) (ht : (pc : Int) + o = (t : Int)) (hF : am_F X own cc nL) (k : am_W X nL (t, lv, st, σ)) : am_W X nL (pc, lv, st, σ) := by
  obtain ⟨p, l, e, R, s, m, args, below, meth, c, Q, g, n0⟩ := X
  intro H locs ls hn hI hS hl
  exact lv_goto hF.1 hF.2.1 hd ht (k H locs ls hn hI hS hl)
end

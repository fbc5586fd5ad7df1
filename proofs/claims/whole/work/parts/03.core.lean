/-! A small machine of its own over the kit's rows: a memory of numbered cells (how many; of what kind and length; references; ints; longs), a method with its table of instructions, and the judgement zC: from here the method comes to its end with this answer and this memory. -/
abbrev zk_I : Type := Nat → Nat → Int32
abbrev zk_J : Type := Nat → Nat → Int64
abbrev zk_Z : Type := Nat × (Nat → Nat × Nat) × (Nat → Nat → Option Nat)
abbrev zk_M : Type := zk_Z × zk_I × zk_J
abbrev zk_E : Type := va_G × (Nat → ClassId) × Nat × (Nat → Nat)
abbrev zk_X : Type := Nat × (Nat → Int32)
def zk_ad (E : zk_E) (c : Nat) : Nat := if c < 1000 then E.2.2.1 + c else E.2.2.2 c
def zk_tr (E : zk_E) : Value → Value
  | .ref c => .ref (zk_ad E c)
  | v => v
def zk_A (E : zk_E) : Nat → Prop := fun q => E.2.2.1 ≤ q
/-- a cell of the memory, as the kit tells it; kinds: 0 .. 8 an object of that class; 20 ints, 21 longs, 22 booleans, 23 chars, 24 references to Days -/
def zk_fv (E : zk_E) (M : zk_M) (c j : Nat) (r : Bool) : Value := if r then va_rf ((M.1.2.2 c j).map (zk_ad E)) else .int (M.2.1 c j)
def zk_fs (E : zk_E) (M : zk_M) (k c : Nat) : List Value := (zk_ft k).mapIdx (zk_fv E M c)
def zk_ce (E : zk_E) (M : zk_M) (c : Nat) : va_E :=
  if (M.1.2.1 c).1 = 20 then .inl (E.2.1 0, (M.1.2.1 c).2, .inl (M.2.1 c))
  else if (M.1.2.1 c).1 = 21 then .inl (E.2.1 1, (M.1.2.1 c).2, .inr (.inl (M.2.2 c)))
  else if (M.1.2.1 c).1 = 22 then .inl (E.2.1 2, (M.1.2.1 c).2, .inl (M.2.1 c))
  else if (M.1.2.1 c).1 = 23 then .inl (E.2.1 3, (M.1.2.1 c).2, .inl (M.2.1 c))
  else if (M.1.2.1 c).1 = 24 then .inl (E.2.1 4, (M.1.2.1 c).2, .inr (.inr (.inr (.inr (fun j => (M.1.2.2 c j).map (zk_ad E))))))
  else .inr ((M.1.2.1 c).1, zk_fs E M (M.1.2.1 c).1 c)
def zk_ws (E : zk_E) (M : zk_M) : va_W := (List.range M.1.1).map (fun c => (zk_ad E c, zk_ce E M c))
def zk_tys (E : zk_E) : List (ClassId × FieldType) := [(E.2.1 0, .int), (E.2.1 1, .long), (E.2.1 2, .boolean), (E.2.1 3, .char), (E.2.1 4, .object "NamedNext$Days")]
/-- the heap holds the memory -/
def zk_R (E : zk_E) (M : zk_M) (U : State) (H : Heap) : Prop :=
  va_P E.1 zk_cl (zk_ws E M) H ∧ va_K E.1 zk_cl (zk_tys E) U ∧ M.1.1 ≤ 1000
/-- tables of the class's own that never change -/
def zk_wh : Nat → Int32 := fun j => ([3, 7, 9, 23] : List Int32).getD j 0
def zk_lots : Nat → Int64 := fun j => ([1, 1, 2, 12, 144, 8640, 518400, 217728000] : List Int64).getD j 0
/-- the words: "plain" 0, "flatterer" 1, "blind" 2, "sulker" 3, "feud" 4, "move" 5, "book" 6, "peace" 7, "library" 8, ";" 9 -/
def zk_sb : List (List Int32) := [[112, 108, 97, 105, 110], [102, 108, 97, 116, 116, 101, 114, 101, 114], [98, 108, 105, 110, 100], [115, 117, 108, 107, 101, 114], [102, 101, 117, 100], [109, 111, 118, 101], [98, 111, 111, 107], [112, 101, 97, 99, 101], [108, 105, 98, 114, 97, 114, 121], [59]]
def zk_sl : List Nat := [5, 9, 5, 6, 4, 4, 4, 5, 7, 1]
def zk_sk : List (Nat × String) := [(87, "plain"), (89, "flatterer"), (91, "blind"), (93, "sulker"), (62, "feud"), (67, "move"), (72, "book"), (77, "peace"), (82, "library"), (45, ";")]
/-- the links to what is private beside -/
def zk_nest : List (String × Nat × MethodName × String) := [("NamedNext", 9, ⟨"NamedNext$Text", "<init>", "()V"⟩, "NamedNext"), ("NamedNext", 18, ⟨"NamedNext$Told", "<init>", "()V"⟩, "NamedNext"), ("NamedNext$Clauses", 11, ⟨"NamedNext$Told", "<init>", "()V"⟩, "NamedNext"), ("NamedNext", 34, ⟨"NamedNext$Days", "<init>", "()V"⟩, "NamedNext"), ("NamedNext$Past", 17, ⟨"NamedNext$Days", "<init>", "()V"⟩, "NamedNext"), ("NamedNext", 68, ⟨"NamedNext$Slips", "<init>", "()V"⟩, "NamedNext"), ("NamedNext$Told", 62, ⟨"NamedNext", "hasBit", "(II)Z"⟩, "NamedNext"), ("NamedNext$Rows", 70, ⟨"NamedNext", "hasBit", "(II)Z"⟩, "NamedNext"), ("NamedNext$Rows", 80, ⟨"NamedNext", "leastOf", "(I)I"⟩, "NamedNext"), ("NamedNext$Slips", 39, ⟨"NamedNext", "hasBit", "(II)Z"⟩, "NamedNext"), ("NamedNext$Slips", 43, ⟨"NamedNext", "leastOf", "(I)I"⟩, "NamedNext")]
/-- what lies outside: the script (1000), two tables (1001, 1002), a formatter (1003), words (1010 ..), their bytes (1030 ..) -/
def zk_Xt (X : zk_X) (E : zk_E) (U : State) (H : Heap) : Prop :=
  (va_X (E.2.2.2 1000) X.1 X.2 U H ∧ E.2.2.2 1000 < E.2.2.1) ∧
  (va_Z "NamedNext" "WHAT_HE_IS" "[I" (.ref (E.2.2.2 1001)) (zk_A E) U H ∧ va_T .int (E.2.2.2 1001) 4 (fun j => .int (zk_wh j)) (zk_A E) U H) ∧
  (va_Z "NamedNext$Rows" "LOTS" "[J" (.ref (E.2.2.2 1002)) (zk_A E) U H ∧ va_T .long (E.2.2.2 1002) 8 (fun j => .long (zk_lots j)) (zk_A E) U H) ∧
  (va_Z "jdk/internal/util/Preconditions" "SIOOBE_FORMATTER" "Ljava/util/function/BiFunction;" .null (zk_A E) U H ∨ va_Z "jdk/internal/util/Preconditions" "SIOOBE_FORMATTER" "Ljava/util/function/BiFunction;" (.ref (E.2.2.2 1003)) (zk_A E) U H) ∧
  va_Z "java/lang/String" "COMPACT_STRINGS" "Z" (.int 1) (zk_A E) U H ∧
  vk_S 10 zk_sl zk_sb (fun i => E.2.2.2 (1010 + i)) (fun i => E.2.2.2 (1030 + i)) (zk_A E) U H ∧
  (∀ i : Nat, i < 10 → vk_R "NamedNext$Clauses" (zk_sk.getD i (0, "")).1 (zk_sk.getD i (0, "")).2 (E.2.2.2 (1010 + i)) U) ∧
  E.2.2.1 ≤ H.size ∧
  (∀ q ∈ zk_nest, va_Nw (.methodLinkNest q.1 q.2.1 q.2.2.1 q.2.2.2) U) ∧ va_AO "NamedNext$Days" U
/-- a method: name, bytes, locals, what it answers, its table (place, instruction, next place, target) -/
abbrev zk_Mt : Type := MethodName × ByteArray × Nat × Option FieldType × List (Nat × Instr × Nat × Nat)
def zk_ln : Instr → Nat
  | .aload _ | .astore _ | .iload _ | .istore _ | .lload _ | .lstore _ | .bipush _ | .ldc _ | .newarray _ => 2
  | .anewarray _ | .getfield _ | .putfield _ | .getstatic _ | .goto _ | .if_icmp _ _ | .ifCond _ _ | .iinc _ _ | .invokespecial _ | .invokestatic _ | .invokevirtual _ | .ldc_w _ | .ldc2_w _ | .new _ | .sipush _ => 3
  | _ => 1
def zk_tg : Instr → Option Int
  | .goto o => some o
  | .if_icmp _ o => some o
  | .ifCond _ o => some o
  | _ => none
def zk_sw : Instr → Bool
  | .tableswitch _ _ _ _ => true
  | _ => false
def zk_chk (b : ByteArray) (q : Nat × Instr × Nat × Nat) : Bool :=
  decide (decode b q.1 = .ok (q.2.1, q.2.2.1 - q.1)) && (zk_sw q.2.1 || decide (q.2.2.1 = q.1 + zk_ln q.2.1)) && (match zk_tg q.2.1 with
    | some o => decide ((q.1 : Int) + o = (q.2.2.2 : Int))
    | none => true)
def zk_lk : List (Nat × Instr × Nat × Nat) → Nat → Option (Instr × Nat × Nat)
  | [], _ => none
  | q :: t, pc => bif Nat.beq q.1 pc then some q.2 else zk_lk t pc
abbrev zk_at (mt : zk_Mt) (pc : Nat) : Option (Instr × Nat × Nat) := zk_lk mt.2.2.2.2 pc
def zk_ok (mt : zk_Mt) : Prop := mt.2.2.2.2.all (zk_chk mt.2.1) = true
theorem zk_lk_mem : ∀ (l : List (Nat × Instr × Nat × Nat)) (pc : Nat) (r : Instr × Nat × Nat), zk_lk l pc = some r → (pc, r) ∈ l
  | [], _, _, h => by cases h
  | q :: t, pc, r, h => by
    unfold zk_lk at h
    cases hb : Nat.beq q.1 pc with
    | true =>
      rw [hb] at h
      have e : q.1 = pc := Nat.eq_of_beq_eq_true hb
      have e2 : q.2 = r := Option.some.inj h
      subst e; subst e2
      exact List.mem_cons_self
    | false =>
      rw [hb] at h
      exact List.mem_cons_of_mem _ (zk_lk_mem t pc r h)
theorem zk_row {mt : zk_Mt} (ho : zk_ok mt) {pc npc tg : Nat} {i : Instr} (h : zk_at mt pc = some (i, npc, tg)) : decode mt.2.1 pc = .ok (i, npc - pc) ∧ (zk_sw i = true ∨ npc = pc + zk_ln i) ∧ ∀ o, zk_tg i = some o → (pc : Int) + o = (tg : Int) := by
  have h1 := List.all_eq_true.mp ho _ (zk_lk_mem _ _ _ h)
  simp only [zk_chk, Bool.and_eq_true, Bool.or_eq_true, decide_eq_true_eq] at h1
  refine ⟨h1.1.1, h1.1.2, fun o hq => ?_⟩
  have h2 := h1.2
  rw [hq] at h2
  exact of_decide_eq_true h2
theorem zk_d {mt : zk_Mt} (ho : zk_ok mt) {pc npc tg : Nat} {i : Instr} (h : zk_at mt pc = some (i, npc, tg)) (hs : zk_sw i = false) : npc = pc + zk_ln i ∧ decode mt.2.1 pc = .ok (i, zk_ln i) := by
  obtain ⟨h1, h2, -⟩ := zk_row ho h
  rcases h2 with h2 | h2
  · rw [hs] at h2; cases h2
  · refine ⟨h2, ?_⟩
    rw [h1, h2, Nat.add_sub_cancel_left]
/-- what stands while a method runs -/
def zk_Cx (X : zk_X) (E : zk_E) (mt : zk_Mt) (p : Program) (s : State) (m : MethodId) (args : Array Value) (meth : Method) (c : Code) : Prop :=
  p.tables.exec = Jvm.exec ∧ c.code = mt.2.1 ∧ zk_ok mt ∧ meth.sig.returnType = mt.2.2.2.1 ∧ c.maxLocals = mt.2.2.1 ∧ s.vm.findClass mt.1.cls = some m.cls ∧ (∀ w ∈ zk_tbl, w.before args s = true) ∧ meth.locks = false ∧ (mt.1.name = "<init>" → meth.name = "<init>") ∧ zk_Xt X E s s.heap
/-- the locals -/
def zk_lv (E : zk_E) (n : Nat) (ls : Array Slot) (L : List (Option Value)) : Prop := ls.size = n ∧ lv_wf ls ∧ ∀ (i : Nat) (v : Value), L[i]? = some (some v) → ls[i]? = some (.val (zk_tr E v))
/-- a method's end -/
def zk_ret (mt : zk_Mt) (pc : Nat) (rv : Option Value) : Prop :=
  (rv = none ∧ mt.2.2.2.1 = none ∧ decode mt.2.1 pc = .ok (.return_, 1)) ∨ (∃ (v : Int32) (ty : FieldType), rv = some (.int v) ∧ mt.2.2.2.1 = some ty ∧ narrow ty (.int v) = .int v ∧ decode mt.2.1 pc = .ok (.ireturn, 1)) ∨ (∃ v : Int64, rv = some (.long v) ∧ mt.2.2.2.1 = some .long ∧ decode mt.2.1 pc = .ok (.lreturn, 1))
/-- the judgement -/
def zC (X : zk_X) (d : Nat) (mt : zk_Mt) (pc : Nat) (L : List (Option Value)) (st : List Value) (M : zk_M) (dc ds : Nat) (rv : Option Value) (M' : zk_M) : Prop :=
  ∀ (E : zk_E) (p : Program) (l : Launch) (e : Env) (R : Room) (s : State) (m : MethodId) (args : Array Value) (below : List Frame) (meth : Method) (c : Code) (H : Heap) (locs : List Loc) (cells slots : Nat) (Q : State → Prop) (ls : Array Slot),
    zk_Cx X E mt p s m args meth c → zk_R E M s H → va_S (zk_A E) s.heap H locs → zk_lv E mt.2.2.1 ls L → (d ≤ R.frames ∧ 60 * d ≤ R.locals ∧ cells + dc ≤ R.cells ∧ slots + ds ≤ R.slots ∧ s.heap.size + cells = E.2.2.1 + M.1.1) →
    (∀ (pc' : Nat) (ls' : Array Slot) (H' : Heap) (locs' : List Loc), zk_ret mt pc' rv → zk_R E M' s H' → va_S (zk_A E) s.heap H' locs' → W p l e R s m args below meth c H' locs' (cells + dc) (slots + ds) Q (F0 m pc' ls' (rv.toList.map (zk_tr E)))) →
    W p l e R s m args below meth c H locs cells slots Q (F0 m pc ls (st.map (zk_tr E)))
/-! the locals written -/
def zk_clr (L : List (Option Value)) (i : Nat) : List (Option Value) := match i with
  | 0 => L
  | j + 1 => match L[j]? with
    | some (some (.long _)) => L.set j none
    | _ => L
def zk_set (L : List (Option Value)) (i : Nat) (v : Value) : List (Option Value) := (zk_clr L i).set i (some v)
def zk_set2 (L : List (Option Value)) (i : Nat) (v : Value) : List (Option Value) := ((zk_clr L i).set i (some v)).set (i + 1) none
def zk_pr (E : zk_E) (L : List (Option Value)) : List (Nat × Value) := (List.range L.length).filterMap (fun i => (L[i]?).join.map (fun v => (i, zk_tr E v)))
theorem zk_pr_mem {E : zk_E} {L : List (Option Value)} {i : Nat} {w : Value} : (i, w) ∈ zk_pr E L ↔ ∃ v, L[i]? = some (some v) ∧ w = zk_tr E v := by
  simp only [zk_pr, List.mem_filterMap, List.mem_range]
  constructor
  · rintro ⟨j, hj, h⟩
    cases hL : L[j]? with
    | none => rw [hL] at h; cases h
    | some o =>
      cases o with
      | none => rw [hL] at h; cases h
      | some v =>
        rw [hL] at h
        have h := Option.some.inj h
        have e1 : j = i := congrArg Prod.fst h
        have e2 : zk_tr E v = w := congrArg Prod.snd h
        subst e1
        exact ⟨v, hL, e2.symm⟩
  · rintro ⟨v, h1, rfl⟩
    refine ⟨i, (List.getElem?_eq_some_iff.mp h1).1, ?_⟩
    rw [h1]
    rfl
theorem zk_lv.has {E : zk_E} {n : Nat} {ls : Array Slot} {L : List (Option Value)} (h : zk_lv E n ls L) : lv_has ls n (zk_pr E L) := by
  refine ⟨h.1, h.2.1, fun q hq => ?_⟩
  obtain ⟨i, w⟩ := q
  obtain ⟨v, h1, rfl⟩ := zk_pr_mem.mp hq
  exact h.2.2 i v h1
theorem zk_tr_cat (E : zk_E) (v : Value) : (zk_tr E v).category = v.category := by cases v <;> rfl
theorem zk_clr_get {L : List (Option Value)} {i k : Nat} {v : Value} (h : (zk_clr L i)[k]? = some (some v)) : L[k]? = some (some v) ∧ ¬ (k + 1 = i ∧ v.category = 2 ∧ ∃ x, v = .long x) := by
  cases i with
  | zero => exact ⟨h, fun q => by omega⟩
  | succ j =>
    simp only [zk_clr] at h
    split at h
    next x hx =>
      by_cases hk : k = j
      · subst hk
        rw [List.getElem?_set_self (List.getElem?_eq_some_iff.mp hx).1] at h
        cases h
      · rw [List.getElem?_set_ne (Ne.symm hk)] at h
        exact ⟨h, fun q => hk (by omega)⟩
    next hn =>
      refine ⟨h, fun q => ?_⟩
      obtain ⟨q1, -, x, rfl⟩ := q
      have : k = j := by omega
      subst this
      exact hn x h
/-- no value here is a double -/
def zk_nod (L : List (Option Value)) : Bool := L.all (fun o => match o with
  | some (.double _) => false
  | _ => true)
theorem zk_lv.set {E : zk_E} {n : Nat} {ls' : Array Slot} {L : List (Option Value)} {i : Nat} {v : Value} (hd : zk_nod L = true) (h : lv_has ls' n ((i, zk_tr E v) :: (zk_pr E L).filter (fun q => !(q.1 == i) && !(q.1 + 1 == i && q.2.category == 2)))) : zk_lv E n ls' (zk_set L i v) := by
  refine ⟨h.1, h.2.1, fun k w hk => ?_⟩
  by_cases hki : k = i
  · subst hki
    have hlt : k < (zk_clr L k).length := by
      have := (List.getElem?_eq_some_iff.mp hk).1
      simpa [zk_set] using this
    simp only [zk_set, List.getElem?_set_self hlt] at hk
    cases hk
    exact h.2.2 (k, zk_tr E v) List.mem_cons_self
  · simp only [zk_set, List.getElem?_set_ne (Ne.symm hki)] at hk
    obtain ⟨h1, h2⟩ := zk_clr_get hk
    refine h.2.2 (k, zk_tr E w) (List.mem_cons_of_mem _ (List.mem_filter.mpr ⟨zk_pr_mem.mpr ⟨w, h1, rfl⟩, ?_⟩))
    simp only [Bool.and_eq_true, Bool.not_eq_true', beq_eq_false_iff_ne, ne_eq, Bool.and_eq_false_iff, zk_tr_cat]
    refine ⟨hki, ?_⟩
    by_cases hk1 : k + 1 = i
    · right
      intro hc
      apply h2
      refine ⟨hk1, hc, ?_⟩
      cases w with
      | long x => exact ⟨x, rfl⟩
      | double x =>
        have := List.all_eq_true.mp hd _ (List.mem_of_getElem? h1)
        cases this
      | _ => cases hc
    · exact Or.inl hk1
theorem zk_lv.set2 {E : zk_E} {n : Nat} {ls' : Array Slot} {L : List (Option Value)} {i : Nat} {v : Value} (hd : zk_nod L = true) (h : lv_has ls' n ((i, zk_tr E v) :: (zk_pr E L).filter (fun q => !(q.1 == i) && (!(q.1 == i + 1) && !(q.1 + 1 == i && q.2.category == 2))))) : zk_lv E n ls' (zk_set2 L i v) := by
  refine ⟨h.1, h.2.1, fun k w hk => ?_⟩
  by_cases hk1 : k = i + 1
  · subst hk1
    have hlt : i + 1 < ((zk_clr L i).set i (some v)).length := by
      have := (List.getElem?_eq_some_iff.mp hk).1
      simpa [zk_set2] using this
    simp only [zk_set2, List.getElem?_set_self hlt] at hk
    cases hk
  · simp only [zk_set2, List.getElem?_set_ne (Ne.symm hk1)] at hk
    by_cases hki : k = i
    · subst hki
      have hlt : k < (zk_clr L k).length := by
        have := (List.getElem?_eq_some_iff.mp hk).1
        simpa using this
      rw [List.getElem?_set_self hlt] at hk
      cases hk
      exact h.2.2 (k, zk_tr E v) List.mem_cons_self
    · rw [List.getElem?_set_ne (Ne.symm hki)] at hk
      obtain ⟨h1, h2⟩ := zk_clr_get hk
      refine h.2.2 (k, zk_tr E w) (List.mem_cons_of_mem _ (List.mem_filter.mpr ⟨zk_pr_mem.mpr ⟨w, h1, rfl⟩, ?_⟩))
      simp only [Bool.and_eq_true, Bool.not_eq_true', beq_eq_false_iff_ne, ne_eq, Bool.and_eq_false_iff, zk_tr_cat]
      refine ⟨hki, hk1, ?_⟩
      by_cases hk2 : k + 1 = i
      · right
        intro hc
        apply h2
        refine ⟨hk2, hc, ?_⟩
        cases w with
        | long x => exact ⟨x, rfl⟩
        | double x =>
          have := List.all_eq_true.mp hd _ (List.mem_of_getElem? h1)
          cases this
        | _ => cases hc
      · exact Or.inl hk2

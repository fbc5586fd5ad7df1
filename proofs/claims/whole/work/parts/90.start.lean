/-! THE CLAIM OUT OF ONE WALK OF THE LAW'S BODY. Your part is whole_start (and what it stands on); all else here is the same for every law, but numbers. -/
def R_law : String := "NamedNextLaw"
def lw_P (b : Addr) (xs : List Int32) (args : Array Value) (s : State) : Prop := args = #[.ref b] ∧ s.IntsAt b xs ∧ xs.length ≤ 256 ∧ (Jvm.Cond.and given_1 narrow_1).before args s = true
def lw_Q (_ : Array Value) (s : State) (o : Outcome) (t : State) : Prop := o = .returned (some (.int 1)) ∧ Framed s o t [] 600000 7302250
def lw_Z (below : List Frame) (a : Array Value) (s : State) : State → Prop := fun t => ∃ o, t.status = .running ∧ Ended t below o ∧ lw_Q a s o t
/-- the law's own end, with 1 on the stack, nothing written that was there before, its room as the claim has it -/
theorem lw_ret {p : Program} {l : Launch} {e : Env} {s : State} {m : MethodId} {below : List Frame} {meth : Method} {c : Code} {b : Nat} (hx : p.tables.exec = Jvm.exec) (hb : c.code = code) (hr : meth.sig.returnType = ret) (hlocks : meth.locks = false) {pc : Nat} {H : Heap} {ls : Array Slot} (hdg : decode code pc = .ok (.ireturn, 1)) : W p l e room_1 s m #[Value.ref b] below meth c H [] 600000 7302250 (lw_Z below #[Value.ref b] s) (F0 m pc ls [.int 1]) := by
  intro T hT X
  obtain ⟨fs, hret, hrun, hended, hW, hframe⟩ := X.leave (v := some (.int 1)) (hlocks := hlocks) (fun h => by rw [hr] at h; cases h)
  have hmeth' : T.vm.method? m = some meth := X.method'
  refine ⟨T.setFrames fs, ?_, .returned (some (.int 1)), hrun, hended, rfl, ⟨_, rfl⟩, hW, hframe⟩
  jvm_step X.here [X.here.top, hx, hb, hdg, hmeth', hr, ret, narrow_b1]
  (try refine ⟨rfl, ?_⟩); (try refine ⟨rfl, ?_⟩)
  first | (intro acts; rw [hret _ acts rfl rfl rfl]) | rw [hret _ _ rfl rfl rfl]
  exact Steps.refl _
/-- what holds at the law's entry: the machine, the code, the tables' words (any of lw_tbl by 'hts w (by decide +kernel)'), the script of L ints xs at the cell b, what the Statement gives of the start (any of its parts by flat_of_before) -/
def lw_At (p : Program) (s : State) (m : MethodId) (meth : Method) (c : Code) (b L : Nat) (xs : Nat → Int32) : Prop :=
  p.tables.exec = Jvm.exec ∧ c.code = code ∧ meth.sig.returnType = ret ∧ c.maxLocals = 4 ∧ s.vm.findClass R_law = some m.cls ∧ (∀ w ∈ lw_tbl, w.before #[Value.ref b] s = true) ∧ va_X b L xs s s.heap ∧ b < s.heap.size ∧ meth.locks = false ∧ (Jvm.Cond.and given_1 narrow_1).before #[Value.ref b] s = true
theorem zk_inst {k : Nat} (h : k < 9) : Cond.instantiable (zk_r k).1 (zk_r k).2.2 ∈ zk_tbl := by
  match k, h with
  | 0, _ => exact nk_X7_23.2.2.1
  | 1, _ => exact nk_X2_9.2.2.1
  | 2, _ => exact nk_X7_39.2.2.1
  | 3, _ => exact nk_X7_50.2.2.1
  | 4, _ => exact nk_X7_66.2.2.1
  | 5, _ => exact nk_X7_7.2.2.1
  | 6, _ => exact nk_X0_9.2.2.1
  | 7, _ => exact nk_L_7.2.2.1
  | 8, _ => exact nk_L_10.2.2.1
  | k + 9, h => exact absurd h (by omega)
theorem zk_sr_0 : Cond.stringRef "NamedNext$Clauses" 87 "plain" ∈ lw_tbl := List.mem_append_right _ (List.mem_of_getElem? (i := 300) (by decide +kernel))
theorem zk_sr_1 : Cond.stringRef "NamedNext$Clauses" 89 "flatterer" ∈ lw_tbl := List.mem_append_right _ (List.mem_of_getElem? (i := 353) (by decide +kernel))
theorem zk_sr_2 : Cond.stringRef "NamedNext$Clauses" 91 "blind" ∈ lw_tbl := List.mem_append_right _ (List.mem_of_getElem? (i := 354) (by decide +kernel))
theorem zk_sr_3 : Cond.stringRef "NamedNext$Clauses" 93 "sulker" ∈ lw_tbl := List.mem_append_right _ (List.mem_of_getElem? (i := 355) (by decide +kernel))
theorem zk_sr_4 : Cond.stringRef "NamedNext$Clauses" 62 "feud" ∈ lw_tbl := List.mem_append_right _ (List.mem_of_getElem? (i := 373) (by decide +kernel))
theorem zk_sr_5 : Cond.stringRef "NamedNext$Clauses" 67 "move" ∈ lw_tbl := List.mem_append_right _ (List.mem_of_getElem? (i := 382) (by decide +kernel))
theorem zk_sr_6 : Cond.stringRef "NamedNext$Clauses" 72 "book" ∈ lw_tbl := List.mem_append_right _ (List.mem_of_getElem? (i := 387) (by decide +kernel))
theorem zk_sr_7 : Cond.stringRef "NamedNext$Clauses" 77 "peace" ∈ lw_tbl := List.mem_append_right _ (List.mem_of_getElem? (i := 396) (by decide +kernel))
theorem zk_sr_8 : Cond.stringRef "NamedNext$Clauses" 82 "library" ∈ lw_tbl := List.mem_append_right _ (List.mem_of_getElem? (i := 404) (by decide +kernel))
theorem zk_sr_9 : Cond.stringRef "NamedNext$Clauses" 45 ";" ∈ lw_tbl := List.mem_append_right _ (List.mem_of_getElem? (i := 413) (by decide +kernel))
theorem zk_ne_0 : Cond.methodLinkNest "NamedNext" 9 ⟨"NamedNext$Text","<init>","()V"⟩ "NamedNext" ∈ lw_tbl := List.mem_append_right _ (List.mem_of_getElem? (i := 28) (by decide +kernel))
theorem zk_ne_1 : Cond.methodLinkNest "NamedNext" 18 ⟨"NamedNext$Told","<init>","()V"⟩ "NamedNext" ∈ lw_tbl := List.mem_append_right _ (List.mem_of_getElem? (i := 50) (by decide +kernel))
theorem zk_ne_2 : Cond.methodLinkNest "NamedNext$Clauses" 11 ⟨"NamedNext$Told","<init>","()V"⟩ "NamedNext" ∈ lw_tbl := List.mem_append_right _ (List.mem_of_getElem? (i := 98) (by decide +kernel))
theorem zk_ne_3 : Cond.methodLinkNest "NamedNext" 34 ⟨"NamedNext$Days","<init>","()V"⟩ "NamedNext" ∈ lw_tbl := List.mem_append_right _ (List.mem_of_getElem? (i := 113) (by decide +kernel))
theorem zk_ne_4 : Cond.methodLinkNest "NamedNext$Past" 17 ⟨"NamedNext$Days","<init>","()V"⟩ "NamedNext" ∈ lw_tbl := List.mem_append_right _ (List.mem_of_getElem? (i := 145) (by decide +kernel))
theorem zk_ne_5 : Cond.methodLinkNest "NamedNext" 68 ⟨"NamedNext$Slips","<init>","()V"⟩ "NamedNext" ∈ lw_tbl := List.mem_append_right _ (List.mem_of_getElem? (i := 198) (by decide +kernel))
theorem zk_ne_6 : Cond.methodLinkNest "NamedNext$Told" 62 ⟨"NamedNext","hasBit","(II)Z"⟩ "NamedNext" ∈ lw_tbl := List.mem_append_right _ (List.mem_of_getElem? (i := 471) (by decide +kernel))
theorem zk_ne_7 : Cond.methodLinkNest "NamedNext$Rows" 70 ⟨"NamedNext","hasBit","(II)Z"⟩ "NamedNext" ∈ lw_tbl := List.mem_append_right _ (List.mem_of_getElem? (i := 564) (by decide +kernel))
theorem zk_ne_8 : Cond.methodLinkNest "NamedNext$Rows" 80 ⟨"NamedNext","leastOf","(I)I"⟩ "NamedNext" ∈ lw_tbl := List.mem_append_right _ (List.mem_of_getElem? (i := 618) (by decide +kernel))
theorem zk_ne_9 : Cond.methodLinkNest "NamedNext$Slips" 39 ⟨"NamedNext","hasBit","(II)Z"⟩ "NamedNext" ∈ lw_tbl := List.mem_append_right _ (List.mem_of_getElem? (i := 711) (by decide +kernel))
theorem zk_ne_10 : Cond.methodLinkNest "NamedNext$Slips" 43 ⟨"NamedNext","leastOf","(I)I"⟩ "NamedNext" ∈ lw_tbl := List.mem_append_right _ (List.mem_of_getElem? (i := 730) (by decide +kernel))
theorem zk_ne_all : ∀ q ∈ zk_nest, Cond.methodLinkNest q.1 q.2.1 q.2.2.1 q.2.2.2 ∈ lw_tbl := by
  intro q hq
  simp only [zk_nest, List.mem_cons, List.not_mem_nil, or_false] at hq
  rcases hq with rfl | rfl | rfl | rfl | rfl | rfl | rfl | rfl | rfl | rfl | rfl
  · exact zk_ne_0
  · exact zk_ne_1
  · exact zk_ne_2
  · exact zk_ne_3
  · exact zk_ne_4
  · exact zk_ne_5
  · exact zk_ne_6
  · exact zk_ne_7
  · exact zk_ne_8
  · exact zk_ne_9
  · exact zk_ne_10
theorem zk_st_wh : Cond.laysStatic "NamedNext" "WHAT_HE_IS" "[I" ∈ lw_tbl := List.mem_append_right _ (List.mem_of_getElem? (i := 481) (by decide +kernel))
theorem zk_st_lo : Cond.laysStatic "NamedNext$Rows" "LOTS" "[J" ∈ lw_tbl := List.mem_append_right _ (List.mem_of_getElem? (i := 596) (by decide +kernel))
theorem zk_st_cs : Cond.laysStatic "java/lang/String" "COMPACT_STRINGS" "Z" ∈ lw_tbl := List.mem_append_right _ (List.mem_of_getElem? (i := 314) (by decide +kernel))
theorem zk_st_si : Cond.laysStatic "jdk/internal/util/Preconditions" "SIOOBE_FORMATTER" "Ljava/util/function/BiFunction;" ∈ lw_tbl := List.mem_append_right _ (List.mem_of_getElem? (i := 330) (by decide +kernel))
theorem zk_in_nn : Cond.initialized "NamedNext" ∈ lw_tbl := List.mem_append_right _ (List.mem_of_getElem? (i := 1) (by decide +kernel))
theorem zk_in_ro : Cond.initialized "NamedNext$Rows" ∈ lw_tbl := List.mem_append_right _ (List.mem_of_getElem? (i := 7) (by decide +kernel))
theorem zk_in_st : Cond.initialized "java/lang/String" ∈ lw_tbl := List.mem_append_right _ (List.mem_of_getElem? (i := 11) (by decide +kernel))
theorem zk_in_pr : Cond.initialized "jdk/internal/util/Preconditions" ∈ lw_tbl := List.mem_append_right _ (List.mem_of_getElem? (i := 13) (by decide +kernel))
theorem zk_w_ai : Cond.arrayClass FieldType.int ∈ lw_tbl := List.mem_append_right _ (List.mem_of_getElem? (i := 90) (by decide +kernel))
theorem zk_w_aj : Cond.arrayClass FieldType.long ∈ lw_tbl := List.mem_append_right _ (List.mem_of_getElem? (i := 195) (by decide +kernel))
theorem zk_w_az : Cond.arrayClass FieldType.boolean ∈ lw_tbl := List.mem_append_right _ (List.mem_of_getElem? (i := 827) (by decide +kernel))
theorem zk_w_ac : Cond.arrayClass FieldType.char ∈ lw_tbl := List.mem_append_right _ (List.mem_of_getElem? (i := 47) (by decide +kernel))
theorem zk_w_ad : Cond.arrayOver (FieldType.object "NamedNext$Days") ∈ lw_tbl := List.mem_append_right _ (List.mem_of_getElem? (i := 144) (by decide +kernel))
theorem zk_arr {args : Array Value} {s : State} {ty : FieldType} (h : (Cond.arrayClass ty).before args s = true) : ∃ cA : ClassId, ArrOfT s cA ty ∧ s.vm.findClass ("[" ++ ty.toString) = some cA := by
  obtain ⟨cA, kA, comp, h1, h2, h3⟩ := Cond.arrayClass_spec h
  exact ⟨cA, fun n z => ⟨fun k h => (by cases h), kA, h2, comp, h3⟩, h1⟩
theorem zk_arrD {args : Array Value} {s : State} (h : (Cond.arrayOver (.object "NamedNext$Days")).before args s = true) : ∃ cA : ClassId, ArrOfT s cA (.object "NamedNext$Days") ∧ va_RA s cA (.object "NamedNext$Days") := by
  obtain ⟨comp, cA, kA, h1, h2, h3, h4, h5⟩ := Cond.arrayOver_spec h
  exact ⟨cA, fun n z => ⟨fun k h => (by cases h), kA, h3, comp, h4⟩, kA, comp, h3, h4, h1, h5⟩
def zk_ext (b tW tL tS : Nat) (aK aV : Nat → Nat) : Nat → Nat := fun q => if q = 1000 then b else if q = 1001 then tW else if q = 1002 then tL else if q = 1003 then tS else if q < 1030 then aK (q - 1010) else aV (q - 1030)
theorem zk_ext_k {b tW tL tS : Nat} {aK aV : Nat → Nat} {i : Nat} (h : i < 10) : zk_ext b tW tL tS aK aV (1010 + i) = aK i := by
  simp only [zk_ext]
  rw [if_neg (by omega), if_neg (by omega), if_neg (by omega), if_neg (by omega), if_pos (by omega), show 1010 + i - 1010 = i by omega]
theorem zk_ext_v {b tW tL tS : Nat} {aK aV : Nat → Nat} {i : Nat} (h : i < 10) : zk_ext b tW tL tS aK aV (1030 + i) = aV i := by
  simp only [zk_ext]
  rw [if_neg (by omega), if_neg (by omega), if_neg (by omega), if_neg (by omega), if_neg (by omega), show 1030 + i - 1030 = i by omega]
def zk_tm (i : Nat) : Term := Term.string "NamedNext$Clauses" (zk_sk.getD i (0, "")).1
/-- the outside, at the law's start -/
theorem zk_out {s : State} {b L : Nat} {xs : Nat → Int32} (hts : ∀ w ∈ lw_tbl, w.before #[Value.ref b] s = true) (hX : va_X b L xs s s.heap) (hbl : b < s.heap.size) (hgv : (Jvm.Cond.and given_1 narrow_1).before #[Value.ref b] s = true) (D : va_G) (ty : Nat → ClassId) : ∃ ext : Nat → Nat, ext 1000 = b ∧ zk_Xt (L, xs) (D, ty, s.heap.size, ext) s s.heap := by
  have hs := flat_of_before _ hgv
  have hA : ∀ a : Nat, a < s.heap.size → ¬ (fun q : Nat => s.heap.size ≤ q) a := fun a h q => absurd h (Nat.not_lt.mpr q)
  obtain ⟨tW, eW, hW⟩ := va_Tof (tm := .static "NamedNext" "WHAT_HE_IS" "[I") (ty := .int) (N := 4) (f := fun j => .int (zk_wh j)) (A := fun q : Nat => s.heap.size ≤ q) (by decide) (hs _ (by decide +kernel)) (va_eqt (hs _ (by decide +kernel))) (fun j hj => by
    match j, hj with
    | 0, _ => exact va_eqt (hs _ (by decide +kernel))
    | 1, _ => exact va_eqt (hs _ (by decide +kernel))
    | 2, _ => exact va_eqt (hs _ (by decide +kernel))
    | 3, _ => exact va_eqt (hs _ (by decide +kernel))
    | j + 4, h => exact absurd h (by omega)) hA
  obtain ⟨tL, eL, hL⟩ := va_Tof (tm := .static "NamedNext$Rows" "LOTS" "[J") (ty := .long) (N := 8) (f := fun j => .long (zk_lots j)) (A := fun q : Nat => s.heap.size ≤ q) (by decide) (hs _ (by decide +kernel)) (va_eqt (hs _ (by decide +kernel))) (fun j hj => by
    match j, hj with
    | 0, _ => exact va_eqtl (hs _ (by decide +kernel))
    | 1, _ => exact va_eqtl (hs _ (by decide +kernel))
    | 2, _ => exact va_eqtl (hs _ (by decide +kernel))
    | 3, _ => exact va_eqtl (hs _ (by decide +kernel))
    | 4, _ => exact va_eqtl (hs _ (by decide +kernel))
    | 5, _ => exact va_eqtl (hs _ (by decide +kernel))
    | 6, _ => exact va_eqtl (hs _ (by decide +kernel))
    | 7, _ => exact va_eqtl (hs _ (by decide +kernel))
    | j + 8, h => exact absurd h (by omega)) hA
  have hZq := va_Zqof (A := fun q : Nat => s.heap.size ≤ q) (hts _ zk_st_si) (hts _ zk_in_pr) (hs _ (by decide +kernel)) hA
  obtain ⟨tS, hZs⟩ : ∃ tS : Nat, va_Z "jdk/internal/util/Preconditions" "SIOOBE_FORMATTER" "Ljava/util/function/BiFunction;" .null (fun q : Nat => s.heap.size ≤ q) s s.heap ∨ va_Z "jdk/internal/util/Preconditions" "SIOOBE_FORMATTER" "Ljava/util/function/BiFunction;" (.ref tS) (fun q : Nat => s.heap.size ≤ q) s s.heap := by
    rcases hZq with h | ⟨t, h⟩
    · exact ⟨0, Or.inl h⟩
    · exact ⟨t, Or.inr h⟩
  have hCS := va_Zof (A := fun q : Nat => s.heap.size ≤ q) (hts _ zk_st_cs) (hts _ zk_in_st) (va_eqi (z := 1) (hs _ (by decide +kernel))) hA
  obtain ⟨aK, aV, hS, hK⟩ := vk_Sof (N := 10) (tm := zk_tm) (len := zk_sl) (byt := zk_sb) (A := fun q : Nat => s.heap.size ≤ q) (args := #[Value.ref b]) (s := s)
    (by decide) (fun i hi => hs _ ((by decide +kernel : ∀ i, i < 10 → Cond.exactly (zk_tm i) "java/lang/String" ∈ flatC (Jvm.Cond.and given_1 narrow_1)) i hi))
    (fun i hi => hs _ ((by decide +kernel : ∀ i, i < 10 → Cond.eq (.field (zk_tm i) "java/lang/String" "coder" "B") (.int 0) ∈ flatC (Jvm.Cond.and given_1 narrow_1)) i hi))
    (fun i hi => hs _ ((by decide +kernel : ∀ i, i < 10 → Cond.arrayOf (.field (zk_tm i) "java/lang/String" "value" "[B") .byte ∈ flatC (Jvm.Cond.and given_1 narrow_1)) i hi))
    (fun i hi => hs _ ((by decide +kernel : ∀ i, i < 10 → Cond.eq (.length (.field (zk_tm i) "java/lang/String" "value" "[B")) (.int (Int32.ofNat (zk_sl.getD i 0))) ∈ flatC (Jvm.Cond.and given_1 narrow_1)) i hi))
    (fun i hi j hj => hs _ ((by decide +kernel : ∀ i, i < 10 → ∀ j, j < zk_sl.getD i 0 → Cond.eq (.elem (.field (zk_tm i) "java/lang/String" "value" "[B") (.int (Int32.ofNat j))) (.int ((zk_sb.getD i []).getD j 0)) ∈ flatC (Jvm.Cond.and given_1 narrow_1)) i hi j hj))
    (fun i j hi hj hij => ((by decide +kernel : ∀ i, i < 10 → ∀ j, j < 10 → i ≠ j → Cond.not (Cond.eq (zk_tm i) (zk_tm j)) ∈ flatC (Jvm.Cond.and given_1 narrow_1) ∨ Cond.not (Cond.eq (zk_tm j) (zk_tm i)) ∈ flatC (Jvm.Cond.and given_1 narrow_1)) i hi j hj hij).imp (fun h => hs _ h) (fun h => hs _ h)) hA
  refine ⟨zk_ext b tW tL tS aK aV, rfl, ⟨hX, hbl⟩, ⟨va_Zref (hts _ zk_st_wh) (hts _ zk_in_nn) eW hA, hW⟩, ⟨va_Zref (hts _ zk_st_lo) (hts _ zk_in_ro) eL hA, hL⟩, hZs, hCS, ?_, ?_, Nat.le_refl _, fun q hq => va_Nw.of rfl (hts _ (zk_ne_all q hq)), va_AO.of (hts _ zk_w_ad)⟩
  · refine ⟨fun i hi => ?_, fun i j hi hj e => hS.2 i j hi hj ?_⟩
    · have h1 := hS.1 i hi
      show va_O _ (zk_ext b tW tL tS aK aV (1010 + i)) _ _ _ ∧ va_OF _ _ _ _ (zk_ext b tW tL tS aK aV (1010 + i)) _ _ _ ∧ va_OF _ _ _ (.ref (zk_ext b tW tL tS aK aV (1030 + i))) (zk_ext b tW tL tS aK aV (1010 + i)) _ _ _ ∧ va_T _ (zk_ext b tW tL tS aK aV (1030 + i)) _ _ _ _ _
      rw [zk_ext_k hi, zk_ext_v hi]
      exact h1
    · have e : zk_ext b tW tL tS aK aV (1010 + i) = zk_ext b tW tL tS aK aV (1010 + j) := e
      rw [zk_ext_k hi, zk_ext_k hj] at e
      exact e
  · intro i hi
    show vk_R _ _ _ (zk_ext b tW tL tS aK aV (1010 + i)) _
    rw [zk_ext_k hi]
    have h2 : (Term.string "NamedNext$Clauses" (zk_sk.getD i (0, "")).1).eval #[Value.ref b] s none [] s = some (.ref (aK i)) := hK i hi
    refine vk_R.of (A := #[Value.ref b]) (hts _ ?_) h2
    match i, hi with
    | 0, _ => exact zk_sr_0
    | 1, _ => exact zk_sr_1
    | 2, _ => exact zk_sr_2
    | 3, _ => exact zk_sr_3
    | 4, _ => exact zk_sr_4
    | 5, _ => exact zk_sr_5
    | 6, _ => exact zk_sr_6
    | 7, _ => exact zk_sr_7
    | 8, _ => exact zk_sr_8
    | 9, _ => exact zk_sr_9
    | i + 10, h => exact absurd h (by omega)
theorem zk_known {s : State} {args : Array Value} (hts : ∀ w ∈ lw_tbl, w.before args s = true) : ∃ (D : va_G) (ty : Nat → ClassId), ∀ (n : Nat) (ext : Nat → Nat), va_K D zk_cl (zk_tys (D, ty, n, ext)) s := by
  have htz : ∀ w ∈ zk_tbl, w.before args s = true := fun w hw => hts w (List.mem_filter.mp hw).1
  have hcl : ∀ k : Nat, ∃ q : ClassId × (Nat → Nat), k < 9 → u_Kn s (zk_r k).1 (zk_r k).2.1 (zk_r k).2.2 q.1 q.2 := by
    intro k
    by_cases h : k < 9
    · obtain ⟨cC, iS, h1⟩ := u_known htz (zk_r_in h) (htz _ (zk_inst h))
      exact ⟨(cC, iS), fun _ => h1⟩
    · exact ⟨(0, fun _ => 0), fun h2 => absurd h2 h⟩
  obtain ⟨Dq, hDq⟩ := Classical.axiomOfChoice hcl
  obtain ⟨c0, a0, b0⟩ := zk_arr (hts _ zk_w_ai)
  obtain ⟨c1, a1, b1⟩ := zk_arr (hts _ zk_w_aj)
  obtain ⟨c2, a2, b2⟩ := zk_arr (hts _ zk_w_az)
  obtain ⟨c3, a3, b3⟩ := zk_arr (hts _ zk_w_ac)
  obtain ⟨c4, a4, b4⟩ := zk_arrD (hts _ zk_w_ad)
  refine ⟨(fun k => (Dq k).1, fun k => (Dq k).2), fun k => [c0, c1, c2, c3, c4].getD k 0, fun n ext => ⟨fun c q hq => ?_, fun k q hk => ?_⟩⟩
  · have hc : c < 9 := (List.getElem?_eq_some_iff.mp hq).1
    rw [zk_r_at hc] at hq
    cases hq
    exact hDq c hc
  · match k, hk with
    | 0, hk => cases hk; exact ⟨a0, b0⟩
    | 1, hk => cases hk; exact ⟨a1, b1⟩
    | 2, hk => cases hk; exact ⟨a2, b2⟩
    | 3, hk => cases hk; exact ⟨a3, b3⟩
    | 4, hk => cases hk; exact ⟨a4, b4⟩
    | k + 5, hk => simp [zk_tys] at hk
theorem whole_start {p : Program} {e : Env} {s : State} {m : MethodId} {below : List Frame} {meth : Method} {c : Code} (l : Launch) {b L : Nat} {xs : Nat → Int32} (hL : L ≤ 256) (C0 : lw_At p s m meth c b L xs) : W p l e room_1 s m #[Value.ref b] below meth c s.heap [] 0 0 (lw_Z below #[Value.ref b] s) (entryFrame m ([Value.ref b] : List Value).toArray 4) := by
  obtain ⟨hx, hb, hr, hml, hown, hts, hX, hbl, hlk, hgv⟩ := C0
  obtain ⟨D, ty, hK⟩ := zk_known hts
  obtain ⟨ext, e0, hXt⟩ := zk_out hts hX hbl hgv D ty
  obtain ⟨IR, JR, hf⟩ := law_pure (L, xs) hL
  have hC : zk_Cx (L, xs) (D, ty, s.heap.size, ext) m_L_law p s m #[Value.ref b] meth c := ⟨hx, hb, o_L_law, hr, hml, hown, fun w hw => hts w (List.mem_filter.mp hw).1, hlk, fun h => absurd h (by decide), hXt⟩
  have hR : zk_R (D, ty, s.heap.size, ext) (z_Zs 0 0, z_I0, z_J0) s s.heap := ⟨fun k q hq => by simp [zk_ws, z_Zs] at hq, hK _ _, by decide⟩
  have hav : ([Value.ref b] : List Value) = [Value.ref 1000].map (zk_tr (D, ty, s.heap.size, ext)) := by
    show [Value.ref b] = [Value.ref (ext 1000)]
    rw [e0]
  have hent : entryFrame m ([Value.ref b] : List Value).toArray 4 = F0 m 0 ((lg_sl ([Value.ref 1000].map (zk_tr (D, ty, s.heap.size, ext))) ++ List.replicate (4 - (lg_sl ([Value.ref 1000].map (zk_tr (D, ty, s.heap.size, ext)))).length) Slot.unset).toArray) [] := by rw [hav, lg_entry_eq]
  rw [hent]
  refine k_law0 hf (D, ty, s.heap.size, ext) p l e room_1 s m #[Value.ref b] below meth c s.heap [] 0 0 _ _ hC hR va_S.rf (zk_lv_ent (by decide)) ⟨by decide, by decide, by decide, by decide, rfl⟩ ?_
  intro pc' ls' H' locs' hret hR' hS'
  rcases hret with ⟨h, -⟩ | ⟨v, ty2, h, -, -, hdec⟩ | ⟨v, h, -⟩
  · cases h
  · cases h
    refine va_forget (fun q hq => hS'.2.2 q hq) ?_
    refine W.widen (k := 600000) (n := 7302250) (by decide) (by decide) ?_
    exact lw_ret hx hb hr hlk hdec
  · cases h
set_option maxHeartbeats 4000000 in
theorem lw_walk (l : Launch) (b : Addr) (xs : List Int32) : MetFree l x (headSpec (Jvm.Cond.code x code maxLocals ret :: tables_1) room_1) (lw_P b xs) (fun _ _ _ _ _ => True) lw_Q := by
  refine MetFree.of_bodyS (code := code) (maxLocals := maxLocals) (ret := ret) (by decide) ?_ ?_
  · intro args s m h hn
    obtain ⟨meth, c, h1, h2, h3, h4, h5, h6, -, -⟩ := Cond.code_spec hn (atoms_spec (ws := Jvm.Cond.code x code maxLocals ret :: tables_1) h _ List.mem_cons_self)
    exact ⟨meth, c, h1, h2, h3, h4, h5, h6⟩
  · intro p e s m args below meth c s₁ B hml0 hP _
    obtain ⟨rfl, hx, hbd, hgv⟩ := hP
    obtain ⟨scr, harrAt, hlist, hof, hsmall⟩ := hx
    obtain ⟨hcb, hkn, -, -⟩ := State.arrayAt?_spec harrAt
    have hown : s.vm.findClass R_law = some m.cls := findClass_of_methodNamed B.named
    have hts0 : ∀ c ∈ (Jvm.Cond.code x code maxLocals ret :: tables_1), c.before #[Value.ref b] s = true := atoms_spec (ws := Jvm.Cond.code x code maxLocals ret :: tables_1) B.pre
    have hts : ∀ w ∈ lw_tbl, w.before #[Value.ref b] s = true := k2_hts_sels lw_privs (fun w hw => hts0 w (List.mem_cons_of_mem _ hw)) lw_privs_ok
    have hml : c.maxLocals = 4 := B.maxLocals_eq (hts0 _ List.mem_cons_self)
    have X₀ : Stand p l e room_1 s m #[Value.ref b] below meth c s₁ [] 0 0 := Stand.of_body B
    have hh0 : s₁.heap = s.heap := by rw [B.state]; rfl
    have hsz : scr.slots.size = xs.length := by rw [← Array.length_toList, hlist, List.length_map]
    have hval : ∀ j : Nat, j < xs.length → scr.slots[j]? = some (.int (xs.getD j 0)) := fun j hj => by
      rw [← Array.getElem?_toList, hlist]
      simp [hj]
    have hbl : b < s.heap.size := (Array.getElem?_eq_some_iff.mp hcb).1
    have hX : va_X b xs.length (fun j => xs.getD j 0) s s.heap := ⟨scr, hcb, hof, hkn, hsz, hval⟩
    have K : W p l e room_1 s m #[Value.ref b] below meth c s₁.heap [] 0 0 (lw_Z below #[Value.ref b] s) (entryFrame m ([Value.ref b] : List Value).toArray 4) := by
      rw [hh0]
      exact whole_start l hbd ⟨B.exec, B.bytes, B.returns, hml, hown, hts, hX, hbl, B.notSynchronized, hgv⟩
    obtain ⟨t, a1, o, b1, b2, b3⟩ := K s₁ rfl X₀
    exact ⟨t, o, a1, b1, b2, b3⟩
theorem lw_pre_spec {args : Array Value} {s : State} (h : (Jvm.Cond.and given_1 narrow_1).before args s = true) (hr : rest_1_c.before args s = true) : ∃ (b : Addr) (xs : List Int32), lw_P b xs args s := by
  have hs := flat_of_before _ h
  have hq := flat_of_before _ hr
  have hc : (Cond.count 1).before args s = true := hs _ (by decide +kernel)
  have harr : (Cond.arrayOf (.arg 0) .int).before args s = true := hs _ (by decide +kernel)
  have hle : (Cond.le (.length (.arg 0)) (.int 256)).before args s = true := hs _ (by decide +kernel)
  have hlen : (Cond.isInt (.length (.arg 0))).before args s = true := hq _ (by decide +kernel)
  have hall : (Cond.all (.arg 0) (.isInt (.elem (.arg 0) (.index 0)))).before args s = true := hq _ (by decide +kernel)
  obtain ⟨b, xs, hb, hx⟩ := State.ints_of_pre rfl harr hlen hall
  have hsm : xs.length < 2 ^ 31 := hx.choose_spec.2.2.2
  have hev : (Term.length (.arg 0)).eval args s none [] s = some (.int xs.length.toInt32) := hx.length_eval hb
  have hv := Cond.le_ints hev (show (Term.int 256).eval args s none [] s = some (.int 256) from rfl)
  have hd : xs.length.toInt32 ≤ 256 := by
    simpa [Cond.before, Cond.holds, hv] using hle
  have hN : xs.length ≤ 256 := (Int32.ofNat_le_ofNat hsm (by decide)).mp (show Int32.ofNat xs.length ≤ Int32.ofNat 256 from hd)
  exact ⟨b, xs, Cond.one_arg hc (show args[0]? = some (.ref b) from hb), hx, hN, h⟩
theorem lw_comes (l : Launch) : Comes l x (Jvm.Cond.code x code maxLocals ret :: tables_1) room_1 (fun tb e args s => Calls_1 tb e args s ∧ rest_1 tb e args s ∧ Pre_1 tb e args s)
    (fun _ _ args s o t => lw_Q args s o t) := by
  intro p e ha hc hk s m args below hf hfit hheap happ hpre
  obtain ⟨b, xs, hP⟩ := lw_pre_spec hpre.2.2 hpre.2.1
  obtain ⟨k, o, h1, h2, h3, hQ⟩ := lw_walk l b xs p e ha hc hk s m args below hf ((Spec.applies_iff_loose hf).mp happ).1 hP trivial
  exact ⟨k, o, h1, h2, h3, hQ⟩
theorem lw_frame {s t : State} {o : Outcome} {args : Array Value} (h : Framed s o t [] 600000 7302250) :
    Framed s o t (fieldLocs frame_1_writes args s ++ arrayLocs frame_1_arrays args s ++ staticLocs frame_1_statics s) 600000 7302250 := h
theorem lw_limb (L : Cond) (hL : ∀ (args : Array Value) (s t : State), L.after args s (.returned (some (.int 1))) t = true) :
    ArmFor flags0 classFile x code maxLocals ret World_1 tables_1 room_1 Calls_1 rest_1 Pre_1
      (fun tb e a s o t => postC L tb e a s o t ∧ Framed s o t (fieldLocs frame_1_writes a s ++ arrayLocs frame_1_arrays a s ++ staticLocs frame_1_statics s) 600000 7302250) := by
  intro l _ _ _ p e ha hc hk s m args below hf hfit hheap happ hpre
  obtain ⟨k, o, h1, h2, h3, rfl, hF⟩ := lw_comes l p e ha hc hk s m args below hf hfit hheap happ hpre
  exact ⟨k, _, h1, h2, h3, hL args s _, lw_frame hF⟩
theorem i_vc : Claimed_1_1 ∧ Claimed_1_2 := ⟨lw_limb limb_1_1 (fun args s t => by simp [limb_1_1, Cond.after, Cond.holds, Cond.value]), lw_limb limb_1_2 (fun args s t => Cond.after_iff.mpr (by
  first | (rw [show limb_1_2 = Cond.eq .result (.int 1) from rfl, Cond.eq_ints (x := 1) (y := 1) rfl rfl]; simp; done) | (simp [limb_1_2, Cond.value, Term.eval]; done)))⟩

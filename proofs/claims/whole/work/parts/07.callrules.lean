/-! the rows of the judgement for calls -/
/-- a callee's own words -/
def zk_LB (mt2 : zk_Mt) (n : Nat) : Prop := zk_ok mt2 ∧ plainName mt2.1.cls = true ∧ mt2.2.2.1 ≤ 40 ∧ Cond.code mt2.1 mt2.2.1 mt2.2.2.1 mt2.2.2.2.1 ∈ zk_tbl ∧ Cond.initialized mt2.1.cls ∈ zk_tbl ∧ (mt2.1.cls ≠ "java/lang/invoke/MethodHandle" ∧ mt2.1.cls ≠ "java/lang/invoke/VarHandle" ∧ (parseMethodDescriptor mt2.1.desc).map (fun d => d.parameters.length) = some n)
theorem zk_tbl_good {w : Cond} (h : w ∈ zk_tbl) : (w.onTables && w.keeps) = true ∨ ∃ ty, w = .arrayClass ty := good_of_word (List.mem_filter.mp h).2
theorem zk_goodIn {mt2 : zk_Mt} (h : Cond.code mt2.1 mt2.2.1 mt2.2.2.1 mt2.2.2.2.1 ∈ zk_tbl) : GoodIn zk_tbl (zk_w mt2) := by
  intro w hw
  have hm : w ∈ zk_tbl := by
    rcases List.mem_cons.mp hw with rfl | hw
    · exact h
    · exact hw
  exact ⟨hm, zk_tbl_good hm⟩
theorem zk_goodV {own C : String} {idx : Nat} {mt2 : zk_Mt} (hc : Cond.code mt2.1 mt2.2.1 mt2.2.2.1 mt2.2.2.2.1 ∈ zk_tbl) (h1 : Cond.methodLink own idx mt2.1 ∈ zk_tbl) (h2 : Cond.instanceMethod mt2.1 ∈ zk_tbl) (h3 : Cond.selects C mt2.1 mt2.1 ∈ zk_tbl) (h4 : Cond.initialized C ∈ zk_tbl) : GoodIn zk_tbl (wsV own idx C mt2.1 (zk_w mt2)) := by
  intro w hw
  have hm : w ∈ zk_tbl := by
    rcases List.mem_append.mp hw with hw | hw
    · simp only [List.mem_cons, List.not_mem_nil, or_false] at hw
      rcases hw with rfl | rfl | rfl | rfl
      · exact h1
      · exact h2
      · exact h3
      · exact h4
    · exact (zk_goodIn hc w hw).1
  exact ⟨hm, zk_tbl_good hm⟩
theorem zk_blind {X : zk_X} {E : zk_E} {M : zk_M} {av : List Value} : FrameBlind (va_Pc av (zk_P X E M)) := by
  intro a U g mk q
  obtain ⟨q0, q1, q2, q3⟩ := q
  exact ⟨q0, q1.mv (U := U.calling g mk a) (Vm.Alike.refl U.vm), zk_Xt.same (U := U.calling g mk a) rfl q2, q3⟩
section ZCALL
variable {X : zk_X} {d d2 pc npc tg : Nat} {mt mt2 : zk_Mt} {L : List (Option Value)} {st stk As : List Value} {M M1 M' : zk_M} {dc ds dc1 ds1 dc2 ds2 : Nat} {rv rv1 : Option Value}
/-- what a call brings with it: the callee's pre, in the caller's heap -/
theorem zk_pre {E : zk_E} {s : State} {H : Heap} {locs : List Loc} {av : List Value} (hX : zk_Xt X E s s.heap) (hR : zk_R E M s H) (hS : va_S (zk_A E) s.heap H locs) (hz : H.size = E.2.2.1 + M.1.1) : ∀ U : State, U.heap = H → s.WarmedH U.vm → va_Pc (av.map (zk_tr E)) (zk_P X E M) (av.map (zk_tr E)).toArray U := by
  intro U hU hW
  exact ⟨rfl, by rw [hU]; exact hR.mv hW.alike, by rw [hU]; exact (hX.warm hW).kept hS.1 hS.2.1, by rw [hU]; exact hz⟩
/-- behind a call -/
theorem zk_behind {E : zk_E} {p : Program} {l : Launch} {e : Env} {R : Room} {s : State} {m : MethodId} {args : Array Value} {below : List Frame} {meth : Method} {c : Code} {H : Heap} {locs : List Loc} {cells slots : Nat} {Q : State → Prop} {ls : Array Slot} {st0 rest : List Value} {a : Array Value}
    (hrun : va_Run p l e R s m args below meth c H locs cells slots dc1 ds1 (F0 m pc ls st0) rest (zk_Q E rv1 M1 a) (zk_A E)) (hS : va_S (zk_A E) s.heap H locs)
    (k : ∀ (H1 : Heap) (locs1 : List Loc), zk_R E M1 s H1 → va_S (zk_A E) s.heap H1 locs1 → W p l e R s m args below meth c H1 locs1 (cells + dc1) (slots + ds1) Q (F0 m (pc + 3) ls ((rv1.map (zk_tr E)).toList ++ rest))) : W p l e R s m args below meth c H locs cells slots Q (F0 m pc ls st0) := by
  intro T hT Xs
  obtain ⟨v, st₀, t, T', Lo, h0, X', hL, e1, e2, ⟨hv, hR1, hz, hk⟩, stp⟩ := hrun T hT Xs
  cases hv
  rw [h0] at hz hk
  obtain ⟨t2, a1, b1⟩ := k T'.heap (locs ++ Lo) (by rw [e1]; exact hR1.mv (by rw [← e2]; exact X'.warmed.alike.symm))
    ⟨Nat.le_trans hS.1 (by rw [e1]; exact hz), fun q h1 h2 => by rw [e1, hk q (Nat.lt_of_lt_of_le h1 hS.1) h2]; exact hS.2.1 q h1 h2, fun q hq => by
      rcases List.mem_append.mp hq with h | h
      · exact hS.2.2 q h
      · exact hL q h⟩ T' rfl X'
  exact ⟨t2, stp t2 a1, b1⟩
theorem zk_cat (E : zk_E) (st : List Value) : ((st.map (zk_tr E)).map fun v => v.category).sum = (st.map fun v => v.category).sum := by
  rw [List.map_map]
  congr 1
  apply List.map_congr_left
  intro v _
  exact zk_tr_cat E v
theorem zk_toList (E : zk_E) (rv1 : Option Value) (st : List Value) : (rv1.map (zk_tr E)).toList ++ st.map (zk_tr E) = (rv1.toList ++ st).map (zk_tr E) := by
  cases rv1 <;> simp
theorem zk_rrev (E : zk_E) (As st : List Value) : (As.reverse ++ st).map (zk_tr E) = (As.map (zk_tr E)).reverse ++ st.map (zk_tr E) := by simp
/-- an object's own class, at a call -/
theorem zk_recv {E : zk_E} {Z : zk_Z} {I : zk_I} {J : zk_J} {s : State} {H : Heap} {b ci : Nat} (hR : zk_R E (Z, I, J) s H) (hb : (Z.2.1 b).1 = ci) (h9 : ci < 9) (hz : b < Z.1) : ∃ cell : Cell, H[zk_ad E b]? = some cell ∧ cell.vm.isStatics = false ∧ s.vm.findClass (zk_r ci).1 = some cell.cls :=
  va_recv hR.2.1 hR.1 (zk_r_at h9) (q0 := b) ((zk_ws_at (M := (Z, I, J)) hz).trans (by rw [zk_ce_o hb h9]))
def zk_LV (own : String) (idx : Nat) (mt2 : zk_Mt) (n ci : Nat) : Prop := zk_LB mt2 n ∧ Cond.methodLink own idx mt2.1 ∈ zk_tbl ∧ Cond.instanceMethod mt2.1 ∈ zk_tbl ∧ Cond.selects mt2.1.cls mt2.1 mt2.1 ∈ zk_tbl ∧ (zk_r ci).1 = mt2.1.cls ∧ ci < 9
theorem c_callV {Z : zk_Z} {I : zk_I} {J : zk_J} {idx n ci b : Nat} (h : zk_at mt pc = some (.invokevirtual idx, npc, tg)) (hl : zk_LV mt.1.cls idx mt2 n ci) (hb : (Z.2.1 b).1 = ci) (hbz : b < Z.1) (hst : stk = As.reverse ++ .ref b :: st) (hn : As.length = n) (hav : (zk_flat (.ref b :: As)).length ≤ mt2.2.2.1) (hd : d2 + 1 ≤ d) (h8 : (st.map fun v => v.category).sum ≤ 8) (hM1 : M1.1.1 = Z.1 + dc1) (hdc : dc = dc1 + dc2) (hds : ds = ds1 + ds2)
    (hcal : zC X d2 mt2 0 (zk_ent (.ref b :: As) mt2.2.2.1) [] (Z, I, J) dc1 ds1 rv1 M1) (k : zC X d mt npc L (rv1.toList ++ st) M1 dc2 ds2 rv M') : zC X d mt pc L stk (Z, I, J) dc ds rv M' := by
  intro E p l e R s m args below meth c H locs cells slots Q ls hC hR hS hlv hr hk
  obtain ⟨hn3, hdd⟩ := zk_d hC.2.2.1 h rfl
  subst hn3; subst hst; subst hdc; subst hds
  obtain ⟨⟨hok, hpl, hml, hcd, hini, hy⟩, hlk, hin, hsel, hcls, h9⟩ := hl
  refine W.zsz fun hsz => ?_
  have hlow := zk_low hR hC.2.2.2.2.2.2.2.2.2.2.2.2.2.2.2.2.1 hS
  have hsize : H.size = E.2.2.1 + Z.1 := by
    have := hr.2.2.2.2
    simp only at hlow this
    omega
  have hM := zk_met l E hok hpl hav hcal
  have hrecv := zk_recv hR hb h9 hbz
  rw [hcls] at hrecv
  have hrun := va_runV (p := p) (l := l) (e := e) (R := R) (s := s) (m := m) (args := args) (below := below) (meth := meth) (c := c) (H := H) (locs := locs) (cells := cells) (slots := slots) (g := F0 m pc ls (((As.reverse ++ .ref b :: st)).map (zk_tr E))) (b := zk_ad E b) (As := As.map (zk_tr E)) (rest := st.map (zk_tr E)) (nL := mt.2.2.1)
    ⟨hC.1, hC.2.1, hC.2.2.2.2.1, hC.2.2.2.2.2.1, hC.2.2.2.2.2.2.1⟩ hM (cwV n hC.2.2.2.2.2.2.1 (zk_goodV hcd hlk hin hsel hini) rfl rfl rfl ⟨rfl, hy⟩ ⟨Nat.le_trans hd hr.1, by
      have := hr.2.1
      show 8 + (mt2.2.2.1 + 11) + 60 * d2 ≤ R.locals
      omega⟩) ⟨zk_blind, hrecv, zk_pre (av := .ref b :: As) hC.2.2.2.2.2.2.2.2.2 hR hS hsize⟩ rfl (by rw [List.length_map]; exact hn) hlv.1 (by simp [zk_tr]) (by rw [zk_cat]; exact Nat.le_trans (by show 2 * 0 + _ ≤ _; omega) h8) hdd ⟨by have := hr.2.2.1; omega, by have := hr.2.2.2.1; omega⟩
  refine zk_behind hrun hS fun H1 locs1 hR1 hS1 => ?_
  rw [zk_toList]
  exact k E p l e R s m args below meth c H1 locs1 (cells + dc1) (slots + ds1) Q ls hC hR1 hS1 hlv ⟨hr.1, hr.2.1, by have := hr.2.2.1; omega, by have := hr.2.2.2.1; omega, by have := hr.2.2.2.2; simp only at this; omega⟩ (fun pc' ls' H' locs' g1 g2 g3 => by
    rw [Nat.add_assoc, Nat.add_assoc]
    exact hk pc' ls' H' locs' g1 g2 g3)
def zk_LVS (own : String) (idx : Nat) (mt2 : zk_Mt) (n : Nat) : Prop := zk_LB mt2 n ∧ Cond.methodLink own idx mt2.1 ∈ zk_tbl ∧ Cond.instanceMethod mt2.1 ∈ zk_tbl ∧ Cond.selects mt2.1.cls mt2.1 mt2.1 ∈ zk_tbl ∧ mt2.1.cls = "java/lang/String"
theorem c_callVS {Z : zk_Z} {I : zk_I} {J : zk_J} {idx n i : Nat} (h : zk_at mt pc = some (.invokevirtual idx, npc, tg)) (hl : zk_LVS mt.1.cls idx mt2 n) (hi : i < 10) (hst : stk = As.reverse ++ .ref (1010 + i) :: st) (hn : As.length = n) (hav : (zk_flat (.ref (1010 + i) :: As)).length ≤ mt2.2.2.1) (hd : d2 + 1 ≤ d) (h8 : (st.map fun v => v.category).sum ≤ 8) (hM1 : M1.1.1 = Z.1 + dc1) (hdc : dc = dc1 + dc2) (hds : ds = ds1 + ds2)
    (hcal : zC X d2 mt2 0 (zk_ent (.ref (1010 + i) :: As) mt2.2.2.1) [] (Z, I, J) dc1 ds1 rv1 M1) (k : zC X d mt npc L (rv1.toList ++ st) M1 dc2 ds2 rv M') : zC X d mt pc L stk (Z, I, J) dc ds rv M' := by
  intro E p l e R s m args below meth c H locs cells slots Q ls hC hR hS hlv hr hk
  obtain ⟨hn3, hdd⟩ := zk_d hC.2.2.1 h rfl
  subst hn3; subst hst; subst hdc; subst hds
  obtain ⟨⟨hok, hpl, hml, hcd, hini, hy⟩, hlk, hin, hsel, hcls⟩ := hl
  refine W.zsz fun hsz => ?_
  have hlow := zk_low hR hC.2.2.2.2.2.2.2.2.2.2.2.2.2.2.2.2.1 hS
  have hsize : H.size = E.2.2.1 + Z.1 := by
    have := hr.2.2.2.2
    simp only at hlow this
    omega
  have hM := zk_met l E hok hpl hav hcal
  have hrecv := vk_recv (i := i) hC.2.2.2.2.2.2.2.2.2.2.2.2.2.2.1 hi hS
  rw [← hcls] at hrecv
  have e8 : zk_ad E (1010 + i) = E.2.2.2 (1010 + i) := if_neg (by omega)
  have hrun := va_runV (p := p) (l := l) (e := e) (R := R) (s := s) (m := m) (args := args) (below := below) (meth := meth) (c := c) (H := H) (locs := locs) (cells := cells) (slots := slots) (g := F0 m pc ls (((As.reverse ++ .ref (1010 + i) :: st)).map (zk_tr E))) (b := E.2.2.2 (1010 + i)) (As := As.map (zk_tr E)) (rest := st.map (zk_tr E)) (nL := mt.2.2.1)
    ⟨hC.1, hC.2.1, hC.2.2.2.2.1, hC.2.2.2.2.2.1, hC.2.2.2.2.2.2.1⟩ hM (cwV n hC.2.2.2.2.2.2.1 (zk_goodV hcd hlk hin hsel hini) rfl rfl rfl ⟨rfl, hy⟩ ⟨Nat.le_trans hd hr.1, by
      have := hr.2.1
      show 8 + (mt2.2.2.1 + 11) + 60 * d2 ≤ R.locals
      omega⟩) ⟨zk_blind, hrecv, by have := zk_pre (av := .ref (1010 + i) :: As) hC.2.2.2.2.2.2.2.2.2 hR hS hsize; simp only [List.map_cons, zk_tr, e8] at this ⊢; exact this⟩ rfl (by rw [List.length_map]; exact hn) hlv.1 (by simp [zk_tr, e8]) (by rw [zk_cat]; exact Nat.le_trans (by show 2 * 0 + _ ≤ _; omega) h8) hdd ⟨by have := hr.2.2.1; omega, by have := hr.2.2.2.1; omega⟩
  refine zk_behind hrun hS fun H1 locs1 hR1 hS1 => ?_
  rw [zk_toList]
  exact k E p l e R s m args below meth c H1 locs1 (cells + dc1) (slots + ds1) Q ls hC hR1 hS1 hlv ⟨hr.1, hr.2.1, by have := hr.2.2.1; omega, by have := hr.2.2.2.1; omega, by have := hr.2.2.2.2; simp only at this; omega⟩ (fun pc' ls' H' locs' g1 g2 g3 => by
    rw [Nat.add_assoc, Nat.add_assoc]
    exact hk pc' ls' H' locs' g1 g2 g3)
def zk_LS (own : String) (idx : Nat) (mt2 : zk_Mt) (n : Nat) : Prop := zk_LB mt2 n ∧ Cond.methodLink own idx mt2.1 ∈ zk_tbl ∧ Cond.static mt2.1 ∈ zk_tbl
def zk_LSN (own : String) (idx : Nat) (mt2 : zk_Mt) (n : Nat) : Prop := zk_LB mt2 n ∧ (∃ host : String, (own, idx, mt2.1, host) ∈ zk_nest) ∧ Cond.static mt2.1 ∈ zk_tbl
def zk_LI (own : String) (idx : Nat) (mt2 : zk_Mt) (n : Nat) : Prop := zk_LB mt2 n ∧ Cond.methodLink own idx mt2.1 ∈ zk_tbl ∧ Cond.instanceMethod mt2.1 ∈ zk_tbl ∧ mt2.1.name = "<init>" ∧ mt2.2.2.2.1 = none
def zk_LIN (own : String) (idx : Nat) (mt2 : zk_Mt) (n : Nat) : Prop := zk_LB mt2 n ∧ (∃ host : String, (own, idx, mt2.1, host) ∈ zk_nest) ∧ Cond.instanceMethod mt2.1 ∈ zk_tbl ∧ mt2.1.name = "<init>" ∧ mt2.2.2.2.1 = none
theorem zk_goodS {own : String} {idx : Nat} {mt2 : zk_Mt} (hc : Cond.code mt2.1 mt2.2.1 mt2.2.2.1 mt2.2.2.2.1 ∈ zk_tbl) (h1 : Cond.methodLink own idx mt2.1 ∈ zk_tbl) (h2 : Cond.static mt2.1 ∈ zk_tbl) (h4 : Cond.initialized mt2.1.cls ∈ zk_tbl) : GoodIn zk_tbl (va_wsS own idx mt2.1 (zk_w mt2)) := by
  intro w hw
  have hm : w ∈ zk_tbl := by
    rcases List.mem_append.mp hw with hw | hw
    · simp only [List.mem_cons, List.not_mem_nil, or_false] at hw
      rcases hw with rfl | rfl | rfl
      · exact h1
      · exact h2
      · exact h4
    · exact (zk_goodIn hc w hw).1
  exact ⟨hm, zk_tbl_good hm⟩
theorem c_callS {Z : zk_Z} {I : zk_I} {J : zk_J} {idx n : Nat} (h : zk_at mt pc = some (.invokestatic idx, npc, tg)) (hl : zk_LS mt.1.cls idx mt2 n) (hst : stk = As.reverse ++ st) (hn : As.length = n) (hav : (zk_flat (As)).length ≤ mt2.2.2.1) (hd : d2 + 1 ≤ d) (h8 : (st.map fun v => v.category).sum ≤ 8) (hM1 : M1.1.1 = Z.1 + dc1) (hdc : dc = dc1 + dc2) (hds : ds = ds1 + ds2)
    (hcal : zC X d2 mt2 0 (zk_ent (As) mt2.2.2.1) [] (Z, I, J) dc1 ds1 rv1 M1) (k : zC X d mt npc L (rv1.toList ++ st) M1 dc2 ds2 rv M') : zC X d mt pc L stk (Z, I, J) dc ds rv M' := by
  intro E p l e R s m args below meth c H locs cells slots Q ls hC hR hS hlv hr hk
  obtain ⟨hn3, hdd⟩ := zk_d hC.2.2.1 h rfl
  subst hn3; subst hst; subst hdc; subst hds
  obtain ⟨⟨hok, hpl, hml, hcd, hini, hy⟩, hlk, hin⟩ := hl
  refine W.zsz fun hsz => ?_
  have hlow := zk_low hR hC.2.2.2.2.2.2.2.2.2.2.2.2.2.2.2.2.1 hS
  have hsize : H.size = E.2.2.1 + Z.1 := by
    have := hr.2.2.2.2
    simp only at hlow this
    omega
  have hM := zk_met l E hok hpl hav hcal
  have hrm : (zk_rm d2 dc1 ds1).frames + 1 ≤ R.frames ∧ 8 + (mt2.2.2.1 + 11) + (zk_rm d2 dc1 ds1).locals ≤ R.locals := ⟨Nat.le_trans hd hr.1, by
    have := hr.2.1
    show 8 + (mt2.2.2.1 + 11) + 60 * d2 ≤ R.locals
    omega⟩
  have hrun := va_runS (p := p) (l := l) (e := e) (R := R) (s := s) (m := m) (args := args) (below := below) (meth := meth) (c := c) (H := H) (locs := locs) (cells := cells) (slots := slots) (g := F0 m pc ls (((As.reverse ++ st)).map (zk_tr E))) (As := As.map (zk_tr E)) (rest := st.map (zk_tr E)) (nL := mt.2.2.1)
    ⟨hC.1, hC.2.1, hC.2.2.2.2.1, hC.2.2.2.2.2.1, hC.2.2.2.2.2.2.1⟩ hM (va_cwS n hC.2.2.2.2.2.2.1 (zk_goodS hcd hlk hin hini) rfl rfl rfl hy hrm) ⟨zk_blind, zk_pre (av := As) hC.2.2.2.2.2.2.2.2.2 hR hS hsize⟩ rfl (by rw [List.length_map]; exact hn) hlv.1 (by simp [zk_tr]) (by rw [zk_cat]; exact Nat.le_trans (by show 2 * 0 + _ ≤ _; omega) h8) hdd ⟨by have := hr.2.2.1; omega, by have := hr.2.2.2.1; omega⟩
  refine zk_behind hrun hS fun H1 locs1 hR1 hS1 => ?_
  rw [zk_toList]
  exact k E p l e R s m args below meth c H1 locs1 (cells + dc1) (slots + ds1) Q ls hC hR1 hS1 hlv ⟨hr.1, hr.2.1, by have := hr.2.2.1; omega, by have := hr.2.2.2.1; omega, by have := hr.2.2.2.2; simp only at this; omega⟩ (fun pc' ls' H' locs' g1 g2 g3 => by
    rw [Nat.add_assoc, Nat.add_assoc]
    exact hk pc' ls' H' locs' g1 g2 g3)
theorem c_callSN {Z : zk_Z} {I : zk_I} {J : zk_J} {idx n : Nat} (h : zk_at mt pc = some (.invokestatic idx, npc, tg)) (hl : zk_LSN mt.1.cls idx mt2 n) (hst : stk = As.reverse ++ st) (hn : As.length = n) (hav : (zk_flat (As)).length ≤ mt2.2.2.1) (hd : d2 + 1 ≤ d) (h8 : (st.map fun v => v.category).sum ≤ 8) (hM1 : M1.1.1 = Z.1 + dc1) (hdc : dc = dc1 + dc2) (hds : ds = ds1 + ds2)
    (hcal : zC X d2 mt2 0 (zk_ent (As) mt2.2.2.1) [] (Z, I, J) dc1 ds1 rv1 M1) (k : zC X d mt npc L (rv1.toList ++ st) M1 dc2 ds2 rv M') : zC X d mt pc L stk (Z, I, J) dc ds rv M' := by
  intro E p l e R s m args below meth c H locs cells slots Q ls hC hR hS hlv hr hk
  obtain ⟨hn3, hdd⟩ := zk_d hC.2.2.1 h rfl
  subst hn3; subst hst; subst hdc; subst hds
  obtain ⟨⟨hok, hpl, hml, hcd, hini, hy⟩, ⟨host, hlk⟩, hin⟩ := hl
  have hnw : ∀ host, (mt.1.cls, idx, mt2.1, host) ∈ zk_nest → va_Nw (.methodLinkNest mt.1.cls idx mt2.1 host) s := fun host hh => hC.2.2.2.2.2.2.2.2.2.2.2.2.2.2.2.2.2.1 _ hh
  refine W.zsz fun hsz => ?_
  have hlow := zk_low hR hC.2.2.2.2.2.2.2.2.2.2.2.2.2.2.2.2.1 hS
  have hsize : H.size = E.2.2.1 + Z.1 := by
    have := hr.2.2.2.2
    simp only at hlow this
    omega
  have hM := zk_met l E hok hpl hav hcal
  have hrm : (zk_rm d2 dc1 ds1).frames + 1 ≤ R.frames ∧ 8 + (mt2.2.2.1 + 11) + (zk_rm d2 dc1 ds1).locals ≤ R.locals := ⟨Nat.le_trans hd hr.1, by
    have := hr.2.1
    show 8 + (mt2.2.2.1 + 11) + 60 * d2 ≤ R.locals
    omega⟩
  have hrun := va_runSN (p := p) (l := l) (e := e) (R := R) (s := s) (m := m) (args := args) (below := below) (meth := meth) (c := c) (H := H) (locs := locs) (cells := cells) (slots := slots) (g := F0 m pc ls (((As.reverse ++ st)).map (zk_tr E))) (As := As.map (zk_tr E)) (rest := st.map (zk_tr E)) (nL := mt.2.2.1)
    ⟨hC.1, hC.2.1, hC.2.2.2.2.1, hC.2.2.2.2.2.1, hC.2.2.2.2.2.2.1⟩ hM ⟨va_cnB n hC.2.2.2.2.2.2.1 (zk_goodIn hcd) rfl rfl rfl (hnw host hlk) (hC.2.2.2.2.2.2.1 _ hini) hy hrm, hC.2.2.2.2.2.2.1 _ hin, trivial⟩ ⟨zk_blind, zk_pre (av := As) hC.2.2.2.2.2.2.2.2.2 hR hS hsize⟩ rfl (by rw [List.length_map]; exact hn) hlv.1 (by simp [zk_tr]) (by rw [zk_cat]; exact Nat.le_trans (by show 2 * 0 + _ ≤ _; omega) h8) hdd ⟨by have := hr.2.2.1; omega, by have := hr.2.2.2.1; omega⟩
  refine zk_behind hrun hS fun H1 locs1 hR1 hS1 => ?_
  rw [zk_toList]
  exact k E p l e R s m args below meth c H1 locs1 (cells + dc1) (slots + ds1) Q ls hC hR1 hS1 hlv ⟨hr.1, hr.2.1, by have := hr.2.2.1; omega, by have := hr.2.2.2.1; omega, by have := hr.2.2.2.2; simp only at this; omega⟩ (fun pc' ls' H' locs' g1 g2 g3 => by
    rw [Nat.add_assoc, Nat.add_assoc]
    exact hk pc' ls' H' locs' g1 g2 g3)
theorem c_callI {Z : zk_Z} {I : zk_I} {J : zk_J} {idx n b : Nat} (h : zk_at mt pc = some (.invokespecial idx, npc, tg)) (hl : zk_LI mt.1.cls idx mt2 n) (hst : stk = As.reverse ++ .ref b :: st) (hn : As.length = n) (hav : (zk_flat (.ref b :: As)).length ≤ mt2.2.2.1) (hd : d2 + 1 ≤ d) (h8 : (st.map fun v => v.category).sum ≤ 8) (hM1 : M1.1.1 = Z.1 + dc1) (hdc : dc = dc1 + dc2) (hds : ds = ds1 + ds2)
    (hcal : zC X d2 mt2 0 (zk_ent (.ref b :: As) mt2.2.2.1) [] (Z, I, J) dc1 ds1 rv1 M1) (k : zC X d mt npc L (rv1.toList ++ st) M1 dc2 ds2 rv M') : zC X d mt pc L stk (Z, I, J) dc ds rv M' := by
  intro E p l e R s m args below meth c H locs cells slots Q ls hC hR hS hlv hr hk
  obtain ⟨hn3, hdd⟩ := zk_d hC.2.2.1 h rfl
  subst hn3; subst hst; subst hdc; subst hds
  obtain ⟨⟨hok, hpl, hml, hcd, hini, hy⟩, hlk, hin, hnm, hno⟩ := hl
  refine W.zsz fun hsz => ?_
  have hlow := zk_low hR hC.2.2.2.2.2.2.2.2.2.2.2.2.2.2.2.2.1 hS
  have hsize : H.size = E.2.2.1 + Z.1 := by
    have := hr.2.2.2.2
    simp only at hlow this
    omega
  have hM := zk_met l E hok hpl hav hcal
  have hrm : (zk_rm d2 dc1 ds1).frames + 1 ≤ R.frames ∧ 8 + (mt2.2.2.1 + 11) + (zk_rm d2 dc1 ds1).locals ≤ R.locals := ⟨Nat.le_trans hd hr.1, by
    have := hr.2.1
    show 8 + (mt2.2.2.1 + 11) + 60 * d2 ≤ R.locals
    omega⟩
  have hrun := va_runI (p := p) (l := l) (e := e) (R := R) (s := s) (m := m) (args := args) (below := below) (meth := meth) (c := c) (H := H) (locs := locs) (cells := cells) (slots := slots) (g := F0 m pc ls (((As.reverse ++ .ref b :: st)).map (zk_tr E))) (b := zk_ad E b) (As := As.map (zk_tr E)) (rest := st.map (zk_tr E)) (nL := mt.2.2.1)
    ⟨hC.1, hC.2.1, hC.2.2.2.2.1, hC.2.2.2.2.2.1, hC.2.2.2.2.2.2.1⟩ hM (cwI n hC.2.2.2.2.2.2.1 (zk_goodIn hcd) (by rw [zk_w, hno]) rfl rfl (hC.2.2.2.2.2.2.1 _ hini) (hC.2.2.2.2.2.2.1 _ hlk) (hC.2.2.2.2.2.2.1 _ hin) hnm hy hrm) ⟨zk_blind, zk_pre (av := .ref b :: As) hC.2.2.2.2.2.2.2.2.2 hR hS hsize⟩ rfl (by rw [List.length_map]; exact hn) hlv.1 (by simp [zk_tr]) (by rw [zk_cat]; exact Nat.le_trans (by show 2 * 0 + _ ≤ _; omega) h8) hdd ⟨by have := hr.2.2.1; omega, by have := hr.2.2.2.1; omega⟩
  refine zk_behind hrun hS fun H1 locs1 hR1 hS1 => ?_
  rw [zk_toList]
  exact k E p l e R s m args below meth c H1 locs1 (cells + dc1) (slots + ds1) Q ls hC hR1 hS1 hlv ⟨hr.1, hr.2.1, by have := hr.2.2.1; omega, by have := hr.2.2.2.1; omega, by have := hr.2.2.2.2; simp only at this; omega⟩ (fun pc' ls' H' locs' g1 g2 g3 => by
    rw [Nat.add_assoc, Nat.add_assoc]
    exact hk pc' ls' H' locs' g1 g2 g3)
theorem c_callIN {Z : zk_Z} {I : zk_I} {J : zk_J} {idx n b : Nat} (h : zk_at mt pc = some (.invokespecial idx, npc, tg)) (hl : zk_LIN mt.1.cls idx mt2 n) (hst : stk = As.reverse ++ .ref b :: st) (hn : As.length = n) (hav : (zk_flat (.ref b :: As)).length ≤ mt2.2.2.1) (hd : d2 + 1 ≤ d) (h8 : (st.map fun v => v.category).sum ≤ 8) (hM1 : M1.1.1 = Z.1 + dc1) (hdc : dc = dc1 + dc2) (hds : ds = ds1 + ds2)
    (hcal : zC X d2 mt2 0 (zk_ent (.ref b :: As) mt2.2.2.1) [] (Z, I, J) dc1 ds1 rv1 M1) (k : zC X d mt npc L (rv1.toList ++ st) M1 dc2 ds2 rv M') : zC X d mt pc L stk (Z, I, J) dc ds rv M' := by
  intro E p l e R s m args below meth c H locs cells slots Q ls hC hR hS hlv hr hk
  obtain ⟨hn3, hdd⟩ := zk_d hC.2.2.1 h rfl
  subst hn3; subst hst; subst hdc; subst hds
  obtain ⟨⟨hok, hpl, hml, hcd, hini, hy⟩, ⟨host, hlk⟩, hin, hnm, hno⟩ := hl
  have hnw : ∀ host, (mt.1.cls, idx, mt2.1, host) ∈ zk_nest → va_Nw (.methodLinkNest mt.1.cls idx mt2.1 host) s := fun host hh => hC.2.2.2.2.2.2.2.2.2.2.2.2.2.2.2.2.2.1 _ hh
  refine W.zsz fun hsz => ?_
  have hlow := zk_low hR hC.2.2.2.2.2.2.2.2.2.2.2.2.2.2.2.2.1 hS
  have hsize : H.size = E.2.2.1 + Z.1 := by
    have := hr.2.2.2.2
    simp only at hlow this
    omega
  have hM := zk_met l E hok hpl hav hcal
  have hrm : (zk_rm d2 dc1 ds1).frames + 1 ≤ R.frames ∧ 8 + (mt2.2.2.1 + 11) + (zk_rm d2 dc1 ds1).locals ≤ R.locals := ⟨Nat.le_trans hd hr.1, by
    have := hr.2.1
    show 8 + (mt2.2.2.1 + 11) + 60 * d2 ≤ R.locals
    omega⟩
  have hrun := va_runIN (p := p) (l := l) (e := e) (R := R) (s := s) (m := m) (args := args) (below := below) (meth := meth) (c := c) (H := H) (locs := locs) (cells := cells) (slots := slots) (g := F0 m pc ls (((As.reverse ++ .ref b :: st)).map (zk_tr E))) (b := zk_ad E b) (As := As.map (zk_tr E)) (rest := st.map (zk_tr E)) (nL := mt.2.2.1)
    ⟨hC.1, hC.2.1, hC.2.2.2.2.1, hC.2.2.2.2.2.1, hC.2.2.2.2.2.2.1⟩ hM ⟨by have := va_cnB (R := R) (args := args) (rm := zk_rm d2 dc1 ds1) (mc := dc1) (ms := ds1) n hC.2.2.2.2.2.2.1 (zk_goodIn hcd) rfl rfl rfl (hnw host hlk) (hC.2.2.2.2.2.2.1 _ hini) hy hrm; rw [hno] at this; exact this, hnm, hC.2.2.2.2.2.2.1 _ hin⟩ ⟨zk_blind, zk_pre (av := .ref b :: As) hC.2.2.2.2.2.2.2.2.2 hR hS hsize⟩ rfl (by rw [List.length_map]; exact hn) hlv.1 (by simp [zk_tr]) (by rw [zk_cat]; exact Nat.le_trans (by show 2 * 0 + _ ≤ _; omega) h8) hdd ⟨by have := hr.2.2.1; omega, by have := hr.2.2.2.1; omega⟩
  refine zk_behind hrun hS fun H1 locs1 hR1 hS1 => ?_
  rw [zk_toList]
  exact k E p l e R s m args below meth c H1 locs1 (cells + dc1) (slots + ds1) Q ls hC hR1 hS1 hlv ⟨hr.1, hr.2.1, by have := hr.2.2.1; omega, by have := hr.2.2.2.1; omega, by have := hr.2.2.2.2; simp only at this; omega⟩ (fun pc' ls' H' locs' g1 g2 g3 => by
    rw [Nat.add_assoc, Nat.add_assoc]
    exact hk pc' ls' H' locs' g1 g2 g3)
theorem c_objInit {idx b : Nat} (h : zk_at mt pc = some (.invokespecial idx, npc, tg)) (hw : Cond.methodLink mt.1.cls idx Lib.objectInit ∈ zk_tbl) (hw2 : Cond.instanceMethod Lib.objectInit ∈ zk_tbl) (hw3 : Cond.code Lib.objectInit ⟨#[0xb1]⟩ 1 none ∈ zk_tbl) (hd : 1 ≤ d) (h8 : (st.map fun v => v.category).sum ≤ 8) (k : zC X d mt npc L st M dc ds rv M') : zC X d mt pc L (.ref b :: st) M dc ds rv M' := by
  intro E p l e R s m args below meth c H locs cells slots Q ls hC hR hS hlv hr hk
  obtain ⟨hn3, hdd⟩ := zk_d hC.2.2.1 h rfl
  subst hn3
  refine W.objInit (a := zk_ad E b) (rest := st.map (zk_tr E)) hC.1 hC.2.1 hC.2.2.2.2.2.1 (hC.2.2.2.2.2.2.1 _ hw) (hC.2.2.2.2.2.2.1 _ hw2) (hC.2.2.2.2.2.2.1 _ hw3) rfl (by rw [hC.2.2.2.2.1]; exact hlv.1) rfl hdd (Nat.le_trans hd hr.1) ?_ (k E p l e R s m args below meth c H locs cells slots Q ls hC hR hS hlv hr hk)
  rw [zk_cat]
  have := hr.2.1
  show 2 * 0 + _ + 12 ≤ _
  omega
end ZCALL

/-! calls -/
theorem zk_Xt.mv {X : zk_X} {E : zk_E} {u U : State} {H : Heap} (ha : u.vm.Alike U.vm) (hr : ∀ (o : String) (k : Nat) (t : String) (a : Nat), vk_R o k t a u → vk_R o k t a U) (hn : ∀ (a : String) (i : Nat) (x : MethodName) (b : String), va_Nw (.methodLinkNest a i x b) u → va_Nw (.methodLinkNest a i x b) U) (h : zk_Xt X E u H) : zk_Xt X E U H := by
  obtain ⟨⟨a1, a2⟩, ⟨b1, b2⟩, ⟨c1, c2⟩, d1, e1, f1, g1, h1, i1, j1⟩ := h
  exact ⟨⟨a1.moved ha, a2⟩, ⟨b1.moved ha, b2.moved ha⟩, ⟨c1.moved ha, c2.moved ha⟩, d1.imp (fun q => q.moved ha) (fun q => q.moved ha), e1.moved ha, f1.moved ha, fun i hi => hr _ _ _ _ (g1 i hi), h1, fun q hq => hn _ _ _ _ (i1 q hq), j1.moved ha⟩
theorem zk_Xt.warm {X : zk_X} {E : zk_E} {u U : State} {H : Heap} (hW : u.WarmedH U.vm) (h : zk_Xt X E u H) : zk_Xt X E U H :=
  h.mv hW.alike (fun _ _ _ _ q => vk_R.warm hW q) (fun _ _ _ _ q => va_Nw.warmM hW q)
theorem zk_Xt.same {X : zk_X} {E : zk_E} {u U : State} {H : Heap} (hv : U.vm = u.vm) (h : zk_Xt X E u H) : zk_Xt X E U H :=
  h.mv (by rw [hv]; exact Vm.Alike.refl u.vm) (fun _ _ _ _ q => vk_R.same hv q) (fun _ _ _ _ q => va_Nw.same rfl hv.symm q)
theorem zk_Xt.kept {X : zk_X} {E : zk_E} {U : State} {H H1 : Heap} (hz : H.size ≤ H1.size) (hq : ∀ q : Nat, q < H.size → ¬ zk_A E q → H1[q]? = H[q]?) (h : zk_Xt X E U H) : zk_Xt X E U H1 := by
  obtain ⟨⟨a1, a2⟩, ⟨b1, b2⟩, ⟨c1, c2⟩, d1, e1, f1, g1, h1, i1, j1⟩ := h
  refine ⟨⟨a1.kept (hq _ (Nat.lt_of_lt_of_le a2 h1) (show ¬ E.2.2.1 ≤ E.2.2.2 1000 by omega)), a2⟩, ⟨b1.kept hq, b2.kept hq⟩, ⟨c1.kept hq, c2.kept hq⟩, d1.imp (fun q => q.kept hq) (fun q => q.kept hq), e1.kept hq, f1.kept hq, g1, Nat.le_trans h1 hz, i1, j1⟩
theorem zk_R.mv {E : zk_E} {M : zk_M} {u U : State} {H : Heap} (ha : u.vm.Alike U.vm) (h : zk_R E M u H) : zk_R E M U H := ⟨h.1, va_K.moved ha h.2.1, h.2.2⟩
/-- the size, out of the world below and the room above -/
theorem zk_low {E : zk_E} {M : zk_M} {s : State} {H : Heap} {locs : List Loc} (hR : zk_R E M s H) (hb : E.2.2.1 ≤ s.heap.size) (hS : va_S (zk_A E) s.heap H locs) : E.2.2.1 + M.1.1 ≤ H.size := by
  cases hn : M.1.1 with
  | zero => have := hS.1; omega
  | succ n =>
    have h1 := (hR.1 n _ (zk_ws_at (E := E) (M := M) (c := n) (by omega))).lt
    have h2 := hR.2.2
    simp only [zk_ad, if_pos (show n < 1000 by omega)] at h1
    omega
theorem W.zsz {p : Program} {l : Launch} {e : Env} {R : Room} {s : State} {m : MethodId} {args : Array Value} {below : List Frame} {meth : Method} {c : Code} {H : Heap} {locs : List Loc} {cells slots : Nat} {Q : State → Prop} {g : JFrame}
    (k : H.size ≤ s.heap.size + cells → W p l e R s m args below meth c H locs cells slots Q g) : W p l e R s m args below meth c H locs cells slots Q g := fun T hT Xs => k (by rw [← hT]; exact Xs.heapSize) T hT Xs
def zk_w (mt : zk_Mt) : List Cond := Cond.code mt.1 mt.2.1 mt.2.2.1 mt.2.2.2.1 :: zk_tbl
def zk_rm (d dc ds : Nat) : Room := { frames := d, cells := dc, slots := ds, locals := 60 * d }
def zk_P (X : zk_X) (E : zk_E) (M : zk_M) : State → Prop := fun U => zk_R E M U U.heap ∧ zk_Xt X E U U.heap ∧ U.heap.size = E.2.2.1 + M.1.1
def zk_Q (E : zk_E) (rv : Option Value) (M' : zk_M) : Array Value → State → Outcome → State → Prop := fun _ st oc t => oc = .returned (rv.map (zk_tr E)) ∧ zk_R E M' t t.heap ∧ va_F (zk_A E) st t
def zk_flat (av : List Value) : List (Option Value) := av.flatMap fun v => if v.category = 2 then [some v, none] else [some v]
def zk_ent (av : List Value) (n : Nat) : List (Option Value) := zk_flat av ++ List.replicate (n - (zk_flat av).length) none
theorem zk_flat_at (E : zk_E) : ∀ (av : List Value) (k i : Nat) (v : Value), (zk_flat av)[i]? = some (some v) → (k + i, zk_tr E v) ∈ lv_args k (av.map (zk_tr E))
  | [], _, _, _, h => by simp [zk_flat] at h
  | w :: t, k, i, v, h => by
    simp only [zk_flat, List.flatMap_cons] at h
    simp only [List.map_cons, lv_args, zk_tr_cat]
    by_cases hc : w.category = 2
    · rw [if_pos hc] at h
      rw [if_pos hc]
      match i, h with
      | 0, h =>
        simp at h
        subst h
        exact List.mem_cons_self
      | 1, h => simp at h
      | i + 2, h =>
        have h' : (zk_flat t)[i]? = some (some v) := by simpa [zk_flat] using h
        have := zk_flat_at E t (k + 2) i v h'
        rw [show k + (i + 2) = k + 2 + i by omega]
        exact List.mem_cons_of_mem _ this
    · rw [if_neg hc] at h
      rw [if_neg hc]
      match i, h with
      | 0, h =>
        simp at h
        subst h
        exact List.mem_cons_self
      | i + 1, h =>
        have h' : (zk_flat t)[i]? = some (some v) := by simpa [zk_flat] using h
        have := zk_flat_at E t (k + 1) i v h'
        rw [show k + (i + 1) = k + 1 + i by omega]
        exact List.mem_cons_of_mem _ this
theorem zk_sl_len (E : zk_E) : ∀ av : List Value, (lg_sl (av.map (zk_tr E))).length = (zk_flat av).length
  | [] => rfl
  | w :: t => by
    have ih := zk_sl_len E t
    simp only [lg_sl, zk_flat, List.map_cons, List.flatMap_cons, zk_tr_cat, List.length_append] at ih ⊢
    rw [ih]
    by_cases hc : w.category = 2
    · simp [hc]
    · simp [hc]
theorem zk_lv_ent {E : zk_E} {av : List Value} {n : Nat} (h : (zk_flat av).length ≤ n) : zk_lv E n ((lg_sl (av.map (zk_tr E)) ++ List.replicate (n - (lg_sl (av.map (zk_tr E))).length) Slot.unset).toArray) (zk_ent av n) := by
  have hl := lv_entry (av.map (zk_tr E)) (n := n) (by rw [zk_sl_len]; exact h)
  refine ⟨hl.1, hl.2.1, fun i v hi => ?_⟩
  have hlt : i < (zk_flat av).length := by
    apply Nat.lt_of_not_le
    intro hge
    rw [zk_ent, List.getElem?_append_right hge] at hi
    have := List.mem_of_getElem? hi
    rw [List.mem_replicate] at this
    cases this.2
  rw [zk_ent, List.getElem?_append_left hlt] at hi
  have := zk_flat_at E av 0 i v hi
  rw [Nat.zero_add] at this
  exact hl.2.2 _ this
theorem zk_met {X : zk_X} {d : Nat} {mt : zk_Mt} {av : List Value} {M : zk_M} {dc ds : Nat} {rv : Option Value} {M' : zk_M} (l : Launch) (E : zk_E) (hok : zk_ok mt) (hpl : plainName mt.1.cls = true) (hav : (zk_flat av).length ≤ mt.2.2.1) (h : zC X d mt 0 (zk_ent av mt.2.2.1) [] M dc ds rv M') :
    Met l mt.1 (zk_w mt) (zk_rm d dc ds) (va_Pc (av.map (zk_tr E)) (zk_P X E M)) (zk_Q E rv M') dc ds (zk_A E) := by
  refine Met.ofW (cc := mt.2.1) (maxL := mt.2.2.1) (ret := mt.2.2.2.1) hpl rfl ?_
  intro p e s m args below meth c s₁ B hml hv
  obtain ⟨rfl, hR, hX, hz⟩ := hv
  have hts := atoms_spec (ws := zk_w mt) B.pre
  have hown : s.vm.findClass mt.1.cls = some m.cls := findClass_of_methodNamed B.named
  have hname : meth.name = mt.1.name := (name_of_methodNamed B.named B.method).1
  have hC : zk_Cx X E mt p s m (av.map (zk_tr E)).toArray meth c := ⟨B.exec, B.bytes, hok, B.returns, hml, hown, fun w hw => hts w (List.mem_cons_of_mem _ hw), B.notSynchronized, fun h9 => hname.trans h9, hX⟩
  rw [lg_entry_eq]
  refine W.cs (cells' := 0) (slots' := 0) rfl rfl ?_
  have hlocks := B.notSynchronized
  refine h E p l e _ s m _ below meth c s.heap [] 0 0 _ _ hC hR va_S.rf (zk_lv_ent hav) ⟨Nat.le_refl _, Nat.le_refl _, by show 0 + dc ≤ dc; omega, by show 0 + ds ≤ ds; omega, by rw [hz]; rfl⟩ ?_
  intro pc' ls' H' locs' hret hR' hS'
  refine W.cs (cells' := dc) (slots' := ds) (Nat.zero_add _) (Nat.zero_add _) ?_
  rcases hret with ⟨rfl, hty, hdec⟩ | ⟨v, ty, rfl, hty, hn, hdec⟩ | ⟨v, rfl, hty, hdec⟩
  · exact W.vret B.exec B.bytes (B.returns.trans hty) (fun t ht hW => ⟨rfl, by rw [ht]; exact hR'.mv hW.alike, hS'.F ht⟩) hS'.2.2 hdec
  · exact W.zret B.exec B.bytes (B.returns.trans hty) hn (fun t ht hW => ⟨rfl, by rw [ht]; exact hR'.mv hW.alike, hS'.F ht⟩) hS'.2.2 hdec
  · exact W.lret B.exec B.bytes (B.returns.trans hty) (fun t ht hW => ⟨rfl, by rw [ht]; exact hR'.mv hW.alike, hS'.F ht⟩) hS'.2.2 hdec

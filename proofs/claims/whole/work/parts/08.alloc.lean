/-! making cells, references written, arraycopy -/
def zk_new (Z : zk_Z) (k len : Nat) : zk_Z := (Z.1 + 1, (fun a => if a = Z.1 then (k, len) else Z.2.1 a), (fun a => if a = Z.1 then (fun _ => none) else Z.2.2 a))
theorem zk_ce_old {E : zk_E} {Z : zk_Z} {I I2 : zk_I} {J J2 : zk_J} {k len a : Nat} (h : ¬ a = Z.1) (hI : I2 a = I a) (hJ : J2 a = J a) : zk_ce E (zk_new Z k len, I2, J2) a = zk_ce E (Z, I, J) a := by
  simp only [zk_ce, zk_fs, zk_new, if_neg h, hI, hJ]
  have : zk_fv E (zk_new Z k len, I2, J2) a = zk_fv E (Z, I, J) a := by
    funext j b
    simp only [zk_fv, zk_new, if_neg h, hI]
  simp only [zk_new] at this
  rw [this]
theorem zk_ws_new {E : zk_E} {Z : zk_Z} {I I2 : zk_I} {J J2 : zk_J} {k len : Nat} (hI : ∀ a, a < Z.1 → I2 a = I a) (hJ : ∀ a, a < Z.1 → J2 a = J a) : zk_ws E (zk_new Z k len, I2, J2) = zk_ws E (Z, I, J) ++ [(zk_ad E Z.1, zk_ce E (zk_new Z k len, I2, J2) Z.1)] := by
  show (List.range (Z.1 + 1)).map _ = _
  rw [List.range_succ, List.map_append]
  congr 1
  apply List.map_congr_left
  intro a ha
  have ha := List.mem_range.mp ha
  rw [zk_ce_old (by omega) (hI a ha) (hJ a ha)]
section ZAL
variable {X : zk_X} {d pc npc tg : Nat} {mt : zk_Mt} {L : List (Option Value)} {st : List Value} {Z : zk_Z} {I : zk_I} {J : zk_J} {M' : zk_M} {dc ds : Nat} {rv : Option Value}
/-- one more cell: what both rows below need -/
theorem zk_grow {E : zk_E} {s : State} {H H1 : Heap} {locs : List Loc} {I2 : zk_I} {J2 : zk_J} {k len : Nat} (hR : zk_R E (Z, I, J) s H) (hS : va_S (zk_A E) s.heap H locs) (hz : H.size = E.2.2.1 + Z.1) (h1000 : Z.1 + 1 ≤ 1000) (z1 : H1.size = H.size + 1) (o1 : ∀ q, q < H.size → H1[q]? = H[q]?) (hI : ∀ a, a < Z.1 → I2 a = I a) (hJ : ∀ a, a < Z.1 → J2 a = J a) (hnew : va_at E.1 zk_cl (zk_ad E Z.1, zk_ce E (zk_new Z k len, I2, J2) Z.1) H1) : zk_R E (zk_new Z k len, I2, J2) s H1 ∧ va_S (zk_A E) s.heap H1 locs := by
  refine ⟨⟨?_, hR.2.1, h1000⟩, Nat.le_trans hS.1 (by omega), fun x h1 h2 => (o1 x (Nat.lt_of_lt_of_le h1 hS.1)).trans (hS.2.1 x h1 h2), hS.2.2⟩
  rw [zk_ws_new hI hJ]
  refine va_P.app (hR.1.kept (fun k x hx => o1 x.1 (hR.1 k x hx).lt)) (fun k x hx => ?_)
  have hk : k < 1 := (List.getElem?_eq_some_iff.mp hx).1
  rw [show k = 0 by omega] at hx
  cases hx
  exact hnew
theorem zk_ad_n {E : zk_E} {n : Nat} (h : n < 1000) : zk_ad E n = E.2.2.1 + n := if_pos h
theorem zk_size {E : zk_E} {mt : zk_Mt} {p : Program} {s : State} {m : MethodId} {args : Array Value} {meth : Method} {c : Code} {H : Heap} {locs : List Loc} {cells : Nat} (hC : zk_Cx X E mt p s m args meth c) (hR : zk_R E (Z, I, J) s H) (hS : va_S (zk_A E) s.heap H locs) (hq : s.heap.size + cells = E.2.2.1 + Z.1) (hsz : H.size ≤ s.heap.size + cells) : H.size = E.2.2.1 + Z.1 := by
  have hlow := zk_low hR hC.2.2.2.2.2.2.2.2.2.2.2.2.2.2.2.2.1 hS
  simp only at hlow
  omega
def zk_LN (own : String) (idx ci : Nat) : Prop := ci < 9 ∧ Cond.classLink own idx (zk_r ci).1 ∈ zk_tbl ∧ Cond.instantiable (zk_r ci).1 (zk_r ci).2.2 ∈ zk_tbl ∧ Cond.initialized (zk_r ci).1 ∈ zk_tbl
theorem zk_dflt : ∀ k, k < 9 → ∀ j, j < 24 → j < (zk_r k).2.2 → defaultValue (zk_y k j) = (if (zk_ft k).getD j false then Value.null else Value.int 0) := by decide +kernel
theorem c_new {idx ci : Nat} (h : zk_at mt pc = some (.new idx, npc, tg)) (hl : zk_LN mt.1.cls idx ci) (h1000 : Z.1 + 1 ≤ 1000) (k : zC X d mt npc L (.ref Z.1 :: st) (zk_new Z ci 0, zk_sc I Z.1 (fun _ => 0), J) dc ds rv M') : zC X d mt pc L st (Z, I, J) (dc + 1) (ds + (zk_r ci).2.2) rv M' := by
  intro E p l e R s m args below meth c H locs cells slots Q ls hC hR hS hlv hr hk
  obtain ⟨hn3, hdd⟩ := zk_d hC.2.2.1 h rfl
  subst hn3
  obtain ⟨h9, w1, w2, w3⟩ := hl
  refine W.zsz fun hsz => ?_
  have hsize := zk_size hC hR hS hr.2.2.2.2 hsz
  have hKn := hR.2.1.1 ci _ (zk_r_at h9)
  refine W.newcK hC.1 hC.2.1 hC.2.2.2.2.2.1 (hC.2.2.2.2.2.2.1 _ w1) (hC.2.2.2.2.2.2.1 _ w2) (hC.2.2.2.2.2.2.1 _ w3) rfl hdd (by have := hr.2.2.1; omega) (by have := hr.2.2.2.1; omega) hKn.2.1 rfl fun H1 kC hkC e1 z1 o1 => ?_
  have hce : zk_ce E (zk_new Z ci 0, zk_sc I Z.1 (fun _ => 0), J) Z.1 = .inr (ci, zk_fs E (zk_new Z ci 0, zk_sc I Z.1 (fun _ => 0), J) ci Z.1) := zk_ce_o (by simp [zk_new]) h9
  obtain ⟨g1, g2⟩ := zk_grow (I2 := zk_sc I Z.1 (fun _ => 0)) (J2 := J) (k := ci) (len := 0) hR hS hsize h1000 z1 o1 (fun a ha => zk_sc_n I _ (by omega)) (fun _ _ => rfl) (by
    rw [hce, zk_ad_n (by omega), ← hsize]
    refine ⟨_, zk_r_at h9, (u_born (zk_y ci) hC.2.2.2.2.2.2.1 (zk_r_in h9) hKn hkC e1 (zk_r_ty h9)).to fun j hj => ?_⟩
    rw [zk_dflt ci h9 j (Nat.lt_of_lt_of_le hj (zk_n24 ci h9)) hj]
    have hj2 : j < (zk_ft ci).length := by rw [zk_ft_len ci h9]; exact hj
    have hj3 : (zk_ft ci)[j]? = some (zk_ft ci)[j] := List.getElem?_eq_getElem hj2
    simp only [vp_V, List.getD_eq_getElem?_getD, zk_fs_at hj3, hj3, Option.getD_some]
    cases (zk_ft ci)[j]
    · simp [zk_fv, zk_sc]
    · simp [zk_fv, zk_new, va_rf])
  have kk := k E p l e R s m args below meth c H1 locs (cells + 1) (slots + (zk_r ci).2.2) Q ls hC g1 g2 hlv ⟨hr.1, hr.2.1, by have := hr.2.2.1; omega, by have := hr.2.2.2.1; omega, by have := hr.2.2.2.2; simp only [zk_new] at this ⊢; omega⟩ (fun pc' ls' H' locs' q1 q2 q3 => by
    rw [show cells + 1 + dc = cells + (dc + 1) by omega, show slots + (zk_r ci).2.2 + ds = slots + (ds + (zk_r ci).2.2) by omega]
    exact hk pc' ls' H' locs' q1 q2 q3)
  simp only [List.map_cons, zk_tr, zk_ad_n (E := E) (show Z.1 < 1000 by omega), ← hsize] at kk
  exact kk
/-- kinds of rows that are made -/
def zk_at4 : Nat → ArrayType
  | 20 => .int
  | 21 => .long
  | 22 => .boolean
  | _ => .char
theorem c_newa {q : Nat} {at4 : ArrayType} {n : Int32} {N : Nat} (h : zk_at mt pc = some (.newarray at4, npc, tg)) (hq : q = 20 ∨ q = 21 ∨ q = 22 ∨ q = 23) (ha : zk_at4 q = at4) (hw : Cond.arrayClass (newarray.typeOf at4) ∈ zk_tbl) (hn : ¬ n < 0) (hN : n.toNatClampNeg = N) (hb : N ≤ 100000) (h1000 : Z.1 + 1 ≤ 1000) (k : zC X d mt npc L (.ref Z.1 :: st) (zk_new Z q N, zk_sc I Z.1 (fun _ => 0), zk_sj J Z.1 (fun _ => 0)) dc ds rv M') : zC X d mt pc L (.int n :: st) (Z, I, J) (dc + 1) (ds + N) rv M' := by
  intro E p l e R s m args below meth c H locs cells slots Q ls hC hR hS hlv hr hk
  obtain ⟨hn3, hdd⟩ := zk_d hC.2.2.1 h rfl
  subst hn3
  refine W.zsz fun hsz => ?_
  have hsize := zk_size hC hR hS hr.2.2.2.2 hsz
  refine va_newaK hC.1 hC.2.1 (hC.2.2.2.2.2.2.1 _ hw) rfl hdd rfl hn hN (by subst ha; rcases hq with rfl | rfl | rfl | rfl <;> simp only [zk_at4, newarray.typeOf, componentBytes] <;> omega) (by have := hr.2.2.1; omega) (by have := hr.2.2.2.1; omega) rfl fun H1 cA e1 z1 o1 hAr hNm => ?_
  obtain ⟨g1, g2⟩ := zk_grow (I2 := zk_sc I Z.1 (fun _ => 0)) (J2 := zk_sj J Z.1 (fun _ => 0)) (k := q) (len := N) hR hS hsize h1000 z1 o1 (fun a ha => zk_sc_n I _ (by omega)) (fun a ha => zk_sj_n J _ (by omega)) (by
    rw [zk_ad_n (by omega), ← hsize]
    have hS2 : (zk_new Z q N).2.1 Z.1 = (q, N) := by simp [zk_new]
    subst ha
    rcases hq with rfl | rfl | rfl | rfl
    · rw [zk_ce_20 hS2, show E.2.1 0 = cA from Option.some.inj ((hR.2.1.2 0 _ rfl).2.symm.trans hNm), zk_sc_s]
      exact e1
    · rw [zk_ce_21 hS2, show E.2.1 1 = cA from Option.some.inj ((hR.2.1.2 1 _ rfl).2.symm.trans hNm), zk_sj_s]
      exact e1
    · rw [zk_ce_22 hS2, show E.2.1 2 = cA from Option.some.inj ((hR.2.1.2 2 _ rfl).2.symm.trans hNm), zk_sc_s]
      exact e1
    · rw [zk_ce_23 hS2, show E.2.1 3 = cA from Option.some.inj ((hR.2.1.2 3 _ rfl).2.symm.trans hNm), zk_sc_s]
      exact e1)
  have kk := k E p l e R s m args below meth c H1 locs (cells + 1) (slots + N) Q ls hC g1 g2 hlv ⟨hr.1, hr.2.1, by have := hr.2.2.1; omega, by have := hr.2.2.2.1; omega, by have := hr.2.2.2.2; simp only [zk_new] at this ⊢; omega⟩ (fun pc' ls' H' locs' q1 q2 q3 => by
    rw [show cells + 1 + dc = cells + (dc + 1) by omega, show slots + N + ds = slots + (ds + N) by omega]
    exact hk pc' ls' H' locs' q1 q2 q3)
  simp only [List.map_cons, zk_tr, zk_ad_n (E := E) (show Z.1 < 1000 by omega), ← hsize] at kk
  exact kk
theorem c_anew {idx : Nat} {n : Int32} {N : Nat} (h : zk_at mt pc = some (.anewarray idx, npc, tg)) (hw : Cond.classLink mt.1.cls idx "NamedNext$Days" ∈ zk_tbl) (hn : ¬ n < 0) (hN : n.toNatClampNeg = N) (hb : N ≤ 100000) (h1000 : Z.1 + 1 ≤ 1000) (k : zC X d mt npc L (.ref Z.1 :: st) (zk_new Z 24 N, zk_sc I Z.1 (fun _ => 0), J) dc ds rv M') : zC X d mt pc L (.int n :: st) (Z, I, J) (dc + 1) (ds + N) rv M' := by
  intro E p l e R s m args below meth c H locs cells slots Q ls hC hR hS hlv hr hk
  obtain ⟨hn3, hdd⟩ := zk_d hC.2.2.1 h rfl
  subst hn3
  refine W.zsz fun hsz => ?_
  have hsize := zk_size hC hR hS hr.2.2.2.2 hsz
  have hAO := hC.2.2.2.2.2.2.2.2.2.2.2.2.2.2.2.2.2.2
  subst hN
  refine W.anew hC.1 hC.2.1 hC.2.2.2.2.2.1 (hC.2.2.2.2.2.2.1 _ hw) (va_AO.use hAO) rfl hdd rfl hn (by omega) (by have := hr.2.2.1; omega) (by have := hr.2.2.2.1; omega) fun cA kA comp f1 f2 f3 f4 => ?_
  generalize hH1 : H.push ({ cls := cA, slots := Array.replicate n.toNatClampNeg .null, vm := .none } : Cell) = H1
  have z1 : H1.size = H.size + 1 := by rw [← hH1, Array.size_push]
  have e1 : H1[H.size]? = some (arrV cA n.toNatClampNeg (fun _ => .null)) := by rw [← hH1, Array.getElem?_push_size, ← arrV_new]
  have o1 : ∀ q : Nat, q < H.size → H1[q]? = H[q]? := fun q hq => by rw [← hH1, Array.getElem?_push, if_neg (Nat.ne_of_lt hq)]
  have hcA : E.2.1 4 = cA := by
    obtain ⟨_, _, -, -, -, q4⟩ := (hR.2.1.2 4 _ rfl).2
    exact Option.some.inj (q4.symm.trans f1)
  obtain ⟨g1, g2⟩ := zk_grow (I2 := zk_sc I Z.1 (fun _ => 0)) (J2 := J) (k := 24) (len := n.toNatClampNeg) hR hS hsize h1000 z1 o1 (fun a ha => zk_sc_n I _ (by omega)) (fun _ _ => rfl) (by
    rw [zk_ad_n (by omega), ← hsize, zk_ce_24 (show (zk_new Z 24 n.toNatClampNeg).2.1 Z.1 = (24, n.toNatClampNeg) by simp [zk_new]), hcA]
    show H1[H.size]? = some (vp_cell _ _)
    rw [vp_cell_q, e1]
    congr 2
    funext j
    simp [zk_new, va_rf])
  have kk := k E p l e R s m args below meth c H1 locs (cells + 1) (slots + n.toNatClampNeg) Q ls hC g1 g2 hlv ⟨hr.1, hr.2.1, by have := hr.2.2.1; omega, by have := hr.2.2.2.1; omega, by have := hr.2.2.2.2; simp only [zk_new] at this ⊢; omega⟩ (fun pc' ls' H' locs' q1 q2 q3 => by
    rw [show cells + 1 + dc = cells + (dc + 1) by omega, show slots + n.toNatClampNeg + ds = slots + (ds + n.toNatClampNeg) by omega]
    exact hk pc' ls' H' locs' q1 q2 q3)
  simp only [List.map_cons, zk_tr, zk_ad_n (E := E) (show Z.1 < 1000 by omega), ← hsize] at kk
  exact kk
/-- references written -/
def zk_zr (Z : zk_Z) (c : Nat) (f : Nat → Option Nat) : zk_Z := (Z.1, Z.2.1, zk_sr Z.2.2 c f)
theorem zk_ce_zr {E : zk_E} {a c : Nat} {f : Nat → Option Nat} (h : ¬ a = c) : zk_ce E (zk_zr Z c f, I, J) a = zk_ce E (Z, I, J) a := by
  simp only [zk_ce, zk_fs, zk_zr, zk_sr_n _ _ h]
  have : zk_fv E ((Z.1, Z.2.1, zk_sr Z.2.2 c f), I, J) a = zk_fv E (Z, I, J) a := by
    funext j b
    simp only [zk_fv, zk_sr_n _ _ h]
  rw [this]
theorem c_aast {n a b : Nat} {i : Int32} (h : zk_at mt pc = some (.aastore, npc, tg)) (ha : Z.2.1 a = (24, n)) (hz : a < Z.1) (hi : zk_in i n = true) (hb : (Z.2.1 b).1 = 1) (hbz : b < Z.1) (k : zC X d mt npc L st (zk_zr Z a (va_up (Z.2.2 a) i.toNatClampNeg (some b)), I, J) dc ds rv M') : zC X d mt pc L (.ref b :: .int i :: .ref a :: st) (Z, I, J) dc ds rv M' := by
  intro E p l e R s m args below meth c H locs cells slots Q ls hC hR hS hl hr hk
  obtain ⟨hn, hd⟩ := zk_d hC.2.2.1 h rfl
  subst hn
  have hce : zk_ce E (zk_zr Z a (va_up (Z.2.2 a) i.toNatClampNeg (some b)), I, J) a = .inl (E.2.1 4, n, .inr (.inr (.inr (.inr (va_up (fun j => (Z.2.2 a j).map (zk_ad E)) i.toNatClampNeg (some (zk_ad E b))))))) := by
    rw [zk_ce_24 (Z := zk_zr Z a (va_up (Z.2.2 a) i.toNatClampNeg (some b))) ha]
    have : (fun j => ((zk_zr Z a (va_up (Z.2.2 a) i.toNatClampNeg (some b))).2.2 a j).map (zk_ad E)) = va_up (fun j => (Z.2.2 a j).map (zk_ad E)) i.toNatClampNeg (some (zk_ad E b)) := by
      funext j
      simp only [zk_zr, zk_sr_s, va_up]
      by_cases hj : j = i.toNatClampNeg
      · simp [hj]
      · simp [hj]
    rw [this]
  have hset := zk_ws_set (E := E) (M := (Z, I, J)) (M2 := (zk_zr Z a (va_up (Z.2.2 a) i.toNatClampNeg (some b)), I, J)) (c := a) rfl hce (fun q hq => zk_ce_zr hq)
  refine va_astq (D := E.1) (a := zk_ad E a) (r := zk_r 1) (v := zk_ad E b) hC.1 hC.2.1 hR.2.1 hR.1 (zk_D hR.2.2) hS a 4 b 1 ((zk_ws_at (M := (Z, I, J)) hz).trans (by rw [zk_ce_24 ha])) rfl ((zk_ws_at (M := (Z, I, J)) hbz).trans (by rw [zk_ce_o hb (by decide)])) rfl (zk_in_vp hi) hd (fun H1 locs1 hP1 hD1 hS1 => ?_)
  rw [hset] at hP1
  exact k E p l e R s m args below meth c H1 locs1 cells slots Q ls hC ⟨hP1, hR.2.1, hR.2.2⟩ hS1 hl hr hk
theorem c_putR {idx ci j a b : Nat} (h : zk_at mt pc = some (.putfield idx, npc, tg)) (hf : zk_FL mt.1.cls idx ci j true) (hfin : ((zk_r ci).2.1 j).2.2.2 = true) (hdecl : ((zk_r ci).2.1 j).1 = mt.1.cls) (hin2 : mt.1.name = "<init>") (hnf : ∀ v, narrow (zk_y ci j) (.ref v) = .ref v ∧ fits (zk_y ci j) (.ref v) = true) (ha : (Z.2.1 a).1 = ci) (hz : a < Z.1) (k : zC X d mt npc L st (zk_zr Z a (va_up (Z.2.2 a) j (some b)), I, J) dc ds rv M') : zC X d mt pc L (.ref b :: .ref a :: st) (Z, I, J) dc ds rv M' := by
  intro E p l e R s m args below meth c H locs cells slots Q ls hC hR hS hl hr hk
  obtain ⟨hn, hd⟩ := zk_d hC.2.2.1 h rfl
  subst hn
  obtain ⟨f1, f2, f3, f4⟩ := hf
  have hce : zk_ce E (zk_zr Z a (va_up (Z.2.2 a) j (some b)), I, J) a = .inr (ci, (zk_fs E (Z, I, J) ci a).set j (.ref (zk_ad E b))) := by
    rw [zk_ce_o (M := (zk_zr Z a (va_up (Z.2.2 a) j (some b)), I, J)) ha f1]
    congr 2
    apply List.ext_getElem?
    intro q
    by_cases hq : q = j
    · subst hq
      rw [zk_fs_at f3, List.getElem?_set_self (by rw [zk_fs_len]; exact (List.getElem?_eq_some_iff.mp f3).1)]
      simp [zk_fv, zk_zr, zk_sr, va_up, va_rf]
    · rw [List.getElem?_set_ne (Ne.symm hq)]
      simp only [zk_fs, List.getElem?_mapIdx]
      cases (zk_ft ci)[q]? with
      | none => rfl
      | some r =>
        cases r
        · simp [zk_fv]
        · simp [zk_fv, zk_zr, zk_sr, va_up, hq]
  have hset := zk_ws_set (E := E) (M := (Z, I, J)) (M2 := (zk_zr Z a (va_up (Z.2.2 a) j (some b)), I, J)) (c := a) rfl hce (fun q hq => zk_ce_zr hq)
  refine va_putF (D := E.1) (a := zk_ad E a) (ci := ci) (v := .ref (zk_ad E b)) (ty := zk_y ci j) hC.1 hC.2.1 hC.2.2.2.2.2.2.1 (zk_r_in f1) (zk_y ci) (zk_r_ty f1) (zk_r_nm f1) hC.2.2.2.2.2.1 hR.2.1 hR.1 (zk_D hR.2.2) hS a ((zk_ws_at (M := (Z, I, J)) hz).trans (by rw [zk_ce_o ha f1])) (zk_r_at f1) j f2 (hC.2.2.2.2.2.2.1 _ f4) (fun _ h9 => h9) hfin (hC.2.2.2.2.2.2.2.2.1 hin2) hdecl (zk_r_ty f1 j f2) (hnf _).1 (hnf _).2 (by rw [zk_fs_len]; exact (List.getElem?_eq_some_iff.mp f3).1) hd (fun H1 locs1 hP1 hD1 hS1 => ?_)
  rw [hset] at hP1
  exact k E p l e R s m args below meth c H1 locs1 cells slots Q ls hC ⟨hP1, hR.2.1, hR.2.2⟩ hS1 hl hr hk
theorem zk_nfw : nativeFrameWords "java/lang/System" "arraycopy" 5 ≤ 40 := by decide +kernel
theorem c_copy {idx n0 n1 a0 a : Nat} {sp dp n : Int32} (h : zk_at mt pc = some (.invokestatic idx, npc, tg)) (hw : Cond.methodLink mt.1.cls idx arraycopyName ∈ zk_tbl) (w2 : Cond.native arraycopyName ∈ zk_tbl) (w3 : Cond.static arraycopyName ∈ zk_tbl) (w4 : Cond.initialized "java/lang/System" ∈ zk_tbl) (ha0 : Z.2.1 a0 = (20, n0)) (ha : Z.2.1 a = (20, n1)) (hz0 : a0 < Z.1) (hz : a < Z.1) (h1 : ¬ sp < 0) (h2 : ¬ dp < 0) (h3 : ¬ n < 0) (h4 : sp.toNatClampNeg + n.toNatClampNeg ≤ n0) (h5 : dp.toNatClampNeg + n.toNatClampNeg ≤ n1) (hd1 : 1 ≤ d) (h8 : (st.map fun v => v.category).sum ≤ 8)
    (k : zC X d mt npc L st (Z, zk_sc I a (va_cpy (I a0) (I a) sp.toNatClampNeg dp.toNatClampNeg n.toNatClampNeg), J) dc ds rv M') : zC X d mt pc L (.int n :: .int dp :: .ref a :: .int sp :: .ref a0 :: st) (Z, I, J) dc ds rv M' := by
  intro E p l e R s m args below meth c H locs cells slots Q ls hC hR hS hl hr hk
  obtain ⟨hn, hd⟩ := zk_d hC.2.2.1 h rfl
  subst hn
  have hset := zk_ws_set (E := E) (M := (Z, I, J)) (M2 := (Z, zk_sc I a (va_cpy (I a0) (I a) sp.toNatClampNeg dp.toNatClampNeg n.toNatClampNeg), J)) (c := a) rfl (zk_ce_20 ha) (fun q hq => zk_ce_off (zk_sc_n I _ hq) rfl)
  rw [zk_sc_s] at hset
  refine va_copyi (D := E.1) (a := zk_ad E a) (a0 := zk_ad E a0) (ty := .int) hC.1 hC.2.1 (hC.2.2.2.2.1.trans hl.1.symm) hC.2.2.2.2.2.1 (hC.2.2.2.2.2.2.1 _ hw) (hC.2.2.2.2.2.2.1 _ w2) (hC.2.2.2.2.2.2.1 _ w3) (hC.2.2.2.2.2.2.1 _ w4) hR.2.1 hR.1 (zk_D hR.2.2) hS a0 a 0 0 ((zk_ws_at (M := (Z, I, J)) hz0).trans (by rw [zk_ce_20 ha0])) ((zk_ws_at (M := (Z, I, J)) hz).trans (by rw [zk_ce_20 ha])) rfl rfl rfl h1 h2 h3 h4 h5 (fun _ _ => rfl) (Nat.le_trans hd1 hr.1) ?_ hd (fun H1 locs1 hP1 hD1 hS1 => ?_)
  · rw [zk_cat]
    have := hr.2.1
    have := zk_nfw
    omega
  · rw [hset] at hP1
    exact k E p l e R s m args below meth c H1 locs1 cells slots Q ls hC ⟨hP1, hR.2.1, hR.2.2⟩ hS1 hl hr hk
end ZAL

/-! the memory's rows -/
def zk_sc (I : zk_I) (c : Nat) (f : Nat → Int32) : zk_I := fun a => if a = c then f else I a
def zk_sj (J : zk_J) (c : Nat) (f : Nat → Int64) : zk_J := fun a => if a = c then f else J a
def zk_sr (R : Nat → Nat → Option Nat) (c : Nat) (f : Nat → Option Nat) : Nat → Nat → Option Nat := fun a => if a = c then f else R a
theorem zk_sc_s (I : zk_I) (c : Nat) (f : Nat → Int32) : zk_sc I c f c = f := by simp [zk_sc]
theorem zk_sc_n (I : zk_I) {c a : Nat} (f : Nat → Int32) (h : ¬ a = c) : zk_sc I c f a = I a := by simp [zk_sc, h]
theorem zk_sj_s (J : zk_J) (c : Nat) (f : Nat → Int64) : zk_sj J c f c = f := by simp [zk_sj]
theorem zk_sj_n (J : zk_J) {c a : Nat} (f : Nat → Int64) (h : ¬ a = c) : zk_sj J c f a = J a := by simp [zk_sj, h]
theorem zk_sr_s (R : Nat → Nat → Option Nat) (c : Nat) (f : Nat → Option Nat) : zk_sr R c f c = f := by simp [zk_sr]
theorem zk_sr_n (R : Nat → Nat → Option Nat) {c a : Nat} (f : Nat → Option Nat) (h : ¬ a = c) : zk_sr R c f a = R a := by simp [zk_sr, h]
def zk_in (i : Int32) (n : Nat) : Bool := decide (0 ≤ i) && Nat.blt i.toNatClampNeg n
theorem zk_in_vp {i : Int32} {n : Nat} (h : zk_in i n = true) : vp_in i n := by
  simp only [zk_in, Bool.and_eq_true, decide_eq_true_eq] at h
  have h2 : i.toNatClampNeg < n := Nat.le_of_ble_eq_true h.2
  rintro (q | q)
  · exact absurd h.1 (Int32.not_le.mpr q)
  · omega
def zk_r (k : Nat) : vw_C := zk_cl.getD k ("", fun _ => ("", "", "", false), 0)
def zk_y (k : Nat) : Nat → FieldType := match k with
  | 0 => zk_y0
  | 1 => zk_y1
  | 2 => zk_y2
  | 3 => zk_y3
  | 4 => zk_y4
  | 5 => zk_y5
  | 6 => zk_y6
  | 7 => zk_y7
  | _ => zk_y8
theorem zk_r_at {k : Nat} (h : k < 9) : zk_cl[k]? = some (zk_r k) := by
  match k, h with
  | 0, _ => rfl
  | 1, _ => rfl
  | 2, _ => rfl
  | 3, _ => rfl
  | 4, _ => rfl
  | 5, _ => rfl
  | 6, _ => rfl
  | 7, _ => rfl
  | 8, _ => rfl
  | k + 9, h => exact absurd h (by omega)
theorem zk_r_in {k : Nat} (h : k < 9) : ∀ w ∈ u_ws (zk_r k).1 (zk_r k).2.1 (zk_r k).2.2, w ∈ zk_tbl := by
  match k, h with
  | 0, _ => exact zk_in0
  | 1, _ => exact zk_in1
  | 2, _ => exact zk_in2
  | 3, _ => exact zk_in3
  | 4, _ => exact zk_in4
  | 5, _ => exact zk_in5
  | 6, _ => exact zk_in6
  | 7, _ => exact zk_in7
  | 8, _ => exact zk_in8
  | k + 9, h => exact absurd h (by omega)
theorem zk_r_ty {k : Nat} (h : k < 9) : ∀ j, j < (zk_r k).2.2 → parseFieldDescriptor ((zk_r k).2.1 j).2.2.1 = some (zk_y k j) := by
  match k, h with
  | 0, _ => exact zk_ty0
  | 1, _ => exact zk_ty1
  | 2, _ => exact zk_ty2
  | 3, _ => exact zk_ty3
  | 4, _ => exact zk_ty4
  | 5, _ => exact zk_ty5
  | 6, _ => exact zk_ty6
  | 7, _ => exact zk_ty7
  | 8, _ => exact zk_ty8
  | k + 9, h => exact absurd h (by omega)
theorem zk_r_nm {k : Nat} (h : k < 9) : ∀ a, a < (zk_r k).2.2 → ∀ b, b < (zk_r k).2.2 → a ≠ b → ((zk_r k).2.1 a).2.1 ≠ ((zk_r k).2.1 b).2.1 := by
  match k, h with
  | 0, _ => exact zk_nm0
  | 1, _ => exact zk_nm1
  | 2, _ => exact zk_nm2
  | 3, _ => exact zk_nm3
  | 4, _ => exact zk_nm4
  | 5, _ => exact zk_nm5
  | 6, _ => exact zk_nm6
  | 7, _ => exact zk_nm7
  | 8, _ => exact zk_nm8
  | k + 9, h => exact absurd h (by omega)
theorem zk_ft_len : ∀ k, k < 9 → (zk_ft k).length = (zk_r k).2.2 := by decide +kernel
theorem zk_ws_at {E : zk_E} {M : zk_M} {c : Nat} (h : c < M.1.1) : (zk_ws E M)[c]? = some (zk_ad E c, zk_ce E M c) := by
  simp [zk_ws, List.getElem?_map, List.getElem?_range h]
theorem zk_ws_len {E : zk_E} {M : zk_M} : (zk_ws E M).length = M.1.1 := by simp [zk_ws]
theorem zk_ws_get {E : zk_E} {M : zk_M} {k : Nat} {q : Nat × va_E} (h : (zk_ws E M)[k]? = some q) : k < M.1.1 ∧ q = (zk_ad E k, zk_ce E M k) := by
  have hl : k < M.1.1 := by have := (List.getElem?_eq_some_iff.mp h).1; rwa [zk_ws_len] at this
  rw [zk_ws_at hl] at h
  exact ⟨hl, (Option.some.inj h).symm⟩
theorem zk_D {E : zk_E} {M : zk_M} (h : M.1.1 ≤ 1000) : va_D (zk_A E) (zk_ws E M) := by
  refine ⟨fun i j p q hi hj hpq => ?_, fun k q hk => ?_⟩
  · obtain ⟨h1, rfl⟩ := zk_ws_get hi
    obtain ⟨h2, rfl⟩ := zk_ws_get hj
    have e : zk_ad E i = zk_ad E j := hpq
    simp only [zk_ad, if_pos (show i < 1000 by omega), if_pos (show j < 1000 by omega)] at e
    omega
  · obtain ⟨h1, rfl⟩ := zk_ws_get hk
    show E.2.2.1 ≤ zk_ad E k
    simp only [zk_ad, if_pos (show k < 1000 by omega)]
    omega
theorem zk_ws_set {E : zk_E} {M M2 : zk_M} {c : Nat} {e : va_E} (hn : M2.1.1 = M.1.1) (he : zk_ce E M2 c = e) (ho : ∀ a, a ≠ c → zk_ce E M2 a = zk_ce E M a) : (zk_ws E M).set c (zk_ad E c, e) = zk_ws E M2 := by
  apply List.ext_getElem?
  intro k
  by_cases hk : k < M.1.1
  · rw [zk_ws_at (by rw [hn]; exact hk)]
    by_cases hkc : k = c
    · subst hkc
      rw [List.getElem?_set_self (by rw [zk_ws_len]; exact hk), he]
    · rw [List.getElem?_set_ne (Ne.symm hkc), zk_ws_at hk, ho k hkc]
  · rw [List.getElem?_eq_none (by rw [List.length_set, zk_ws_len]; omega), List.getElem?_eq_none (by rw [zk_ws_len, hn]; omega)]
theorem zk_ce_o {E : zk_E} {M : zk_M} {c ci : Nat} (hc : (M.1.2.1 c).1 = ci) (h9 : ci < 9) : zk_ce E M c = .inr (ci, zk_fs E M ci c) := by
  subst hc
  simp only [zk_ce]
  rw [if_neg (by omega), if_neg (by omega), if_neg (by omega), if_neg (by omega), if_neg (by omega)]
theorem zk_fs_at {E : zk_E} {M : zk_M} {c ci j : Nat} {b : Bool} (h : (zk_ft ci)[j]? = some b) : (zk_fs E M ci c)[j]? = some (zk_fv E M c j b) := by
  simp [zk_fs, List.getElem?_mapIdx, h]
theorem zk_fs_len {E : zk_E} {M : zk_M} {ci c : Nat} : (zk_fs E M ci c).length = (zk_ft ci).length := by simp [zk_fs]
/-- cells off c look alike -/
theorem zk_ce_off {E : zk_E} {Z : zk_Z} {I I2 : zk_I} {J J2 : zk_J} {a : Nat} (hI : I2 a = I a) (hJ : J2 a = J a) : zk_ce E (Z, I2, J2) a = zk_ce E (Z, I, J) a := by
  simp only [zk_ce, zk_fs, hI, hJ]
  have : zk_fv E (Z, I2, J2) a = zk_fv E (Z, I, J) a := by
    funext j b
    simp only [zk_fv, hI]
  rw [this]
/-- a field's words -/
def zk_FL (own : String) (idx ci j : Nat) (b : Bool) : Prop := ci < 9 ∧ j < (zk_r ci).2.2 ∧ (zk_ft ci)[j]? = some b ∧ Cond.fieldLink own idx ((zk_r ci).2.1 j).1 ((zk_r ci).2.1 j).2.1 ((zk_r ci).2.1 j).2.2.1 ∈ zk_tbl
theorem zk_int : ∀ k, k < 9 → ∀ j, j < 24 → (zk_ft k)[j]? = some false → zk_y k j = .int := by decide +kernel
theorem zk_n24 : ∀ k, k < 9 → (zk_r k).2.2 ≤ 24 := by decide +kernel
section ZM
variable {X : zk_X} {d pc npc tg : Nat} {mt : zk_Mt} {L : List (Option Value)} {st : List Value} {Z : zk_Z} {I : zk_I} {J : zk_J} {M' : zk_M} {dc ds : Nat} {rv : Option Value}
theorem c_getI {idx ci j a : Nat} (h : zk_at mt pc = some (.getfield idx, npc, tg)) (hf : zk_FL mt.1.cls idx ci j false) (ha : (Z.2.1 a).1 = ci) (hz : a < Z.1) (k : zC X d mt npc L (.int (I a j) :: st) (Z, I, J) dc ds rv M') : zC X d mt pc L (.ref a :: st) (Z, I, J) dc ds rv M' := by
  intro E p l e R s m args below meth c H locs cells slots Q ls hC hR hS hl hr hk
  obtain ⟨hn, hd⟩ := zk_d hC.2.2.1 h rfl
  subst hn
  obtain ⟨f1, f2, f3, f4⟩ := hf
  exact va_get (D := E.1) (a := zk_ad E a) (ci := ci) (v := .int (I a j)) hC.1 hC.2.1 hC.2.2.2.2.2.2.1 (zk_r_in f1) hC.2.2.2.2.2.1 hR.2.1 hR.1 a ((zk_ws_at (M := (Z, I, J)) hz).trans (by rw [zk_ce_o ha f1])) (zk_r_at f1) j f2 (hC.2.2.2.2.2.2.1 _ f4) (fun _ h9 => h9) (zk_fs_at f3) hd (k E p l e R s m args below meth c H locs cells slots Q ls hC hR hS hl hr hk)
theorem c_getR {idx ci j a b : Nat} (h : zk_at mt pc = some (.getfield idx, npc, tg)) (hf : zk_FL mt.1.cls idx ci j true) (ha : (Z.2.1 a).1 = ci) (hz : a < Z.1) (hb : Z.2.2 a j = some b) (k : zC X d mt npc L (.ref b :: st) (Z, I, J) dc ds rv M') : zC X d mt pc L (.ref a :: st) (Z, I, J) dc ds rv M' := by
  intro E p l e R s m args below meth c H locs cells slots Q ls hC hR hS hl hr hk
  obtain ⟨hn, hd⟩ := zk_d hC.2.2.1 h rfl
  subst hn
  obtain ⟨f1, f2, f3, f4⟩ := hf
  exact va_get (D := E.1) (a := zk_ad E a) (ci := ci) (v := .ref (zk_ad E b)) hC.1 hC.2.1 hC.2.2.2.2.2.2.1 (zk_r_in f1) hC.2.2.2.2.2.1 hR.2.1 hR.1 a ((zk_ws_at (M := (Z, I, J)) hz).trans (by rw [zk_ce_o ha f1])) (zk_r_at f1) j f2 (hC.2.2.2.2.2.2.1 _ f4) (fun _ h9 => h9) ((zk_fs_at f3).trans (by simp only [zk_fv]; rw [hb]; rfl)) hd (k E p l e R s m args below meth c H locs cells slots Q ls hC hR hS hl hr hk)
theorem c_putI {idx ci j a : Nat} {v : Int32} (h : zk_at mt pc = some (.putfield idx, npc, tg)) (hf : zk_FL mt.1.cls idx ci j false) (hfin : ((zk_r ci).2.1 j).2.2.2 = false) (ha : (Z.2.1 a).1 = ci) (hz : a < Z.1) (k : zC X d mt npc L st (Z, zk_sc I a (upd (I a) j v), J) dc ds rv M') : zC X d mt pc L (.int v :: .ref a :: st) (Z, I, J) dc ds rv M' := by
  intro E p l e R s m args below meth c H locs cells slots Q ls hC hR hS hl hr hk
  obtain ⟨hn, hd⟩ := zk_d hC.2.2.1 h rfl
  subst hn
  obtain ⟨f1, f2, f3, f4⟩ := hf
  have hy : zk_y ci j = .int := zk_int ci f1 j (Nat.lt_of_lt_of_le f2 (zk_n24 ci f1)) f3
  have hce : zk_ce E (Z, zk_sc I a (upd (I a) j v), J) a = .inr (ci, (zk_fs E (Z, I, J) ci a).set j (.int v)) := by
    rw [zk_ce_o (M := (Z, zk_sc I a (upd (I a) j v), J)) ha f1]
    congr 2
    apply List.ext_getElem?
    intro q
    by_cases hq : q = j
    · subst hq
      rw [zk_fs_at f3, List.getElem?_set_self (by rw [zk_fs_len]; exact (List.getElem?_eq_some_iff.mp f3).1)]
      simp [zk_fv, zk_sc, upd]
    · rw [List.getElem?_set_ne (Ne.symm hq)]
      simp only [zk_fs, List.getElem?_mapIdx]
      cases (zk_ft ci)[q]? with
      | none => rfl
      | some b =>
        cases b
        · simp [zk_fv, zk_sc, upd, hq]
        · simp [zk_fv]
  have hset := zk_ws_set (E := E) (M := (Z, I, J)) (M2 := (Z, zk_sc I a (upd (I a) j v), J)) (c := a) rfl hce (fun q hq => zk_ce_off (zk_sc_n I _ hq) rfl)
  refine va_put (D := E.1) (a := zk_ad E a) (ci := ci) (v := .int v) (ty := .int) hC.1 hC.2.1 hC.2.2.2.2.2.2.1 (zk_r_in f1) (zk_y ci) (zk_r_ty f1) (zk_r_nm f1) hC.2.2.2.2.2.1 hR.2.1 hR.1 (zk_D hR.2.2) hS a ((zk_ws_at (M := (Z, I, J)) hz).trans (by rw [zk_ce_o ha f1])) (zk_r_at f1) j f2 (hC.2.2.2.2.2.2.1 _ f4) (fun _ h9 => h9) hfin (by rw [zk_r_ty f1 j f2, hy]) rfl rfl (by rw [zk_fs_len]; exact (List.getElem?_eq_some_iff.mp f3).1) hd (fun H1 locs1 hP1 hD1 hS1 => ?_)
  rw [hset] at hP1
  exact k E p l e R s m args below meth c H1 locs1 cells slots Q ls hC ⟨hP1, hR.2.1, hR.2.2⟩ hS1 hl hr hk
theorem zk_ce_20 {E : zk_E} {n a : Nat} (ha : Z.2.1 a = (20, n)) : zk_ce E (Z, I, J) a = .inl (E.2.1 0, n, .inl (I a)) := by
  simp only [zk_ce, ha]
  first | rfl | (rw [if_pos rfl]) | simp
theorem c_iald {n a : Nat} {i : Int32} (h : zk_at mt pc = some (.iaload, npc, tg)) (ha : Z.2.1 a = (20, n)) (hz : a < Z.1) (hi : zk_in i n = true) (k : zC X d mt npc L (.int (I a i.toNatClampNeg) :: st) (Z, I, J) dc ds rv M') : zC X d mt pc L (.int i :: .ref a :: st) (Z, I, J) dc ds rv M' := by
  intro E p l e R s m args below meth c H locs cells slots Q ls hC hR hS hl hr hk
  obtain ⟨hn, hd⟩ := zk_d hC.2.2.1 h rfl
  subst hn
  exact va_iald (D := E.1) (a := zk_ad E a) hC.1 hC.2.1 hR.2.1 hR.1 a 0 ((zk_ws_at (M := (Z, I, J)) hz).trans (by rw [zk_ce_20 ha])) rfl (zk_in_vp hi) hd (k E p l e R s m args below meth c H locs cells slots Q ls hC hR hS hl hr hk)
theorem c_iast {n a : Nat} {i : Int32} {x : Int32} (h : zk_at mt pc = some (.iastore, npc, tg)) (ha : Z.2.1 a = (20, n)) (hz : a < Z.1) (hi : zk_in i n = true) (k : zC X d mt npc L st (Z, zk_sc I a (upd (I a) i.toNatClampNeg x), J) dc ds rv M') : zC X d mt pc L (.int x :: .int i :: .ref a :: st) (Z, I, J) dc ds rv M' := by
  intro E p l e R s m args below meth c H locs cells slots Q ls hC hR hS hl hr hk
  obtain ⟨hn, hd⟩ := zk_d hC.2.2.1 h rfl
  subst hn
  have hset := zk_ws_set (E := E) (M := (Z, I, J)) (M2 := (Z, zk_sc I a (upd (I a) i.toNatClampNeg x), J)) (c := a) rfl (zk_ce_20 ha) (fun q hq => zk_ce_off (zk_sc_n I _ hq) rfl)
  rw [zk_sc_s] at hset
  refine va_iast (D := E.1) (a := zk_ad E a) hC.1 hC.2.1 hR.2.1 hR.1 (zk_D hR.2.2) hS a 0 ((zk_ws_at (M := (Z, I, J)) hz).trans (by rw [zk_ce_20 ha])) rfl (zk_in_vp hi) hd (fun H1 locs1 hP1 hD1 hS1 => ?_)
  rw [hset] at hP1
  exact k E p l e R s m args below meth c H1 locs1 cells slots Q ls hC ⟨hP1, hR.2.1, hR.2.2⟩ hS1 hl hr hk
theorem zk_ce_21 {E : zk_E} {n a : Nat} (ha : Z.2.1 a = (21, n)) : zk_ce E (Z, I, J) a = .inl (E.2.1 1, n, .inr (.inl (J a))) := by
  simp only [zk_ce, ha]
  first | rfl | (rw [if_neg (by decide), if_pos rfl]) | simp
theorem c_lald {n a : Nat} {i : Int32} (h : zk_at mt pc = some (.laload, npc, tg)) (ha : Z.2.1 a = (21, n)) (hz : a < Z.1) (hi : zk_in i n = true) (k : zC X d mt npc L (.long (J a i.toNatClampNeg) :: st) (Z, I, J) dc ds rv M') : zC X d mt pc L (.int i :: .ref a :: st) (Z, I, J) dc ds rv M' := by
  intro E p l e R s m args below meth c H locs cells slots Q ls hC hR hS hl hr hk
  obtain ⟨hn, hd⟩ := zk_d hC.2.2.1 h rfl
  subst hn
  exact va_lald (D := E.1) (a := zk_ad E a) hC.1 hC.2.1 hR.2.1 hR.1 a 1 ((zk_ws_at (M := (Z, I, J)) hz).trans (by rw [zk_ce_21 ha])) rfl (zk_in_vp hi) hd (k E p l e R s m args below meth c H locs cells slots Q ls hC hR hS hl hr hk)
theorem c_last {n a : Nat} {i : Int32} {x : Int64} (h : zk_at mt pc = some (.lastore, npc, tg)) (ha : Z.2.1 a = (21, n)) (hz : a < Z.1) (hi : zk_in i n = true) (k : zC X d mt npc L st (Z, I, zk_sj J a (vp_updL (J a) i.toNatClampNeg x)) dc ds rv M') : zC X d mt pc L (.long x :: .int i :: .ref a :: st) (Z, I, J) dc ds rv M' := by
  intro E p l e R s m args below meth c H locs cells slots Q ls hC hR hS hl hr hk
  obtain ⟨hn, hd⟩ := zk_d hC.2.2.1 h rfl
  subst hn
  have hset := zk_ws_set (E := E) (M := (Z, I, J)) (M2 := (Z, I, zk_sj J a (vp_updL (J a) i.toNatClampNeg x))) (c := a) rfl (zk_ce_21 ha) (fun q hq => zk_ce_off rfl (zk_sj_n J _ hq))
  rw [zk_sj_s] at hset
  refine va_last (D := E.1) (a := zk_ad E a) hC.1 hC.2.1 hR.2.1 hR.1 (zk_D hR.2.2) hS a 1 ((zk_ws_at (M := (Z, I, J)) hz).trans (by rw [zk_ce_21 ha])) rfl (zk_in_vp hi) hd (fun H1 locs1 hP1 hD1 hS1 => ?_)
  rw [hset] at hP1
  exact k E p l e R s m args below meth c H1 locs1 cells slots Q ls hC ⟨hP1, hR.2.1, hR.2.2⟩ hS1 hl hr hk
theorem zk_ce_22 {E : zk_E} {n a : Nat} (ha : Z.2.1 a = (22, n)) : zk_ce E (Z, I, J) a = .inl (E.2.1 2, n, .inl (I a)) := by
  simp only [zk_ce, ha]
  first | rfl | (rw [if_neg (by decide), if_neg (by decide), if_pos rfl]) | simp
theorem c_zald {n a : Nat} {i : Int32} (h : zk_at mt pc = some (.baload, npc, tg)) (ha : Z.2.1 a = (22, n)) (hz : a < Z.1) (hi : zk_in i n = true) (k : zC X d mt npc L (.int (I a i.toNatClampNeg) :: st) (Z, I, J) dc ds rv M') : zC X d mt pc L (.int i :: .ref a :: st) (Z, I, J) dc ds rv M' := by
  intro E p l e R s m args below meth c H locs cells slots Q ls hC hR hS hl hr hk
  obtain ⟨hn, hd⟩ := zk_d hC.2.2.1 h rfl
  subst hn
  exact va_zald (D := E.1) (a := zk_ad E a) hC.1 hC.2.1 hR.2.1 hR.1 a 2 ((zk_ws_at (M := (Z, I, J)) hz).trans (by rw [zk_ce_22 ha])) rfl (zk_in_vp hi) hd (k E p l e R s m args below meth c H locs cells slots Q ls hC hR hS hl hr hk)
theorem c_zast {n a : Nat} {i : Int32} {x : Int32} (h : zk_at mt pc = some (.bastore, npc, tg)) (ha : Z.2.1 a = (22, n)) (hz : a < Z.1) (hi : zk_in i n = true) (k : zC X d mt npc L st (Z, zk_sc I a (upd (I a) i.toNatClampNeg (vp_nar .boolean x)), J) dc ds rv M') : zC X d mt pc L (.int x :: .int i :: .ref a :: st) (Z, I, J) dc ds rv M' := by
  intro E p l e R s m args below meth c H locs cells slots Q ls hC hR hS hl hr hk
  obtain ⟨hn, hd⟩ := zk_d hC.2.2.1 h rfl
  subst hn
  have hset := zk_ws_set (E := E) (M := (Z, I, J)) (M2 := (Z, zk_sc I a (upd (I a) i.toNatClampNeg (vp_nar .boolean x)), J)) (c := a) rfl (zk_ce_22 ha) (fun q hq => zk_ce_off (zk_sc_n I _ hq) rfl)
  rw [zk_sc_s] at hset
  refine va_zast (D := E.1) (a := zk_ad E a) hC.1 hC.2.1 hR.2.1 hR.1 (zk_D hR.2.2) hS a 2 ((zk_ws_at (M := (Z, I, J)) hz).trans (by rw [zk_ce_22 ha])) rfl (zk_in_vp hi) hd (fun H1 locs1 hP1 hD1 hS1 => ?_)
  rw [hset] at hP1
  exact k E p l e R s m args below meth c H1 locs1 cells slots Q ls hC ⟨hP1, hR.2.1, hR.2.2⟩ hS1 hl hr hk
theorem zk_ce_23 {E : zk_E} {n a : Nat} (ha : Z.2.1 a = (23, n)) : zk_ce E (Z, I, J) a = .inl (E.2.1 3, n, .inl (I a)) := by
  simp only [zk_ce, ha]
  first | rfl | (rw [if_neg (by decide), if_neg (by decide), if_neg (by decide), if_pos rfl]) | simp
theorem c_cald {n a : Nat} {i : Int32} (h : zk_at mt pc = some (.caload, npc, tg)) (ha : Z.2.1 a = (23, n)) (hz : a < Z.1) (hi : zk_in i n = true) (k : zC X d mt npc L (.int (I a i.toNatClampNeg) :: st) (Z, I, J) dc ds rv M') : zC X d mt pc L (.int i :: .ref a :: st) (Z, I, J) dc ds rv M' := by
  intro E p l e R s m args below meth c H locs cells slots Q ls hC hR hS hl hr hk
  obtain ⟨hn, hd⟩ := zk_d hC.2.2.1 h rfl
  subst hn
  exact va_cald (D := E.1) (a := zk_ad E a) hC.1 hC.2.1 hR.2.1 hR.1 a 3 ((zk_ws_at (M := (Z, I, J)) hz).trans (by rw [zk_ce_23 ha])) rfl (zk_in_vp hi) hd (k E p l e R s m args below meth c H locs cells slots Q ls hC hR hS hl hr hk)
theorem c_cast {n a : Nat} {i : Int32} {x : Int32} (h : zk_at mt pc = some (.castore, npc, tg)) (ha : Z.2.1 a = (23, n)) (hz : a < Z.1) (hi : zk_in i n = true) (k : zC X d mt npc L st (Z, zk_sc I a (upd (I a) i.toNatClampNeg (vp_nar .char x)), J) dc ds rv M') : zC X d mt pc L (.int x :: .int i :: .ref a :: st) (Z, I, J) dc ds rv M' := by
  intro E p l e R s m args below meth c H locs cells slots Q ls hC hR hS hl hr hk
  obtain ⟨hn, hd⟩ := zk_d hC.2.2.1 h rfl
  subst hn
  have hset := zk_ws_set (E := E) (M := (Z, I, J)) (M2 := (Z, zk_sc I a (upd (I a) i.toNatClampNeg (vp_nar .char x)), J)) (c := a) rfl (zk_ce_23 ha) (fun q hq => zk_ce_off (zk_sc_n I _ hq) rfl)
  rw [zk_sc_s] at hset
  refine va_cast (D := E.1) (a := zk_ad E a) hC.1 hC.2.1 hR.2.1 hR.1 (zk_D hR.2.2) hS a 3 ((zk_ws_at (M := (Z, I, J)) hz).trans (by rw [zk_ce_23 ha])) rfl (zk_in_vp hi) hd (fun H1 locs1 hP1 hD1 hS1 => ?_)
  rw [hset] at hP1
  exact k E p l e R s m args below meth c H1 locs1 cells slots Q ls hC ⟨hP1, hR.2.1, hR.2.2⟩ hS1 hl hr hk
theorem zk_ce_24 {E : zk_E} {n a : Nat} (ha : Z.2.1 a = (24, n)) : zk_ce E (Z, I, J) a = .inl (E.2.1 4, n, .inr (.inr (.inr (.inr (fun j => (Z.2.2 a j).map (zk_ad E)))))) := by
  simp only [zk_ce, ha]
  first | rfl | simp
theorem c_aald {n a b : Nat} {i : Int32} (h : zk_at mt pc = some (.aaload, npc, tg)) (ha : Z.2.1 a = (24, n)) (hz : a < Z.1) (hi : zk_in i n = true) (hb : Z.2.2 a i.toNatClampNeg = some b) (k : zC X d mt npc L (.ref b :: st) (Z, I, J) dc ds rv M') : zC X d mt pc L (.int i :: .ref a :: st) (Z, I, J) dc ds rv M' := by
  intro E p l e R s m args below meth c H locs cells slots Q ls hC hR hS hl hr hk
  obtain ⟨hn, hd⟩ := zk_d hC.2.2.1 h rfl
  subst hn
  have k' := k E p l e R s m args below meth c H locs cells slots Q ls hC hR hS hl hr hk
  refine va_aldq (D := E.1) (a := zk_ad E a) hC.1 hC.2.1 hR.2.1 hR.1 a 4 ((zk_ws_at (M := (Z, I, J)) hz).trans (by rw [zk_ce_24 ha])) rfl (zk_in_vp hi) hd ?_
  rw [hb]
  exact k'
theorem c_alen {n a q : Nat} {v : Int32} (h : zk_at mt pc = some (.arraylength, npc, tg)) (ha : Z.2.1 a = (q, n)) (h20 : q = 20 ∨ q = 21) (hz : a < Z.1) (hv : Int32.ofNat n = v) (k : zC X d mt npc L (.int v :: st) (Z, I, J) dc ds rv M') : zC X d mt pc L (.ref a :: st) (Z, I, J) dc ds rv M' := by
  intro E p l e R s m args below meth c H locs cells slots Q ls hC hR hS hl hr hk
  obtain ⟨hn, hd⟩ := zk_d hC.2.2.1 h rfl
  subst hn
  rcases h20 with rfl | rfl
  · exact va_alen (D := E.1) (a := zk_ad E a) hC.1 hC.2.1 hR.2.1 hR.1 a 0 ((zk_ws_at (M := (Z, I, J)) hz).trans (by rw [zk_ce_20 ha])) rfl hv hd (k E p l e R s m args below meth c H locs cells slots Q ls hC hR hS hl hr hk)
  · exact va_alen (D := E.1) (a := zk_ad E a) hC.1 hC.2.1 hR.2.1 hR.1 a 1 ((zk_ws_at (M := (Z, I, J)) hz).trans (by rw [zk_ce_21 ha])) rfl hv hd (k E p l e R s m args below meth c H locs cells slots Q ls hC hR hS hl hr hk)
theorem c_ialdX {i : Int32} (h : zk_at mt pc = some (.iaload, npc, tg)) (hi : zk_in i X.1 = true) (k : zC X d mt npc L (.int (X.2 i.toNatClampNeg) :: st) (Z, I, J) dc ds rv M') : zC X d mt pc L (.int i :: .ref 1000 :: st) (Z, I, J) dc ds rv M' := by
  intro E p l e R s m args below meth c H locs cells slots Q ls hC hR hS hl hr hk
  obtain ⟨hn, hd⟩ := zk_d hC.2.2.1 h rfl
  subst hn
  obtain ⟨⟨x1, x2⟩, -, -, -, -, -, -, x3, -⟩ := hC.2.2.2.2.2.2.2.2.2
  exact va_sld hC.1 hC.2.1 x1 (Nat.lt_of_lt_of_le x2 x3) (show ¬ E.2.2.1 ≤ E.2.2.2 1000 by omega) hS (zk_in_vp hi) hd (k E p l e R s m args below meth c H locs cells slots Q ls hC hR hS hl hr hk)
theorem c_alenX {v : Int32} (h : zk_at mt pc = some (.arraylength, npc, tg)) (hv : Int32.ofNat X.1 = v) (k : zC X d mt npc L (.int v :: st) (Z, I, J) dc ds rv M') : zC X d mt pc L (.ref 1000 :: st) (Z, I, J) dc ds rv M' := by
  intro E p l e R s m args below meth c H locs cells slots Q ls hC hR hS hl hr hk
  obtain ⟨hn, hd⟩ := zk_d hC.2.2.1 h rfl
  subst hn
  subst hv
  obtain ⟨⟨x1, x2⟩, -, -, -, -, -, -, x3, -⟩ := hC.2.2.2.2.2.2.2.2.2
  exact va_slen hC.1 hC.2.1 x1 (Nat.lt_of_lt_of_le x2 x3) (show ¬ E.2.2.1 ≤ E.2.2.2 1000 by omega) hS hd (k E p l e R s m args below meth c H locs cells slots Q ls hC hR hS hl hr hk)
theorem c_getsWH {idx : Nat} (h : zk_at mt pc = some (.getstatic idx, npc, tg)) (hw : Cond.fieldLink mt.1.cls idx "NamedNext" "WHAT_HE_IS" "[I" ∈ zk_tbl) (k : zC X d mt npc L (.ref 1001 :: st) (Z, I, J) dc ds rv M') : zC X d mt pc L st (Z, I, J) dc ds rv M' := by
  intro E p l e R s m args below meth c H locs cells slots Q ls hC hR hS hl hr hk
  obtain ⟨hn, hd⟩ := zk_d hC.2.2.1 h rfl
  subst hn
  obtain ⟨-, ⟨x1, -⟩, -⟩ := hC.2.2.2.2.2.2.2.2.2
  exact va_gets hC.1 hC.2.1 x1 hS hC.2.2.2.2.2.1 (hC.2.2.2.2.2.2.1 _ hw) (fun _ h9 => h9) hd (k E p l e R s m args below meth c H locs cells slots Q ls hC hR hS hl hr hk)
theorem c_ialdWH {i : Int32} (h : zk_at mt pc = some (.iaload, npc, tg)) (hi : zk_in i 4 = true) (k : zC X d mt npc L (.int (zk_wh i.toNatClampNeg) :: st) (Z, I, J) dc ds rv M') : zC X d mt pc L (.int i :: .ref 1001 :: st) (Z, I, J) dc ds rv M' := by
  intro E p l e R s m args below meth c H locs cells slots Q ls hC hR hS hl hr hk
  obtain ⟨hn, hd⟩ := zk_d hC.2.2.1 h rfl
  subst hn
  obtain ⟨-, ⟨-, x1⟩, -⟩ := hC.2.2.2.2.2.2.2.2.2
  exact va_ti hC.1 hC.2.1 x1 hS (zk_in_vp hi) rfl hd (k E p l e R s m args below meth c H locs cells slots Q ls hC hR hS hl hr hk)
theorem c_getsLO {idx : Nat} (h : zk_at mt pc = some (.getstatic idx, npc, tg)) (hw : Cond.fieldLink mt.1.cls idx "NamedNext$Rows" "LOTS" "[J" ∈ zk_tbl) (k : zC X d mt npc L (.ref 1002 :: st) (Z, I, J) dc ds rv M') : zC X d mt pc L st (Z, I, J) dc ds rv M' := by
  intro E p l e R s m args below meth c H locs cells slots Q ls hC hR hS hl hr hk
  obtain ⟨hn, hd⟩ := zk_d hC.2.2.1 h rfl
  subst hn
  obtain ⟨-, -, ⟨x1, -⟩, -⟩ := hC.2.2.2.2.2.2.2.2.2
  exact va_gets hC.1 hC.2.1 x1 hS hC.2.2.2.2.2.1 (hC.2.2.2.2.2.2.1 _ hw) (fun _ h9 => h9) hd (k E p l e R s m args below meth c H locs cells slots Q ls hC hR hS hl hr hk)
theorem c_laldLO {i : Int32} (h : zk_at mt pc = some (.laload, npc, tg)) (hi : zk_in i 8 = true) (k : zC X d mt npc L (.long (zk_lots i.toNatClampNeg) :: st) (Z, I, J) dc ds rv M') : zC X d mt pc L (.int i :: .ref 1002 :: st) (Z, I, J) dc ds rv M' := by
  intro E p l e R s m args below meth c H locs cells slots Q ls hC hR hS hl hr hk
  obtain ⟨hn, hd⟩ := zk_d hC.2.2.1 h rfl
  subst hn
  obtain ⟨-, -, ⟨-, x1⟩, -⟩ := hC.2.2.2.2.2.2.2.2.2
  exact va_tl hC.1 hC.2.1 x1 hS (zk_in_vp hi) rfl hd (k E p l e R s m args below meth c H locs cells slots Q ls hC hR hS hl hr hk)
theorem c_alenLO {v : Int32} (h : zk_at mt pc = some (.arraylength, npc, tg)) (hv : Int32.ofNat 8 = v) (k : zC X d mt npc L (.int v :: st) (Z, I, J) dc ds rv M') : zC X d mt pc L (.ref 1002 :: st) (Z, I, J) dc ds rv M' := by
  intro E p l e R s m args below meth c H locs cells slots Q ls hC hR hS hl hr hk
  obtain ⟨hn, hd⟩ := zk_d hC.2.2.1 h rfl
  subst hn
  obtain ⟨-, -, ⟨-, x1⟩, -⟩ := hC.2.2.2.2.2.2.2.2.2
  exact va_tlen hC.1 hC.2.1 x1 hS hv hd (k E p l e R s m args below meth c H locs cells slots Q ls hC hR hS hl hr hk)
theorem c_getsCS {idx : Nat} (h : zk_at mt pc = some (.getstatic idx, npc, tg)) (hw : Cond.fieldLink mt.1.cls idx "java/lang/String" "COMPACT_STRINGS" "Z" ∈ zk_tbl) (k : zC X d mt npc L (.int 1 :: st) (Z, I, J) dc ds rv M') : zC X d mt pc L st (Z, I, J) dc ds rv M' := by
  intro E p l e R s m args below meth c H locs cells slots Q ls hC hR hS hl hr hk
  obtain ⟨hn, hd⟩ := zk_d hC.2.2.1 h rfl
  subst hn
  obtain ⟨-, -, -, -, x1, -⟩ := hC.2.2.2.2.2.2.2.2.2
  exact va_gets hC.1 hC.2.1 x1 hS hC.2.2.2.2.2.1 (hC.2.2.2.2.2.2.1 _ hw) (fun _ h9 => h9) hd (k E p l e R s m args below meth c H locs cells slots Q ls hC hR hS hl hr hk)
theorem c_getsSI {idx : Nat} (h : zk_at mt pc = some (.getstatic idx, npc, tg)) (hw : Cond.fieldLink mt.1.cls idx "jdk/internal/util/Preconditions" "SIOOBE_FORMATTER" "Ljava/util/function/BiFunction;" ∈ zk_tbl) (kn : zC X d mt npc L (.null :: st) (Z, I, J) dc ds rv M') (k : zC X d mt npc L (.ref 1003 :: st) (Z, I, J) dc ds rv M') : zC X d mt pc L st (Z, I, J) dc ds rv M' := by
  intro E p l e R s m args below meth c H locs cells slots Q ls hC hR hS hl hr hk
  obtain ⟨hn, hd⟩ := zk_d hC.2.2.1 h rfl
  subst hn
  obtain ⟨-, -, -, x1, -⟩ := hC.2.2.2.2.2.2.2.2.2
  rcases x1 with x1 | x1
  · exact va_gets hC.1 hC.2.1 x1 hS hC.2.2.2.2.2.1 (hC.2.2.2.2.2.2.1 _ hw) (fun _ h9 => h9) hd (kn E p l e R s m args below meth c H locs cells slots Q ls hC hR hS hl hr hk)
  · exact va_gets hC.1 hC.2.1 x1 hS hC.2.2.2.2.2.1 (hC.2.2.2.2.2.2.1 _ hw) (fun _ h9 => h9) hd (k E p l e R s m args below meth c H locs cells slots Q ls hC hR hS hl hr hk)
theorem c_ldcS {idx i : Nat} (h : zk_at mt pc = some (.ldc idx, npc, tg)) (hm : mt.1.cls = "NamedNext$Clauses") (hi : i < 10) (hx : (zk_sk.getD i (0, "")).1 = idx) (k : zC X d mt npc L (.ref (1010 + i) :: st) (Z, I, J) dc ds rv M') : zC X d mt pc L st (Z, I, J) dc ds rv M' := by
  intro E p l e R s m args below meth c H locs cells slots Q ls hC hR hS hl hr hk
  obtain ⟨hn, hd⟩ := zk_d hC.2.2.1 h rfl
  subst hn
  obtain ⟨-, -, -, -, -, -, x1, -⟩ := hC.2.2.2.2.2.2.2.2.2
  have k' := k E p l e R s m args below meth c H locs cells slots Q ls hC hR hS hl hr hk
  have e8 : zk_ad E (1010 + i) = E.2.2.2 (1010 + i) := if_neg (by omega)
  simp only [List.map_cons, zk_tr, e8] at k'
  subst hx
  exact va_ldcS hC.1 hC.2.1 (by rw [← hm]; exact hC.2.2.2.2.2.1) (x1 i hi) hd k'
theorem c_strV {idx i : Nat} (h : zk_at mt pc = some (.getfield idx, npc, tg)) (hw : Cond.fieldLink mt.1.cls idx "java/lang/String" "value" "[B" ∈ zk_tbl) (hi : i < 10) (k : zC X d mt npc L (.ref (1030 + i) :: st) (Z, I, J) dc ds rv M') : zC X d mt pc L (.ref (1010 + i) :: st) (Z, I, J) dc ds rv M' := by
  intro E p l e R s m args below meth c H locs cells slots Q ls hC hR hS hl hr hk
  obtain ⟨hn, hd⟩ := zk_d hC.2.2.1 h rfl
  subst hn
  obtain ⟨-, -, -, -, -, x1, -⟩ := hC.2.2.2.2.2.2.2.2.2
  have k' := k E p l e R s m args below meth c H locs cells slots Q ls hC hR hS hl hr hk
  have e8 : zk_ad E (1010 + i) = E.2.2.2 (1010 + i) := if_neg (by omega)
  have e2 : zk_ad E (1030 + i) = E.2.2.2 (1030 + i) := if_neg (by omega)
  simp only [List.map_cons, zk_tr, e8, e2] at k' ⊢
  exact vk_getf hC.1 hC.2.1 (x1.1 i hi).2.2.1 hS hC.2.2.2.2.2.1 (hC.2.2.2.2.2.2.1 _ hw) (fun _ h9 => h9) hd k'
theorem c_strC {idx i : Nat} (h : zk_at mt pc = some (.getfield idx, npc, tg)) (hw : Cond.fieldLink mt.1.cls idx "java/lang/String" "coder" "B" ∈ zk_tbl) (hi : i < 10) (k : zC X d mt npc L (.int 0 :: st) (Z, I, J) dc ds rv M') : zC X d mt pc L (.ref (1010 + i) :: st) (Z, I, J) dc ds rv M' := by
  intro E p l e R s m args below meth c H locs cells slots Q ls hC hR hS hl hr hk
  obtain ⟨hn, hd⟩ := zk_d hC.2.2.1 h rfl
  subst hn
  obtain ⟨-, -, -, -, -, x1, -⟩ := hC.2.2.2.2.2.2.2.2.2
  have e8 : zk_ad E (1010 + i) = E.2.2.2 (1010 + i) := if_neg (by omega)
  simp only [List.map_cons, zk_tr, e8]
  exact vk_getf hC.1 hC.2.1 (x1.1 i hi).2.1 hS hC.2.2.2.2.2.1 (hC.2.2.2.2.2.2.1 _ hw) (fun _ h9 => h9) hd (k E p l e R s m args below meth c H locs cells slots Q ls hC hR hS hl hr hk)
theorem c_strB {i : Nat} {j : Int32} (h : zk_at mt pc = some (.baload, npc, tg)) (hi : i < 10) (hj : zk_in j (zk_sl.getD i 0) = true) (k : zC X d mt npc L (.int ((zk_sb.getD i []).getD j.toNatClampNeg 0) :: st) (Z, I, J) dc ds rv M') : zC X d mt pc L (.int j :: .ref (1030 + i) :: st) (Z, I, J) dc ds rv M' := by
  intro E p l e R s m args below meth c H locs cells slots Q ls hC hR hS hl hr hk
  obtain ⟨hn, hd⟩ := zk_d hC.2.2.1 h rfl
  subst hn
  obtain ⟨-, -, -, -, -, x1, -⟩ := hC.2.2.2.2.2.2.2.2.2
  have e2 : zk_ad E (1030 + i) = E.2.2.2 (1030 + i) := if_neg (by omega)
  simp only [List.map_cons, zk_tr, e2]
  exact va_tb hC.1 hC.2.1 (x1.1 i hi).2.2.2 hS (zk_in_vp hj) rfl hd (k E p l e R s m args below meth c H locs cells slots Q ls hC hR hS hl hr hk)
theorem c_strL {i : Nat} {v : Int32} (h : zk_at mt pc = some (.arraylength, npc, tg)) (hi : i < 10) (hv : Int32.ofNat (zk_sl.getD i 0) = v) (k : zC X d mt npc L (.int v :: st) (Z, I, J) dc ds rv M') : zC X d mt pc L (.ref (1030 + i) :: st) (Z, I, J) dc ds rv M' := by
  intro E p l e R s m args below meth c H locs cells slots Q ls hC hR hS hl hr hk
  obtain ⟨hn, hd⟩ := zk_d hC.2.2.1 h rfl
  subst hn
  obtain ⟨-, -, -, -, -, x1, -⟩ := hC.2.2.2.2.2.2.2.2.2
  have e2 : zk_ad E (1030 + i) = E.2.2.2 (1030 + i) := if_neg (by omega)
  simp only [List.map_cons, zk_tr, e2]
  exact va_tlen hC.1 hC.2.1 (x1.1 i hi).2.2.2 hS hv hd (k E p l e R s m args below meth c H locs cells slots Q ls hC hR hS hl hr hk)
end ZM

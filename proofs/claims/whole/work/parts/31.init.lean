/-! the constructors -/
def z_I0 : zk_I := fun _ _ => 0
def z_J0 : zk_J := fun _ _ => 0
def z_As : List (Nat × Nat × Nat) := [(76, 23, 93), (76, 22, 92), (76, 21, 91), (76, 20, 90), (76, 19, 89), (76, 18, 88), (76, 17, 87), (76, 16, 86), (76, 15, 85), (76, 9, 84), (76, 8, 83), (76, 7, 82), (76, 5, 81), (76, 4, 80), (76, 3, 79), (76, 2, 78), (76, 0, 77), (0, 10, 72), (72, 3, 75), (72, 2, 74), (72, 1, 73), (0, 9, 71), (0, 8, 70), (0, 7, 63), (63, 1, 3), (63, 7, 69), (63, 6, 68), (63, 5, 67), (63, 4, 66), (63, 3, 65), (63, 2, 64), (54, 1, 59), (59, 3, 62), (59, 2, 61), (59, 1, 60), (54, 0, 55), (55, 3, 58), (55, 2, 57), (55, 1, 56), (0, 5, 54), (0, 4, 20), (21, 7, 50), (50, 3, 53), (50, 2, 52), (50, 1, 51), (21, 6, 46), (46, 3, 49), (46, 2, 48), (46, 1, 47), (21, 5, 42), (42, 3, 45), (42, 2, 44), (42, 1, 43), (21, 4, 38), (38, 3, 41), (38, 2, 40), (38, 1, 39), (21, 3, 34), (34, 3, 37), (34, 2, 36), (34, 1, 35), (21, 2, 30), (30, 3, 33), (30, 2, 32), (30, 1, 31), (21, 1, 26), (26, 3, 29), (26, 2, 28), (26, 1, 27), (21, 0, 22), (22, 3, 25), (22, 2, 24), (22, 1, 23), (20, 2, 21), (0, 3, 16), (16, 3, 19), (16, 2, 18), (16, 1, 17), (0, 2, 9), (9, 2, 1), (9, 0, 10), (10, 6, 15), (10, 5, 14), (10, 4, 13), (10, 3, 12), (10, 2, 11), (0, 1, 3), (3, 6, 8), (3, 5, 7), (3, 4, 6), (3, 3, 5), (3, 2, 4), (0, 0, 1), (1, 0, 2)]
def z_Rl : List (Nat × Nat × Nat) → Nat → Nat → Option Nat
  | [], _, _ => none
  | q :: t, c, j => bif Nat.beq c q.1 && Nat.beq j q.2.1 then some q.2.2 else z_Rl t c j
def z_Zs (n m : Nat) : zk_Z := (n, (fun c => (z_St.take n).getD c (99, 0)), z_Rl (z_As.drop (94 - m)))
theorem z_I0_s {n : Nat} : zk_sc z_I0 n (fun _ => 0) = z_I0 := by
  funext a j
  simp only [zk_sc, z_I0]
  split <;> rfl
theorem z_J0_s {n : Nat} : zk_sj z_J0 n (fun _ => 0) = z_J0 := by
  funext a j
  simp only [zk_sj, z_J0]
  split <;> rfl
theorem z_Rl_no : ∀ (l : List (Nat × Nat × Nat)) (n : Nat), l.all (fun q => !Nat.beq q.1 n) = true → ∀ j, z_Rl l n j = none
  | [], _, _, _ => rfl
  | q :: t, n, h, j => by
    simp only [List.all_cons, Bool.and_eq_true] at h
    have h1 : Nat.beq n q.1 = false := by
      cases hb : Nat.beq n q.1 with
      | false => rfl
      | true =>
        have e := Nat.eq_of_beq_eq_true hb
        subst e
        rw [Nat.beq_refl] at h
        exact absurd h.1 (by decide)
    simp only [z_Rl, h1, Bool.false_and, cond_false]
    exact z_Rl_no t n h.2 j
theorem zs_new {n m k len : Nat} (h1 : z_St[n]? = some (k, len)) (h2 : (z_As.drop (94 - m)).all (fun q => !Nat.beq q.1 n) = true) : zk_new (z_Zs n m) k len = z_Zs (n + 1) m := by
  have hl : n < z_St.length := (List.getElem?_eq_some_iff.mp h1).1
  simp only [zk_new, z_Zs]
  refine Prod.ext rfl (Prod.ext ?_ ?_)
  · funext c
    simp only [List.getD_eq_getElem?_getD, List.getElem?_take]
    by_cases hc : c = n
    · subst hc
      simp [h1]
    · rw [if_neg hc]
      by_cases h3 : c < n
      · rw [if_pos h3, if_pos (by omega)]
      · rw [if_neg h3, if_neg (by omega)]
  · funext c j
    show (if c = n then (fun _ => (none : Option Nat)) else z_Rl (z_As.drop (94 - m)) c) j = z_Rl (z_As.drop (94 - m)) c j
    by_cases hc : c = n
    · rw [if_pos hc, hc]
      exact (z_Rl_no _ _ h2 j).symm
    · rw [if_neg hc]
theorem zs_put {n m c j b : Nat} (h : z_As[94 - (m + 1)]? = some (c, j, b)) (hm : m + 1 ≤ 94 := by decide) : zk_zr (z_Zs n m) c (va_up ((z_Zs n m).2.2 c) j (some b)) = z_Zs n (m + 1) := by
  have e : z_As.drop (94 - (m + 1)) = (c, j, b) :: z_As.drop (94 - m) := by
    obtain ⟨hl, hg⟩ := List.getElem?_eq_some_iff.mp h
    rw [List.drop_eq_getElem_cons hl, hg]
    congr 2
    omega
  simp only [zk_zr, z_Zs]
  refine Prod.ext rfl (Prod.ext rfl ?_)
  show zk_sr _ c _ = z_Rl (z_As.drop (94 - (m + 1)))
  rw [e]
  funext a i
  simp only [z_Rl, zk_sr]
  by_cases ha : a = c
  · subst ha
    rw [if_pos rfl]
    simp only [va_up, Nat.beq_refl, Bool.true_and]
    by_cases hi : i = j
    · subst hi
      simp
    · have : Nat.beq i j = false := by
        cases hb : Nat.beq i j with
        | false => rfl
        | true => exact absurd (Nat.eq_of_beq_eq_true hb) hi
      rw [if_neg hi, this]
      rfl
  · rw [if_neg ha]
    have : Nat.beq a c = false := by
      cases hb : Nat.beq a c with
      | false => rfl
      | true => exact absurd (Nat.eq_of_beq_eq_true hb) ha
    rw [this]
    rfl
section ZCT
variable {X : zk_X} {d pc npc tg : Nat} {mt : zk_Mt} {L L2 : List (Option Value)} {st : List Value} {Z Z2 : zk_Z} {I I2 : zk_I} {J J2 : zk_J} {M M' : zk_M} {dc ds : Nat} {rv : Option Value}
theorem c_zm (hZ : Z = Z2) (hI : I = I2) (hJ : J = J2) (k : zC X d mt pc L st (Z2, I2, J2) dc ds rv M') : zC X d mt pc L st (Z, I, J) dc ds rv M' := by
  subst hZ; subst hI; subst hJ
  exact k
theorem c_iinc2 {i : Nat} {n : Int} {x v v2 : Int32} (h : zk_at mt pc = some (.iinc i n, npc, tg)) (hL : zk_get L i = some (.int x)) (hv : Int32.ofInt n = v) (hv2 : x + v = v2) (hi : Nat.ble (i + 1) mt.2.2.1 = true) (hd2 : zk_nod L = true) (hL2 : zk_set L i (.int v2) = L2) (k : zC X d mt npc L2 st M dc ds rv M') : zC X d mt pc L st M dc ds rv M' := by
  subst hL2; subst hv2
  exact c_iinc h hL hv (Nat.le_of_ble_eq_true hi) hd2 k
theorem e_new {idx ci N : Nat} (h : zk_at mt pc = some (.new idx, npc, tg)) (hl : zk_LN mt.1.cls idx ci) (hN : (zk_r ci).2.2 = N) (h1000 : Z.1 + 1 ≤ 1000) (k : zC X d mt npc L (.ref Z.1 :: st) (zk_new Z ci 0, zk_sc I Z.1 (fun _ => 0), J) dc ds rv M') : zC X d mt pc L st (Z, I, J) (dc + 1) (ds + N) rv M' := by
  subst hN
  exact c_new h hl h1000 k
theorem e_aast {n a b j : Nat} {i : Int32} (h : zk_at mt pc = some (.aastore, npc, tg)) (ha : Z.2.1 a = (24, n)) (hz : a < Z.1) (hi : zk_in i n = true) (hj : i.toNatClampNeg = j) (hb : (Z.2.1 b).1 = 1) (hbz : b < Z.1) (k : zC X d mt npc L st (zk_zr Z a (va_up (Z.2.2 a) j (some b)), I, J) dc ds rv M') : zC X d mt pc L (.ref b :: .int i :: .ref a :: st) (Z, I, J) dc ds rv M' := by
  subst hj
  exact c_aast h ha hz hi hb hbz k
end ZCT
set_option maxRecDepth 20000 in
theorem ki_X5_init_1 {X : zk_X} : zC X 1 m_X5_init 0 (zk_ent [.ref 1] 1) [] (z_Zs 2 0, z_I0, z_J0) 1 160 none (z_Zs 3 1, z_I0, z_J0) := by
  refine c_ent (L2 := [some (.ref 1)]) rfl ?_
  refine c_aload_n rfl rfl ?_
  refine c_objInit rfl lk_X5_3 lk_oi1 lk_oi2 (Nat.le_of_ble_eq_true rfl) (Nat.le_of_ble_eq_true rfl) ?_
  refine c_aload_n rfl rfl ?_
  refine c_sipush rfl vs_160 ?_
  refine c_newa (q := 23) (N := 160) (dc := 0) (ds := 0) rfl (Or.inr (Or.inr (Or.inr rfl))) rfl lk_achar (by decide) (by decide) (by decide) (by decide) ?_
  refine c_zm (Z2 := z_Zs 3 0) (I2 := z_I0) (J2 := z_J0) (zs_new (k := 23) (len := 160) rfl rfl) z_I0_s z_J0_s ?_
  refine c_putR rfl fk_X5_9 rfl rfl rfl (fun _ => ⟨rfl, rfl⟩) rfl (Nat.le_of_ble_eq_true rfl) ?_
  refine c_zm (Z2 := z_Zs 3 1) (I2 := z_I0) (J2 := z_J0) (zs_put rfl) rfl rfl ?_
  exact c_return rfl rfl
set_option maxRecDepth 20000 in
theorem ki_X6_init_3 {X : zk_X} : zC X 1 m_X6_init 0 (zk_ent [.ref 3] 1) [] (z_Zs 4 2, z_I0, z_J0) 5 36 none (z_Zs 9 7, z_I0, z_J0) := by
  refine c_ent (L2 := [some (.ref 3)]) rfl ?_
  refine c_aload_n rfl rfl ?_
  refine c_objInit rfl lk_X6_3 lk_oi1 lk_oi2 (Nat.le_of_ble_eq_true rfl) (Nat.le_of_ble_eq_true rfl) ?_
  refine c_aload_n rfl rfl ?_
  refine c_bipush rfl vb_8 ?_
  refine c_newa (q := 20) (N := 8) (dc := 4) (ds := 28) rfl (Or.inl rfl) rfl lk_aint (by decide) (by decide) (by decide) (by decide) ?_
  refine c_zm (Z2 := z_Zs 5 2) (I2 := z_I0) (J2 := z_J0) (zs_new (k := 20) (len := 8) rfl rfl) z_I0_s z_J0_s ?_
  refine c_putR rfl fk_X6_9 rfl rfl rfl (fun _ => ⟨rfl, rfl⟩) rfl (Nat.le_of_ble_eq_true rfl) ?_
  refine c_zm (Z2 := z_Zs 5 3) (I2 := z_I0) (J2 := z_J0) (zs_put rfl) rfl rfl ?_
  refine c_aload_n rfl rfl ?_
  refine c_bipush rfl vb_8 ?_
  refine c_newa (q := 20) (N := 8) (dc := 3) (ds := 20) rfl (Or.inl rfl) rfl lk_aint (by decide) (by decide) (by decide) (by decide) ?_
  refine c_zm (Z2 := z_Zs 6 3) (I2 := z_I0) (J2 := z_J0) (zs_new (k := 20) (len := 8) rfl rfl) z_I0_s z_J0_s ?_
  refine c_putR rfl fk_X6_15 rfl rfl rfl (fun _ => ⟨rfl, rfl⟩) rfl (Nat.le_of_ble_eq_true rfl) ?_
  refine c_zm (Z2 := z_Zs 6 4) (I2 := z_I0) (J2 := z_J0) (zs_put rfl) rfl rfl ?_
  refine c_aload_n rfl rfl ?_
  refine c_bipush rfl vb_8 ?_
  refine c_newa (q := 20) (N := 8) (dc := 2) (ds := 12) rfl (Or.inl rfl) rfl lk_aint (by decide) (by decide) (by decide) (by decide) ?_
  refine c_zm (Z2 := z_Zs 7 4) (I2 := z_I0) (J2 := z_J0) (zs_new (k := 20) (len := 8) rfl rfl) z_I0_s z_J0_s ?_
  refine c_putR rfl fk_X6_18 rfl rfl rfl (fun _ => ⟨rfl, rfl⟩) rfl (Nat.le_of_ble_eq_true rfl) ?_
  refine c_zm (Z2 := z_Zs 7 5) (I2 := z_I0) (J2 := z_J0) (zs_put rfl) rfl rfl ?_
  refine c_aload_n rfl rfl ?_
  refine c_bipush rfl vb_8 ?_
  refine c_newa (q := 20) (N := 8) (dc := 1) (ds := 4) rfl (Or.inl rfl) rfl lk_aint (by decide) (by decide) (by decide) (by decide) ?_
  refine c_zm (Z2 := z_Zs 8 5) (I2 := z_I0) (J2 := z_J0) (zs_new (k := 20) (len := 8) rfl rfl) z_I0_s z_J0_s ?_
  refine c_putR rfl fk_X6_21 rfl rfl rfl (fun _ => ⟨rfl, rfl⟩) rfl (Nat.le_of_ble_eq_true rfl) ?_
  refine c_zm (Z2 := z_Zs 8 6) (I2 := z_I0) (J2 := z_J0) (zs_put rfl) rfl rfl ?_
  refine c_aload_n rfl rfl ?_
  refine c_iconst rfl vi_4 ?_
  refine c_newa (q := 20) (N := 4) (dc := 0) (ds := 0) rfl (Or.inl rfl) rfl lk_aint (by decide) (by decide) (by decide) (by decide) ?_
  refine c_zm (Z2 := z_Zs 9 6) (I2 := z_I0) (J2 := z_J0) (zs_new (k := 20) (len := 4) rfl rfl) z_I0_s z_J0_s ?_
  refine c_putR rfl fk_X6_24 rfl rfl rfl (fun _ => ⟨rfl, rfl⟩) rfl (Nat.le_of_ble_eq_true rfl) ?_
  refine c_zm (Z2 := z_Zs 9 7) (I2 := z_I0) (J2 := z_J0) (zs_put rfl) rfl rfl ?_
  exact c_return rfl rfl
set_option maxRecDepth 20000 in
theorem ki_X6_init_10 {X : zk_X} : zC X 1 m_X6_init 0 (zk_ent [.ref 10] 1) [] (z_Zs 11 8, z_I0, z_J0) 5 36 none (z_Zs 16 13, z_I0, z_J0) := by
  refine c_ent (L2 := [some (.ref 10)]) rfl ?_
  refine c_aload_n rfl rfl ?_
  refine c_objInit rfl lk_X6_3 lk_oi1 lk_oi2 (Nat.le_of_ble_eq_true rfl) (Nat.le_of_ble_eq_true rfl) ?_
  refine c_aload_n rfl rfl ?_
  refine c_bipush rfl vb_8 ?_
  refine c_newa (q := 20) (N := 8) (dc := 4) (ds := 28) rfl (Or.inl rfl) rfl lk_aint (by decide) (by decide) (by decide) (by decide) ?_
  refine c_zm (Z2 := z_Zs 12 8) (I2 := z_I0) (J2 := z_J0) (zs_new (k := 20) (len := 8) rfl rfl) z_I0_s z_J0_s ?_
  refine c_putR rfl fk_X6_9 rfl rfl rfl (fun _ => ⟨rfl, rfl⟩) rfl (Nat.le_of_ble_eq_true rfl) ?_
  refine c_zm (Z2 := z_Zs 12 9) (I2 := z_I0) (J2 := z_J0) (zs_put rfl) rfl rfl ?_
  refine c_aload_n rfl rfl ?_
  refine c_bipush rfl vb_8 ?_
  refine c_newa (q := 20) (N := 8) (dc := 3) (ds := 20) rfl (Or.inl rfl) rfl lk_aint (by decide) (by decide) (by decide) (by decide) ?_
  refine c_zm (Z2 := z_Zs 13 9) (I2 := z_I0) (J2 := z_J0) (zs_new (k := 20) (len := 8) rfl rfl) z_I0_s z_J0_s ?_
  refine c_putR rfl fk_X6_15 rfl rfl rfl (fun _ => ⟨rfl, rfl⟩) rfl (Nat.le_of_ble_eq_true rfl) ?_
  refine c_zm (Z2 := z_Zs 13 10) (I2 := z_I0) (J2 := z_J0) (zs_put rfl) rfl rfl ?_
  refine c_aload_n rfl rfl ?_
  refine c_bipush rfl vb_8 ?_
  refine c_newa (q := 20) (N := 8) (dc := 2) (ds := 12) rfl (Or.inl rfl) rfl lk_aint (by decide) (by decide) (by decide) (by decide) ?_
  refine c_zm (Z2 := z_Zs 14 10) (I2 := z_I0) (J2 := z_J0) (zs_new (k := 20) (len := 8) rfl rfl) z_I0_s z_J0_s ?_
  refine c_putR rfl fk_X6_18 rfl rfl rfl (fun _ => ⟨rfl, rfl⟩) rfl (Nat.le_of_ble_eq_true rfl) ?_
  refine c_zm (Z2 := z_Zs 14 11) (I2 := z_I0) (J2 := z_J0) (zs_put rfl) rfl rfl ?_
  refine c_aload_n rfl rfl ?_
  refine c_bipush rfl vb_8 ?_
  refine c_newa (q := 20) (N := 8) (dc := 1) (ds := 4) rfl (Or.inl rfl) rfl lk_aint (by decide) (by decide) (by decide) (by decide) ?_
  refine c_zm (Z2 := z_Zs 15 11) (I2 := z_I0) (J2 := z_J0) (zs_new (k := 20) (len := 8) rfl rfl) z_I0_s z_J0_s ?_
  refine c_putR rfl fk_X6_21 rfl rfl rfl (fun _ => ⟨rfl, rfl⟩) rfl (Nat.le_of_ble_eq_true rfl) ?_
  refine c_zm (Z2 := z_Zs 15 12) (I2 := z_I0) (J2 := z_J0) (zs_put rfl) rfl rfl ?_
  refine c_aload_n rfl rfl ?_
  refine c_iconst rfl vi_4 ?_
  refine c_newa (q := 20) (N := 4) (dc := 0) (ds := 0) rfl (Or.inl rfl) rfl lk_aint (by decide) (by decide) (by decide) (by decide) ?_
  refine c_zm (Z2 := z_Zs 16 12) (I2 := z_I0) (J2 := z_J0) (zs_new (k := 20) (len := 4) rfl rfl) z_I0_s z_J0_s ?_
  refine c_putR rfl fk_X6_24 rfl rfl rfl (fun _ => ⟨rfl, rfl⟩) rfl (Nat.le_of_ble_eq_true rfl) ?_
  refine c_zm (Z2 := z_Zs 16 13) (I2 := z_I0) (J2 := z_J0) (zs_put rfl) rfl rfl ?_
  exact c_return rfl rfl
set_option maxRecDepth 20000 in
theorem ki_X0_init_9 {X : zk_X} : zC X 2 m_X0_init 0 (zk_ent [.ref 9, .ref 1] 2) [] (z_Zs 10 8, z_I0, z_J0) 6 43 none (z_Zs 16 15, z_I0, z_J0) := by
  refine c_ent (L2 := [some (.ref 9), some (.ref 1)]) rfl ?_
  refine c_aload_n rfl rfl ?_
  refine c_objInit rfl lk_X0_3 lk_oi1 lk_oi2 (Nat.le_of_ble_eq_true rfl) (Nat.le_of_ble_eq_true rfl) ?_
  refine c_aload_n rfl rfl ?_
  refine e_new (ci := 6) (N := 7) (dc := 5) (ds := 36) rfl nk_X0_9 rfl (by decide) ?_
  refine c_zm (Z2 := z_Zs 11 8) (I2 := z_I0) (J2 := z_J0) (zs_new (k := 6) (len := 0) rfl rfl) z_I0_s rfl ?_
  refine c_dup rfl rfl ?_
  refine c_callIN (dc1 := 5) (ds1 := 36) (dc2 := 0) (ds2 := 0) (As := []) (st := [.ref 10, .ref 9]) rfl lk_X0_11 rfl rfl (Nat.le_of_ble_eq_true rfl) (Nat.le_of_ble_eq_true rfl) (Nat.le_of_ble_eq_true rfl) rfl rfl rfl ki_X6_init_10 ?_
  refine c_putR rfl fk_X0_12 rfl rfl rfl (fun _ => ⟨rfl, rfl⟩) rfl (Nat.le_of_ble_eq_true rfl) ?_
  refine c_zm (Z2 := z_Zs 16 14) (I2 := z_I0) (J2 := z_J0) (zs_put rfl) rfl rfl ?_
  refine c_aload_n rfl rfl ?_
  refine c_aload_n rfl rfl ?_
  refine c_putR rfl fk_X0_18 rfl rfl rfl (fun _ => ⟨rfl, rfl⟩) rfl (Nat.le_of_ble_eq_true rfl) ?_
  refine c_zm (Z2 := z_Zs 16 15) (I2 := z_I0) (J2 := z_J0) (zs_put rfl) rfl rfl ?_
  exact c_return rfl rfl
set_option maxRecDepth 20000 in
theorem ki_X1_init_16 {X : zk_X} : zC X 1 m_X1_init 0 (zk_ent [.ref 16] 1) [] (z_Zs 17 16, z_I0, z_J0) 3 12 none (z_Zs 20 19, z_I0, z_J0) := by
  refine c_ent (L2 := [some (.ref 16)]) rfl ?_
  refine c_aload_n rfl rfl ?_
  refine c_objInit rfl lk_X1_3 lk_oi1 lk_oi2 (Nat.le_of_ble_eq_true rfl) (Nat.le_of_ble_eq_true rfl) ?_
  refine c_aload_n rfl rfl ?_
  refine c_iconst rfl vi_4 ?_
  refine c_newa (q := 20) (N := 4) (dc := 2) (ds := 8) rfl (Or.inl rfl) rfl lk_aint (by decide) (by decide) (by decide) (by decide) ?_
  refine c_zm (Z2 := z_Zs 18 16) (I2 := z_I0) (J2 := z_J0) (zs_new (k := 20) (len := 4) rfl rfl) z_I0_s z_J0_s ?_
  refine c_putR rfl fk_X1_9 rfl rfl rfl (fun _ => ⟨rfl, rfl⟩) rfl (Nat.le_of_ble_eq_true rfl) ?_
  refine c_zm (Z2 := z_Zs 18 17) (I2 := z_I0) (J2 := z_J0) (zs_put rfl) rfl rfl ?_
  refine c_aload_n rfl rfl ?_
  refine c_iconst rfl vi_4 ?_
  refine c_newa (q := 20) (N := 4) (dc := 1) (ds := 4) rfl (Or.inl rfl) rfl lk_aint (by decide) (by decide) (by decide) (by decide) ?_
  refine c_zm (Z2 := z_Zs 19 17) (I2 := z_I0) (J2 := z_J0) (zs_new (k := 20) (len := 4) rfl rfl) z_I0_s z_J0_s ?_
  refine c_putR rfl fk_X1_15 rfl rfl rfl (fun _ => ⟨rfl, rfl⟩) rfl (Nat.le_of_ble_eq_true rfl) ?_
  refine c_zm (Z2 := z_Zs 19 18) (I2 := z_I0) (J2 := z_J0) (zs_put rfl) rfl rfl ?_
  refine c_aload_n rfl rfl ?_
  refine c_iconst rfl vi_4 ?_
  refine c_newa (q := 20) (N := 4) (dc := 0) (ds := 0) rfl (Or.inl rfl) rfl lk_aint (by decide) (by decide) (by decide) (by decide) ?_
  refine c_zm (Z2 := z_Zs 20 18) (I2 := z_I0) (J2 := z_J0) (zs_new (k := 20) (len := 4) rfl rfl) z_I0_s z_J0_s ?_
  refine c_putR rfl fk_X1_18 rfl rfl rfl (fun _ => ⟨rfl, rfl⟩) rfl (Nat.le_of_ble_eq_true rfl) ?_
  refine c_zm (Z2 := z_Zs 20 19) (I2 := z_I0) (J2 := z_J0) (zs_put rfl) rfl rfl ?_
  exact c_return rfl rfl
set_option maxRecDepth 20000 in
theorem ki_X1_init_22 {X : zk_X} : zC X 1 m_X1_init 0 (zk_ent [.ref 22] 1) [] (z_Zs 23 21, z_I0, z_J0) 3 12 none (z_Zs 26 24, z_I0, z_J0) := by
  refine c_ent (L2 := [some (.ref 22)]) rfl ?_
  refine c_aload_n rfl rfl ?_
  refine c_objInit rfl lk_X1_3 lk_oi1 lk_oi2 (Nat.le_of_ble_eq_true rfl) (Nat.le_of_ble_eq_true rfl) ?_
  refine c_aload_n rfl rfl ?_
  refine c_iconst rfl vi_4 ?_
  refine c_newa (q := 20) (N := 4) (dc := 2) (ds := 8) rfl (Or.inl rfl) rfl lk_aint (by decide) (by decide) (by decide) (by decide) ?_
  refine c_zm (Z2 := z_Zs 24 21) (I2 := z_I0) (J2 := z_J0) (zs_new (k := 20) (len := 4) rfl rfl) z_I0_s z_J0_s ?_
  refine c_putR rfl fk_X1_9 rfl rfl rfl (fun _ => ⟨rfl, rfl⟩) rfl (Nat.le_of_ble_eq_true rfl) ?_
  refine c_zm (Z2 := z_Zs 24 22) (I2 := z_I0) (J2 := z_J0) (zs_put rfl) rfl rfl ?_
  refine c_aload_n rfl rfl ?_
  refine c_iconst rfl vi_4 ?_
  refine c_newa (q := 20) (N := 4) (dc := 1) (ds := 4) rfl (Or.inl rfl) rfl lk_aint (by decide) (by decide) (by decide) (by decide) ?_
  refine c_zm (Z2 := z_Zs 25 22) (I2 := z_I0) (J2 := z_J0) (zs_new (k := 20) (len := 4) rfl rfl) z_I0_s z_J0_s ?_
  refine c_putR rfl fk_X1_15 rfl rfl rfl (fun _ => ⟨rfl, rfl⟩) rfl (Nat.le_of_ble_eq_true rfl) ?_
  refine c_zm (Z2 := z_Zs 25 23) (I2 := z_I0) (J2 := z_J0) (zs_put rfl) rfl rfl ?_
  refine c_aload_n rfl rfl ?_
  refine c_iconst rfl vi_4 ?_
  refine c_newa (q := 20) (N := 4) (dc := 0) (ds := 0) rfl (Or.inl rfl) rfl lk_aint (by decide) (by decide) (by decide) (by decide) ?_
  refine c_zm (Z2 := z_Zs 26 23) (I2 := z_I0) (J2 := z_J0) (zs_new (k := 20) (len := 4) rfl rfl) z_I0_s z_J0_s ?_
  refine c_putR rfl fk_X1_18 rfl rfl rfl (fun _ => ⟨rfl, rfl⟩) rfl (Nat.le_of_ble_eq_true rfl) ?_
  refine c_zm (Z2 := z_Zs 26 24) (I2 := z_I0) (J2 := z_J0) (zs_put rfl) rfl rfl ?_
  exact c_return rfl rfl
set_option maxRecDepth 20000 in
theorem ki_X1_init_26 {X : zk_X} : zC X 1 m_X1_init 0 (zk_ent [.ref 26] 1) [] (z_Zs 27 25, z_I0, z_J0) 3 12 none (z_Zs 30 28, z_I0, z_J0) := by
  refine c_ent (L2 := [some (.ref 26)]) rfl ?_
  refine c_aload_n rfl rfl ?_
  refine c_objInit rfl lk_X1_3 lk_oi1 lk_oi2 (Nat.le_of_ble_eq_true rfl) (Nat.le_of_ble_eq_true rfl) ?_
  refine c_aload_n rfl rfl ?_
  refine c_iconst rfl vi_4 ?_
  refine c_newa (q := 20) (N := 4) (dc := 2) (ds := 8) rfl (Or.inl rfl) rfl lk_aint (by decide) (by decide) (by decide) (by decide) ?_
  refine c_zm (Z2 := z_Zs 28 25) (I2 := z_I0) (J2 := z_J0) (zs_new (k := 20) (len := 4) rfl rfl) z_I0_s z_J0_s ?_
  refine c_putR rfl fk_X1_9 rfl rfl rfl (fun _ => ⟨rfl, rfl⟩) rfl (Nat.le_of_ble_eq_true rfl) ?_
  refine c_zm (Z2 := z_Zs 28 26) (I2 := z_I0) (J2 := z_J0) (zs_put rfl) rfl rfl ?_
  refine c_aload_n rfl rfl ?_
  refine c_iconst rfl vi_4 ?_
  refine c_newa (q := 20) (N := 4) (dc := 1) (ds := 4) rfl (Or.inl rfl) rfl lk_aint (by decide) (by decide) (by decide) (by decide) ?_
  refine c_zm (Z2 := z_Zs 29 26) (I2 := z_I0) (J2 := z_J0) (zs_new (k := 20) (len := 4) rfl rfl) z_I0_s z_J0_s ?_
  refine c_putR rfl fk_X1_15 rfl rfl rfl (fun _ => ⟨rfl, rfl⟩) rfl (Nat.le_of_ble_eq_true rfl) ?_
  refine c_zm (Z2 := z_Zs 29 27) (I2 := z_I0) (J2 := z_J0) (zs_put rfl) rfl rfl ?_
  refine c_aload_n rfl rfl ?_
  refine c_iconst rfl vi_4 ?_
  refine c_newa (q := 20) (N := 4) (dc := 0) (ds := 0) rfl (Or.inl rfl) rfl lk_aint (by decide) (by decide) (by decide) (by decide) ?_
  refine c_zm (Z2 := z_Zs 30 27) (I2 := z_I0) (J2 := z_J0) (zs_new (k := 20) (len := 4) rfl rfl) z_I0_s z_J0_s ?_
  refine c_putR rfl fk_X1_18 rfl rfl rfl (fun _ => ⟨rfl, rfl⟩) rfl (Nat.le_of_ble_eq_true rfl) ?_
  refine c_zm (Z2 := z_Zs 30 28) (I2 := z_I0) (J2 := z_J0) (zs_put rfl) rfl rfl ?_
  exact c_return rfl rfl
set_option maxRecDepth 20000 in
theorem ki_X1_init_30 {X : zk_X} : zC X 1 m_X1_init 0 (zk_ent [.ref 30] 1) [] (z_Zs 31 29, z_I0, z_J0) 3 12 none (z_Zs 34 32, z_I0, z_J0) := by
  refine c_ent (L2 := [some (.ref 30)]) rfl ?_
  refine c_aload_n rfl rfl ?_
  refine c_objInit rfl lk_X1_3 lk_oi1 lk_oi2 (Nat.le_of_ble_eq_true rfl) (Nat.le_of_ble_eq_true rfl) ?_
  refine c_aload_n rfl rfl ?_
  refine c_iconst rfl vi_4 ?_
  refine c_newa (q := 20) (N := 4) (dc := 2) (ds := 8) rfl (Or.inl rfl) rfl lk_aint (by decide) (by decide) (by decide) (by decide) ?_
  refine c_zm (Z2 := z_Zs 32 29) (I2 := z_I0) (J2 := z_J0) (zs_new (k := 20) (len := 4) rfl rfl) z_I0_s z_J0_s ?_
  refine c_putR rfl fk_X1_9 rfl rfl rfl (fun _ => ⟨rfl, rfl⟩) rfl (Nat.le_of_ble_eq_true rfl) ?_
  refine c_zm (Z2 := z_Zs 32 30) (I2 := z_I0) (J2 := z_J0) (zs_put rfl) rfl rfl ?_
  refine c_aload_n rfl rfl ?_
  refine c_iconst rfl vi_4 ?_
  refine c_newa (q := 20) (N := 4) (dc := 1) (ds := 4) rfl (Or.inl rfl) rfl lk_aint (by decide) (by decide) (by decide) (by decide) ?_
  refine c_zm (Z2 := z_Zs 33 30) (I2 := z_I0) (J2 := z_J0) (zs_new (k := 20) (len := 4) rfl rfl) z_I0_s z_J0_s ?_
  refine c_putR rfl fk_X1_15 rfl rfl rfl (fun _ => ⟨rfl, rfl⟩) rfl (Nat.le_of_ble_eq_true rfl) ?_
  refine c_zm (Z2 := z_Zs 33 31) (I2 := z_I0) (J2 := z_J0) (zs_put rfl) rfl rfl ?_
  refine c_aload_n rfl rfl ?_
  refine c_iconst rfl vi_4 ?_
  refine c_newa (q := 20) (N := 4) (dc := 0) (ds := 0) rfl (Or.inl rfl) rfl lk_aint (by decide) (by decide) (by decide) (by decide) ?_
  refine c_zm (Z2 := z_Zs 34 31) (I2 := z_I0) (J2 := z_J0) (zs_new (k := 20) (len := 4) rfl rfl) z_I0_s z_J0_s ?_
  refine c_putR rfl fk_X1_18 rfl rfl rfl (fun _ => ⟨rfl, rfl⟩) rfl (Nat.le_of_ble_eq_true rfl) ?_
  refine c_zm (Z2 := z_Zs 34 32) (I2 := z_I0) (J2 := z_J0) (zs_put rfl) rfl rfl ?_
  exact c_return rfl rfl
set_option maxRecDepth 20000 in
theorem ki_X1_init_34 {X : zk_X} : zC X 1 m_X1_init 0 (zk_ent [.ref 34] 1) [] (z_Zs 35 33, z_I0, z_J0) 3 12 none (z_Zs 38 36, z_I0, z_J0) := by
  refine c_ent (L2 := [some (.ref 34)]) rfl ?_
  refine c_aload_n rfl rfl ?_
  refine c_objInit rfl lk_X1_3 lk_oi1 lk_oi2 (Nat.le_of_ble_eq_true rfl) (Nat.le_of_ble_eq_true rfl) ?_
  refine c_aload_n rfl rfl ?_
  refine c_iconst rfl vi_4 ?_
  refine c_newa (q := 20) (N := 4) (dc := 2) (ds := 8) rfl (Or.inl rfl) rfl lk_aint (by decide) (by decide) (by decide) (by decide) ?_
  refine c_zm (Z2 := z_Zs 36 33) (I2 := z_I0) (J2 := z_J0) (zs_new (k := 20) (len := 4) rfl rfl) z_I0_s z_J0_s ?_
  refine c_putR rfl fk_X1_9 rfl rfl rfl (fun _ => ⟨rfl, rfl⟩) rfl (Nat.le_of_ble_eq_true rfl) ?_
  refine c_zm (Z2 := z_Zs 36 34) (I2 := z_I0) (J2 := z_J0) (zs_put rfl) rfl rfl ?_
  refine c_aload_n rfl rfl ?_
  refine c_iconst rfl vi_4 ?_
  refine c_newa (q := 20) (N := 4) (dc := 1) (ds := 4) rfl (Or.inl rfl) rfl lk_aint (by decide) (by decide) (by decide) (by decide) ?_
  refine c_zm (Z2 := z_Zs 37 34) (I2 := z_I0) (J2 := z_J0) (zs_new (k := 20) (len := 4) rfl rfl) z_I0_s z_J0_s ?_
  refine c_putR rfl fk_X1_15 rfl rfl rfl (fun _ => ⟨rfl, rfl⟩) rfl (Nat.le_of_ble_eq_true rfl) ?_
  refine c_zm (Z2 := z_Zs 37 35) (I2 := z_I0) (J2 := z_J0) (zs_put rfl) rfl rfl ?_
  refine c_aload_n rfl rfl ?_
  refine c_iconst rfl vi_4 ?_
  refine c_newa (q := 20) (N := 4) (dc := 0) (ds := 0) rfl (Or.inl rfl) rfl lk_aint (by decide) (by decide) (by decide) (by decide) ?_
  refine c_zm (Z2 := z_Zs 38 35) (I2 := z_I0) (J2 := z_J0) (zs_new (k := 20) (len := 4) rfl rfl) z_I0_s z_J0_s ?_
  refine c_putR rfl fk_X1_18 rfl rfl rfl (fun _ => ⟨rfl, rfl⟩) rfl (Nat.le_of_ble_eq_true rfl) ?_
  refine c_zm (Z2 := z_Zs 38 36) (I2 := z_I0) (J2 := z_J0) (zs_put rfl) rfl rfl ?_
  exact c_return rfl rfl
set_option maxRecDepth 20000 in
theorem ki_X1_init_38 {X : zk_X} : zC X 1 m_X1_init 0 (zk_ent [.ref 38] 1) [] (z_Zs 39 37, z_I0, z_J0) 3 12 none (z_Zs 42 40, z_I0, z_J0) := by
  refine c_ent (L2 := [some (.ref 38)]) rfl ?_
  refine c_aload_n rfl rfl ?_
  refine c_objInit rfl lk_X1_3 lk_oi1 lk_oi2 (Nat.le_of_ble_eq_true rfl) (Nat.le_of_ble_eq_true rfl) ?_
  refine c_aload_n rfl rfl ?_
  refine c_iconst rfl vi_4 ?_
  refine c_newa (q := 20) (N := 4) (dc := 2) (ds := 8) rfl (Or.inl rfl) rfl lk_aint (by decide) (by decide) (by decide) (by decide) ?_
  refine c_zm (Z2 := z_Zs 40 37) (I2 := z_I0) (J2 := z_J0) (zs_new (k := 20) (len := 4) rfl rfl) z_I0_s z_J0_s ?_
  refine c_putR rfl fk_X1_9 rfl rfl rfl (fun _ => ⟨rfl, rfl⟩) rfl (Nat.le_of_ble_eq_true rfl) ?_
  refine c_zm (Z2 := z_Zs 40 38) (I2 := z_I0) (J2 := z_J0) (zs_put rfl) rfl rfl ?_
  refine c_aload_n rfl rfl ?_
  refine c_iconst rfl vi_4 ?_
  refine c_newa (q := 20) (N := 4) (dc := 1) (ds := 4) rfl (Or.inl rfl) rfl lk_aint (by decide) (by decide) (by decide) (by decide) ?_
  refine c_zm (Z2 := z_Zs 41 38) (I2 := z_I0) (J2 := z_J0) (zs_new (k := 20) (len := 4) rfl rfl) z_I0_s z_J0_s ?_
  refine c_putR rfl fk_X1_15 rfl rfl rfl (fun _ => ⟨rfl, rfl⟩) rfl (Nat.le_of_ble_eq_true rfl) ?_
  refine c_zm (Z2 := z_Zs 41 39) (I2 := z_I0) (J2 := z_J0) (zs_put rfl) rfl rfl ?_
  refine c_aload_n rfl rfl ?_
  refine c_iconst rfl vi_4 ?_
  refine c_newa (q := 20) (N := 4) (dc := 0) (ds := 0) rfl (Or.inl rfl) rfl lk_aint (by decide) (by decide) (by decide) (by decide) ?_
  refine c_zm (Z2 := z_Zs 42 39) (I2 := z_I0) (J2 := z_J0) (zs_new (k := 20) (len := 4) rfl rfl) z_I0_s z_J0_s ?_
  refine c_putR rfl fk_X1_18 rfl rfl rfl (fun _ => ⟨rfl, rfl⟩) rfl (Nat.le_of_ble_eq_true rfl) ?_
  refine c_zm (Z2 := z_Zs 42 40) (I2 := z_I0) (J2 := z_J0) (zs_put rfl) rfl rfl ?_
  exact c_return rfl rfl
set_option maxRecDepth 20000 in
theorem ki_X1_init_42 {X : zk_X} : zC X 1 m_X1_init 0 (zk_ent [.ref 42] 1) [] (z_Zs 43 41, z_I0, z_J0) 3 12 none (z_Zs 46 44, z_I0, z_J0) := by
  refine c_ent (L2 := [some (.ref 42)]) rfl ?_
  refine c_aload_n rfl rfl ?_
  refine c_objInit rfl lk_X1_3 lk_oi1 lk_oi2 (Nat.le_of_ble_eq_true rfl) (Nat.le_of_ble_eq_true rfl) ?_
  refine c_aload_n rfl rfl ?_
  refine c_iconst rfl vi_4 ?_
  refine c_newa (q := 20) (N := 4) (dc := 2) (ds := 8) rfl (Or.inl rfl) rfl lk_aint (by decide) (by decide) (by decide) (by decide) ?_
  refine c_zm (Z2 := z_Zs 44 41) (I2 := z_I0) (J2 := z_J0) (zs_new (k := 20) (len := 4) rfl rfl) z_I0_s z_J0_s ?_
  refine c_putR rfl fk_X1_9 rfl rfl rfl (fun _ => ⟨rfl, rfl⟩) rfl (Nat.le_of_ble_eq_true rfl) ?_
  refine c_zm (Z2 := z_Zs 44 42) (I2 := z_I0) (J2 := z_J0) (zs_put rfl) rfl rfl ?_
  refine c_aload_n rfl rfl ?_
  refine c_iconst rfl vi_4 ?_
  refine c_newa (q := 20) (N := 4) (dc := 1) (ds := 4) rfl (Or.inl rfl) rfl lk_aint (by decide) (by decide) (by decide) (by decide) ?_
  refine c_zm (Z2 := z_Zs 45 42) (I2 := z_I0) (J2 := z_J0) (zs_new (k := 20) (len := 4) rfl rfl) z_I0_s z_J0_s ?_
  refine c_putR rfl fk_X1_15 rfl rfl rfl (fun _ => ⟨rfl, rfl⟩) rfl (Nat.le_of_ble_eq_true rfl) ?_
  refine c_zm (Z2 := z_Zs 45 43) (I2 := z_I0) (J2 := z_J0) (zs_put rfl) rfl rfl ?_
  refine c_aload_n rfl rfl ?_
  refine c_iconst rfl vi_4 ?_
  refine c_newa (q := 20) (N := 4) (dc := 0) (ds := 0) rfl (Or.inl rfl) rfl lk_aint (by decide) (by decide) (by decide) (by decide) ?_
  refine c_zm (Z2 := z_Zs 46 43) (I2 := z_I0) (J2 := z_J0) (zs_new (k := 20) (len := 4) rfl rfl) z_I0_s z_J0_s ?_
  refine c_putR rfl fk_X1_18 rfl rfl rfl (fun _ => ⟨rfl, rfl⟩) rfl (Nat.le_of_ble_eq_true rfl) ?_
  refine c_zm (Z2 := z_Zs 46 44) (I2 := z_I0) (J2 := z_J0) (zs_put rfl) rfl rfl ?_
  exact c_return rfl rfl
set_option maxRecDepth 20000 in
theorem ki_X1_init_46 {X : zk_X} : zC X 1 m_X1_init 0 (zk_ent [.ref 46] 1) [] (z_Zs 47 45, z_I0, z_J0) 3 12 none (z_Zs 50 48, z_I0, z_J0) := by
  refine c_ent (L2 := [some (.ref 46)]) rfl ?_
  refine c_aload_n rfl rfl ?_
  refine c_objInit rfl lk_X1_3 lk_oi1 lk_oi2 (Nat.le_of_ble_eq_true rfl) (Nat.le_of_ble_eq_true rfl) ?_
  refine c_aload_n rfl rfl ?_
  refine c_iconst rfl vi_4 ?_
  refine c_newa (q := 20) (N := 4) (dc := 2) (ds := 8) rfl (Or.inl rfl) rfl lk_aint (by decide) (by decide) (by decide) (by decide) ?_
  refine c_zm (Z2 := z_Zs 48 45) (I2 := z_I0) (J2 := z_J0) (zs_new (k := 20) (len := 4) rfl rfl) z_I0_s z_J0_s ?_
  refine c_putR rfl fk_X1_9 rfl rfl rfl (fun _ => ⟨rfl, rfl⟩) rfl (Nat.le_of_ble_eq_true rfl) ?_
  refine c_zm (Z2 := z_Zs 48 46) (I2 := z_I0) (J2 := z_J0) (zs_put rfl) rfl rfl ?_
  refine c_aload_n rfl rfl ?_
  refine c_iconst rfl vi_4 ?_
  refine c_newa (q := 20) (N := 4) (dc := 1) (ds := 4) rfl (Or.inl rfl) rfl lk_aint (by decide) (by decide) (by decide) (by decide) ?_
  refine c_zm (Z2 := z_Zs 49 46) (I2 := z_I0) (J2 := z_J0) (zs_new (k := 20) (len := 4) rfl rfl) z_I0_s z_J0_s ?_
  refine c_putR rfl fk_X1_15 rfl rfl rfl (fun _ => ⟨rfl, rfl⟩) rfl (Nat.le_of_ble_eq_true rfl) ?_
  refine c_zm (Z2 := z_Zs 49 47) (I2 := z_I0) (J2 := z_J0) (zs_put rfl) rfl rfl ?_
  refine c_aload_n rfl rfl ?_
  refine c_iconst rfl vi_4 ?_
  refine c_newa (q := 20) (N := 4) (dc := 0) (ds := 0) rfl (Or.inl rfl) rfl lk_aint (by decide) (by decide) (by decide) (by decide) ?_
  refine c_zm (Z2 := z_Zs 50 47) (I2 := z_I0) (J2 := z_J0) (zs_new (k := 20) (len := 4) rfl rfl) z_I0_s z_J0_s ?_
  refine c_putR rfl fk_X1_18 rfl rfl rfl (fun _ => ⟨rfl, rfl⟩) rfl (Nat.le_of_ble_eq_true rfl) ?_
  refine c_zm (Z2 := z_Zs 50 48) (I2 := z_I0) (J2 := z_J0) (zs_put rfl) rfl rfl ?_
  exact c_return rfl rfl
set_option maxRecDepth 20000 in
theorem ki_X1_init_50 {X : zk_X} : zC X 1 m_X1_init 0 (zk_ent [.ref 50] 1) [] (z_Zs 51 49, z_I0, z_J0) 3 12 none (z_Zs 54 52, z_I0, z_J0) := by
  refine c_ent (L2 := [some (.ref 50)]) rfl ?_
  refine c_aload_n rfl rfl ?_
  refine c_objInit rfl lk_X1_3 lk_oi1 lk_oi2 (Nat.le_of_ble_eq_true rfl) (Nat.le_of_ble_eq_true rfl) ?_
  refine c_aload_n rfl rfl ?_
  refine c_iconst rfl vi_4 ?_
  refine c_newa (q := 20) (N := 4) (dc := 2) (ds := 8) rfl (Or.inl rfl) rfl lk_aint (by decide) (by decide) (by decide) (by decide) ?_
  refine c_zm (Z2 := z_Zs 52 49) (I2 := z_I0) (J2 := z_J0) (zs_new (k := 20) (len := 4) rfl rfl) z_I0_s z_J0_s ?_
  refine c_putR rfl fk_X1_9 rfl rfl rfl (fun _ => ⟨rfl, rfl⟩) rfl (Nat.le_of_ble_eq_true rfl) ?_
  refine c_zm (Z2 := z_Zs 52 50) (I2 := z_I0) (J2 := z_J0) (zs_put rfl) rfl rfl ?_
  refine c_aload_n rfl rfl ?_
  refine c_iconst rfl vi_4 ?_
  refine c_newa (q := 20) (N := 4) (dc := 1) (ds := 4) rfl (Or.inl rfl) rfl lk_aint (by decide) (by decide) (by decide) (by decide) ?_
  refine c_zm (Z2 := z_Zs 53 50) (I2 := z_I0) (J2 := z_J0) (zs_new (k := 20) (len := 4) rfl rfl) z_I0_s z_J0_s ?_
  refine c_putR rfl fk_X1_15 rfl rfl rfl (fun _ => ⟨rfl, rfl⟩) rfl (Nat.le_of_ble_eq_true rfl) ?_
  refine c_zm (Z2 := z_Zs 53 51) (I2 := z_I0) (J2 := z_J0) (zs_put rfl) rfl rfl ?_
  refine c_aload_n rfl rfl ?_
  refine c_iconst rfl vi_4 ?_
  refine c_newa (q := 20) (N := 4) (dc := 0) (ds := 0) rfl (Or.inl rfl) rfl lk_aint (by decide) (by decide) (by decide) (by decide) ?_
  refine c_zm (Z2 := z_Zs 54 51) (I2 := z_I0) (J2 := z_J0) (zs_new (k := 20) (len := 4) rfl rfl) z_I0_s z_J0_s ?_
  refine c_putR rfl fk_X1_18 rfl rfl rfl (fun _ => ⟨rfl, rfl⟩) rfl (Nat.le_of_ble_eq_true rfl) ?_
  refine c_zm (Z2 := z_Zs 54 52) (I2 := z_I0) (J2 := z_J0) (zs_put rfl) rfl rfl ?_
  exact c_return rfl rfl
set_option maxRecDepth 20000 in
theorem ki_X2_init_20 {X : zk_X} : zC X 2 m_X2_init 0 (zk_ent [.ref 20] 2) [] (z_Zs 21 20, z_I0, z_J0) 33 136 none (z_Zs 54 53, z_I0, z_J0) := by
  refine c_ent (L2 := [some (.ref 20), none]) rfl ?_
  refine c_aload_n rfl rfl ?_
  refine c_objInit rfl lk_X2_3 lk_oi1 lk_oi2 (Nat.le_of_ble_eq_true rfl) (Nat.le_of_ble_eq_true rfl) ?_
  refine c_aload_n rfl rfl ?_
  refine c_bipush rfl vb_8 ?_
  refine c_anew (N := 8) (dc := 32) (ds := 128) rfl nk_X2_9.2.1 (by decide) (by decide) (by decide) (by decide) ?_
  refine c_zm (Z2 := z_Zs 22 20) (I2 := z_I0) (J2 := z_J0) (zs_new (k := 24) (len := 8) rfl rfl) z_I0_s rfl ?_
  refine c_putR rfl fk_X2_11 rfl rfl rfl (fun _ => ⟨rfl, rfl⟩) rfl (Nat.le_of_ble_eq_true rfl) ?_
  refine c_zm (Z2 := z_Zs 22 21) (I2 := z_I0) (J2 := z_J0) (zs_put rfl) rfl rfl ?_
  refine c_iconst rfl vi_0 ?_
  refine e_istore_n (L2 := [some (.ref 20), some (.int (0 : Int32))]) rfl rfl rfl rfl ?_
  refine c_iload_n rfl rfl ?_
  refine c_bipush rfl vb_8 ?_
  refine c_icmp_ge rfl (fun q => absurd q (by decide)) (fun _ => ?_)
  refine c_aload_n rfl rfl ?_
  refine c_getR rfl fk_X2_11 rfl (Nat.le_of_ble_eq_true rfl) rfl ?_
  refine c_iload_n rfl rfl ?_
  refine e_new (ci := 1) (N := 4) (dc := 31) (ds := 124) rfl nk_X2_9 rfl (by decide) ?_
  refine c_zm (Z2 := z_Zs 23 21) (I2 := z_I0) (J2 := z_J0) (zs_new (k := 1) (len := 0) rfl rfl) z_I0_s rfl ?_
  refine c_dup rfl rfl ?_
  refine c_callIN (dc1 := 3) (ds1 := 12) (dc2 := 28) (ds2 := 112) (As := []) (st := [.ref 22, .int (0 : Int32), .ref 21]) rfl lk_X2_17 rfl rfl (Nat.le_of_ble_eq_true rfl) (Nat.le_of_ble_eq_true rfl) (Nat.le_of_ble_eq_true rfl) rfl rfl rfl ki_X1_init_22 ?_
  refine e_aast (j := 0) rfl rfl (Nat.le_of_ble_eq_true rfl) (by decide) zt_0 rfl (Nat.le_of_ble_eq_true rfl) ?_
  refine c_zm (Z2 := z_Zs 26 25) (I2 := z_I0) (J2 := z_J0) (zs_put rfl) rfl rfl ?_
  refine c_iinc2 (v2 := (1 : Int32)) (L2 := [some (.ref 20), some (.int (1 : Int32))]) rfl rfl vi_1 (by decide) rfl rfl rfl ?_
  refine c_goto rfl ?_
  refine c_iload_n rfl rfl ?_
  refine c_bipush rfl vb_8 ?_
  refine c_icmp_ge rfl (fun q => absurd q (by decide)) (fun _ => ?_)
  refine c_aload_n rfl rfl ?_
  refine c_getR rfl fk_X2_11 rfl (Nat.le_of_ble_eq_true rfl) rfl ?_
  refine c_iload_n rfl rfl ?_
  refine e_new (ci := 1) (N := 4) (dc := 27) (ds := 108) rfl nk_X2_9 rfl (by decide) ?_
  refine c_zm (Z2 := z_Zs 27 25) (I2 := z_I0) (J2 := z_J0) (zs_new (k := 1) (len := 0) rfl rfl) z_I0_s rfl ?_
  refine c_dup rfl rfl ?_
  refine c_callIN (dc1 := 3) (ds1 := 12) (dc2 := 24) (ds2 := 96) (As := []) (st := [.ref 26, .int (1 : Int32), .ref 21]) rfl lk_X2_17 rfl rfl (Nat.le_of_ble_eq_true rfl) (Nat.le_of_ble_eq_true rfl) (Nat.le_of_ble_eq_true rfl) rfl rfl rfl ki_X1_init_26 ?_
  refine e_aast (j := 1) rfl rfl (Nat.le_of_ble_eq_true rfl) (by decide) zt_1 rfl (Nat.le_of_ble_eq_true rfl) ?_
  refine c_zm (Z2 := z_Zs 30 29) (I2 := z_I0) (J2 := z_J0) (zs_put rfl) rfl rfl ?_
  refine c_iinc2 (v2 := (2 : Int32)) (L2 := [some (.ref 20), some (.int (2 : Int32))]) rfl rfl vi_1 (by decide) rfl rfl rfl ?_
  refine c_goto rfl ?_
  refine c_iload_n rfl rfl ?_
  refine c_bipush rfl vb_8 ?_
  refine c_icmp_ge rfl (fun q => absurd q (by decide)) (fun _ => ?_)
  refine c_aload_n rfl rfl ?_
  refine c_getR rfl fk_X2_11 rfl (Nat.le_of_ble_eq_true rfl) rfl ?_
  refine c_iload_n rfl rfl ?_
  refine e_new (ci := 1) (N := 4) (dc := 23) (ds := 92) rfl nk_X2_9 rfl (by decide) ?_
  refine c_zm (Z2 := z_Zs 31 29) (I2 := z_I0) (J2 := z_J0) (zs_new (k := 1) (len := 0) rfl rfl) z_I0_s rfl ?_
  refine c_dup rfl rfl ?_
  refine c_callIN (dc1 := 3) (ds1 := 12) (dc2 := 20) (ds2 := 80) (As := []) (st := [.ref 30, .int (2 : Int32), .ref 21]) rfl lk_X2_17 rfl rfl (Nat.le_of_ble_eq_true rfl) (Nat.le_of_ble_eq_true rfl) (Nat.le_of_ble_eq_true rfl) rfl rfl rfl ki_X1_init_30 ?_
  refine e_aast (j := 2) rfl rfl (Nat.le_of_ble_eq_true rfl) (by decide) zt_2 rfl (Nat.le_of_ble_eq_true rfl) ?_
  refine c_zm (Z2 := z_Zs 34 33) (I2 := z_I0) (J2 := z_J0) (zs_put rfl) rfl rfl ?_
  refine c_iinc2 (v2 := (3 : Int32)) (L2 := [some (.ref 20), some (.int (3 : Int32))]) rfl rfl vi_1 (by decide) rfl rfl rfl ?_
  refine c_goto rfl ?_
  refine c_iload_n rfl rfl ?_
  refine c_bipush rfl vb_8 ?_
  refine c_icmp_ge rfl (fun q => absurd q (by decide)) (fun _ => ?_)
  refine c_aload_n rfl rfl ?_
  refine c_getR rfl fk_X2_11 rfl (Nat.le_of_ble_eq_true rfl) rfl ?_
  refine c_iload_n rfl rfl ?_
  refine e_new (ci := 1) (N := 4) (dc := 19) (ds := 76) rfl nk_X2_9 rfl (by decide) ?_
  refine c_zm (Z2 := z_Zs 35 33) (I2 := z_I0) (J2 := z_J0) (zs_new (k := 1) (len := 0) rfl rfl) z_I0_s rfl ?_
  refine c_dup rfl rfl ?_
  refine c_callIN (dc1 := 3) (ds1 := 12) (dc2 := 16) (ds2 := 64) (As := []) (st := [.ref 34, .int (3 : Int32), .ref 21]) rfl lk_X2_17 rfl rfl (Nat.le_of_ble_eq_true rfl) (Nat.le_of_ble_eq_true rfl) (Nat.le_of_ble_eq_true rfl) rfl rfl rfl ki_X1_init_34 ?_
  refine e_aast (j := 3) rfl rfl (Nat.le_of_ble_eq_true rfl) (by decide) zt_3 rfl (Nat.le_of_ble_eq_true rfl) ?_
  refine c_zm (Z2 := z_Zs 38 37) (I2 := z_I0) (J2 := z_J0) (zs_put rfl) rfl rfl ?_
  refine c_iinc2 (v2 := (4 : Int32)) (L2 := [some (.ref 20), some (.int (4 : Int32))]) rfl rfl vi_1 (by decide) rfl rfl rfl ?_
  refine c_goto rfl ?_
  refine c_iload_n rfl rfl ?_
  refine c_bipush rfl vb_8 ?_
  refine c_icmp_ge rfl (fun q => absurd q (by decide)) (fun _ => ?_)
  refine c_aload_n rfl rfl ?_
  refine c_getR rfl fk_X2_11 rfl (Nat.le_of_ble_eq_true rfl) rfl ?_
  refine c_iload_n rfl rfl ?_
  refine e_new (ci := 1) (N := 4) (dc := 15) (ds := 60) rfl nk_X2_9 rfl (by decide) ?_
  refine c_zm (Z2 := z_Zs 39 37) (I2 := z_I0) (J2 := z_J0) (zs_new (k := 1) (len := 0) rfl rfl) z_I0_s rfl ?_
  refine c_dup rfl rfl ?_
  refine c_callIN (dc1 := 3) (ds1 := 12) (dc2 := 12) (ds2 := 48) (As := []) (st := [.ref 38, .int (4 : Int32), .ref 21]) rfl lk_X2_17 rfl rfl (Nat.le_of_ble_eq_true rfl) (Nat.le_of_ble_eq_true rfl) (Nat.le_of_ble_eq_true rfl) rfl rfl rfl ki_X1_init_38 ?_
  refine e_aast (j := 4) rfl rfl (Nat.le_of_ble_eq_true rfl) (by decide) zt_4 rfl (Nat.le_of_ble_eq_true rfl) ?_
  refine c_zm (Z2 := z_Zs 42 41) (I2 := z_I0) (J2 := z_J0) (zs_put rfl) rfl rfl ?_
  refine c_iinc2 (v2 := (5 : Int32)) (L2 := [some (.ref 20), some (.int (5 : Int32))]) rfl rfl vi_1 (by decide) rfl rfl rfl ?_
  refine c_goto rfl ?_
  refine c_iload_n rfl rfl ?_
  refine c_bipush rfl vb_8 ?_
  refine c_icmp_ge rfl (fun q => absurd q (by decide)) (fun _ => ?_)
  refine c_aload_n rfl rfl ?_
  refine c_getR rfl fk_X2_11 rfl (Nat.le_of_ble_eq_true rfl) rfl ?_
  refine c_iload_n rfl rfl ?_
  refine e_new (ci := 1) (N := 4) (dc := 11) (ds := 44) rfl nk_X2_9 rfl (by decide) ?_
  refine c_zm (Z2 := z_Zs 43 41) (I2 := z_I0) (J2 := z_J0) (zs_new (k := 1) (len := 0) rfl rfl) z_I0_s rfl ?_
  refine c_dup rfl rfl ?_
  refine c_callIN (dc1 := 3) (ds1 := 12) (dc2 := 8) (ds2 := 32) (As := []) (st := [.ref 42, .int (5 : Int32), .ref 21]) rfl lk_X2_17 rfl rfl (Nat.le_of_ble_eq_true rfl) (Nat.le_of_ble_eq_true rfl) (Nat.le_of_ble_eq_true rfl) rfl rfl rfl ki_X1_init_42 ?_
  refine e_aast (j := 5) rfl rfl (Nat.le_of_ble_eq_true rfl) (by decide) zt_5 rfl (Nat.le_of_ble_eq_true rfl) ?_
  refine c_zm (Z2 := z_Zs 46 45) (I2 := z_I0) (J2 := z_J0) (zs_put rfl) rfl rfl ?_
  refine c_iinc2 (v2 := (6 : Int32)) (L2 := [some (.ref 20), some (.int (6 : Int32))]) rfl rfl vi_1 (by decide) rfl rfl rfl ?_
  refine c_goto rfl ?_
  refine c_iload_n rfl rfl ?_
  refine c_bipush rfl vb_8 ?_
  refine c_icmp_ge rfl (fun q => absurd q (by decide)) (fun _ => ?_)
  refine c_aload_n rfl rfl ?_
  refine c_getR rfl fk_X2_11 rfl (Nat.le_of_ble_eq_true rfl) rfl ?_
  refine c_iload_n rfl rfl ?_
  refine e_new (ci := 1) (N := 4) (dc := 7) (ds := 28) rfl nk_X2_9 rfl (by decide) ?_
  refine c_zm (Z2 := z_Zs 47 45) (I2 := z_I0) (J2 := z_J0) (zs_new (k := 1) (len := 0) rfl rfl) z_I0_s rfl ?_
  refine c_dup rfl rfl ?_
  refine c_callIN (dc1 := 3) (ds1 := 12) (dc2 := 4) (ds2 := 16) (As := []) (st := [.ref 46, .int (6 : Int32), .ref 21]) rfl lk_X2_17 rfl rfl (Nat.le_of_ble_eq_true rfl) (Nat.le_of_ble_eq_true rfl) (Nat.le_of_ble_eq_true rfl) rfl rfl rfl ki_X1_init_46 ?_
  refine e_aast (j := 6) rfl rfl (Nat.le_of_ble_eq_true rfl) (by decide) zt_6 rfl (Nat.le_of_ble_eq_true rfl) ?_
  refine c_zm (Z2 := z_Zs 50 49) (I2 := z_I0) (J2 := z_J0) (zs_put rfl) rfl rfl ?_
  refine c_iinc2 (v2 := (7 : Int32)) (L2 := [some (.ref 20), some (.int (7 : Int32))]) rfl rfl vi_1 (by decide) rfl rfl rfl ?_
  refine c_goto rfl ?_
  refine c_iload_n rfl rfl ?_
  refine c_bipush rfl vb_8 ?_
  refine c_icmp_ge rfl (fun q => absurd q (by decide)) (fun _ => ?_)
  refine c_aload_n rfl rfl ?_
  refine c_getR rfl fk_X2_11 rfl (Nat.le_of_ble_eq_true rfl) rfl ?_
  refine c_iload_n rfl rfl ?_
  refine e_new (ci := 1) (N := 4) (dc := 3) (ds := 12) rfl nk_X2_9 rfl (by decide) ?_
  refine c_zm (Z2 := z_Zs 51 49) (I2 := z_I0) (J2 := z_J0) (zs_new (k := 1) (len := 0) rfl rfl) z_I0_s rfl ?_
  refine c_dup rfl rfl ?_
  refine c_callIN (dc1 := 3) (ds1 := 12) (dc2 := 0) (ds2 := 0) (As := []) (st := [.ref 50, .int (7 : Int32), .ref 21]) rfl lk_X2_17 rfl rfl (Nat.le_of_ble_eq_true rfl) (Nat.le_of_ble_eq_true rfl) (Nat.le_of_ble_eq_true rfl) rfl rfl rfl ki_X1_init_50 ?_
  refine e_aast (j := 7) rfl rfl (Nat.le_of_ble_eq_true rfl) (by decide) zt_7 rfl (Nat.le_of_ble_eq_true rfl) ?_
  refine c_zm (Z2 := z_Zs 54 53) (I2 := z_I0) (J2 := z_J0) (zs_put rfl) rfl rfl ?_
  refine c_iinc2 (v2 := (8 : Int32)) (L2 := [some (.ref 20), some (.int (8 : Int32))]) rfl rfl vi_1 (by decide) rfl rfl rfl ?_
  refine c_goto rfl ?_
  refine c_iload_n rfl rfl ?_
  refine c_bipush rfl vb_8 ?_
  refine c_icmp_ge rfl (fun _ => ?_) (fun q => absurd (by decide) q)
  exact c_return rfl rfl
set_option maxRecDepth 20000 in
theorem ki_X1_init_55 {X : zk_X} : zC X 1 m_X1_init 0 (zk_ent [.ref 55] 1) [] (z_Zs 56 55, z_I0, z_J0) 3 12 none (z_Zs 59 58, z_I0, z_J0) := by
  refine c_ent (L2 := [some (.ref 55)]) rfl ?_
  refine c_aload_n rfl rfl ?_
  refine c_objInit rfl lk_X1_3 lk_oi1 lk_oi2 (Nat.le_of_ble_eq_true rfl) (Nat.le_of_ble_eq_true rfl) ?_
  refine c_aload_n rfl rfl ?_
  refine c_iconst rfl vi_4 ?_
  refine c_newa (q := 20) (N := 4) (dc := 2) (ds := 8) rfl (Or.inl rfl) rfl lk_aint (by decide) (by decide) (by decide) (by decide) ?_
  refine c_zm (Z2 := z_Zs 57 55) (I2 := z_I0) (J2 := z_J0) (zs_new (k := 20) (len := 4) rfl rfl) z_I0_s z_J0_s ?_
  refine c_putR rfl fk_X1_9 rfl rfl rfl (fun _ => ⟨rfl, rfl⟩) rfl (Nat.le_of_ble_eq_true rfl) ?_
  refine c_zm (Z2 := z_Zs 57 56) (I2 := z_I0) (J2 := z_J0) (zs_put rfl) rfl rfl ?_
  refine c_aload_n rfl rfl ?_
  refine c_iconst rfl vi_4 ?_
  refine c_newa (q := 20) (N := 4) (dc := 1) (ds := 4) rfl (Or.inl rfl) rfl lk_aint (by decide) (by decide) (by decide) (by decide) ?_
  refine c_zm (Z2 := z_Zs 58 56) (I2 := z_I0) (J2 := z_J0) (zs_new (k := 20) (len := 4) rfl rfl) z_I0_s z_J0_s ?_
  refine c_putR rfl fk_X1_15 rfl rfl rfl (fun _ => ⟨rfl, rfl⟩) rfl (Nat.le_of_ble_eq_true rfl) ?_
  refine c_zm (Z2 := z_Zs 58 57) (I2 := z_I0) (J2 := z_J0) (zs_put rfl) rfl rfl ?_
  refine c_aload_n rfl rfl ?_
  refine c_iconst rfl vi_4 ?_
  refine c_newa (q := 20) (N := 4) (dc := 0) (ds := 0) rfl (Or.inl rfl) rfl lk_aint (by decide) (by decide) (by decide) (by decide) ?_
  refine c_zm (Z2 := z_Zs 59 57) (I2 := z_I0) (J2 := z_J0) (zs_new (k := 20) (len := 4) rfl rfl) z_I0_s z_J0_s ?_
  refine c_putR rfl fk_X1_18 rfl rfl rfl (fun _ => ⟨rfl, rfl⟩) rfl (Nat.le_of_ble_eq_true rfl) ?_
  refine c_zm (Z2 := z_Zs 59 58) (I2 := z_I0) (J2 := z_J0) (zs_put rfl) rfl rfl ?_
  exact c_return rfl rfl
set_option maxRecDepth 20000 in
theorem ki_X1_init_59 {X : zk_X} : zC X 1 m_X1_init 0 (zk_ent [.ref 59] 1) [] (z_Zs 60 59, z_I0, z_J0) 3 12 none (z_Zs 63 62, z_I0, z_J0) := by
  refine c_ent (L2 := [some (.ref 59)]) rfl ?_
  refine c_aload_n rfl rfl ?_
  refine c_objInit rfl lk_X1_3 lk_oi1 lk_oi2 (Nat.le_of_ble_eq_true rfl) (Nat.le_of_ble_eq_true rfl) ?_
  refine c_aload_n rfl rfl ?_
  refine c_iconst rfl vi_4 ?_
  refine c_newa (q := 20) (N := 4) (dc := 2) (ds := 8) rfl (Or.inl rfl) rfl lk_aint (by decide) (by decide) (by decide) (by decide) ?_
  refine c_zm (Z2 := z_Zs 61 59) (I2 := z_I0) (J2 := z_J0) (zs_new (k := 20) (len := 4) rfl rfl) z_I0_s z_J0_s ?_
  refine c_putR rfl fk_X1_9 rfl rfl rfl (fun _ => ⟨rfl, rfl⟩) rfl (Nat.le_of_ble_eq_true rfl) ?_
  refine c_zm (Z2 := z_Zs 61 60) (I2 := z_I0) (J2 := z_J0) (zs_put rfl) rfl rfl ?_
  refine c_aload_n rfl rfl ?_
  refine c_iconst rfl vi_4 ?_
  refine c_newa (q := 20) (N := 4) (dc := 1) (ds := 4) rfl (Or.inl rfl) rfl lk_aint (by decide) (by decide) (by decide) (by decide) ?_
  refine c_zm (Z2 := z_Zs 62 60) (I2 := z_I0) (J2 := z_J0) (zs_new (k := 20) (len := 4) rfl rfl) z_I0_s z_J0_s ?_
  refine c_putR rfl fk_X1_15 rfl rfl rfl (fun _ => ⟨rfl, rfl⟩) rfl (Nat.le_of_ble_eq_true rfl) ?_
  refine c_zm (Z2 := z_Zs 62 61) (I2 := z_I0) (J2 := z_J0) (zs_put rfl) rfl rfl ?_
  refine c_aload_n rfl rfl ?_
  refine c_iconst rfl vi_4 ?_
  refine c_newa (q := 20) (N := 4) (dc := 0) (ds := 0) rfl (Or.inl rfl) rfl lk_aint (by decide) (by decide) (by decide) (by decide) ?_
  refine c_zm (Z2 := z_Zs 63 61) (I2 := z_I0) (J2 := z_J0) (zs_new (k := 20) (len := 4) rfl rfl) z_I0_s z_J0_s ?_
  refine c_putR rfl fk_X1_18 rfl rfl rfl (fun _ => ⟨rfl, rfl⟩) rfl (Nat.le_of_ble_eq_true rfl) ?_
  refine c_zm (Z2 := z_Zs 63 62) (I2 := z_I0) (J2 := z_J0) (zs_put rfl) rfl rfl ?_
  exact c_return rfl rfl
set_option maxRecDepth 20000 in
theorem ki_X3_init_63 {X : zk_X} : zC X 1 m_X3_init 0 (zk_ent [.ref 63, .ref 3] 2) [] (z_Zs 64 63, z_I0, z_J0) 6 4624 none (z_Zs 70 70, z_I0, z_J0) := by
  refine c_ent (L2 := [some (.ref 63), some (.ref 3)]) rfl ?_
  refine c_aload_n rfl rfl ?_
  refine c_objInit rfl lk_X3_3 lk_oi1 lk_oi2 (Nat.le_of_ble_eq_true rfl) (Nat.le_of_ble_eq_true rfl) ?_
  refine c_aload_n rfl rfl ?_
  refine c_bipush rfl vb_8 ?_
  refine c_newa (q := 20) (N := 8) (dc := 5) (ds := 4616) rfl (Or.inl rfl) rfl lk_aint (by decide) (by decide) (by decide) (by decide) ?_
  refine c_zm (Z2 := z_Zs 65 63) (I2 := z_I0) (J2 := z_J0) (zs_new (k := 20) (len := 8) rfl rfl) z_I0_s z_J0_s ?_
  refine c_putR rfl fk_X3_9 rfl rfl rfl (fun _ => ⟨rfl, rfl⟩) rfl (Nat.le_of_ble_eq_true rfl) ?_
  refine c_zm (Z2 := z_Zs 65 64) (I2 := z_I0) (J2 := z_J0) (zs_put rfl) rfl rfl ?_
  refine c_aload_n rfl rfl ?_
  refine c_bipush rfl vb_8 ?_
  refine c_newa (q := 20) (N := 8) (dc := 4) (ds := 4608) rfl (Or.inl rfl) rfl lk_aint (by decide) (by decide) (by decide) (by decide) ?_
  refine c_zm (Z2 := z_Zs 66 64) (I2 := z_I0) (J2 := z_J0) (zs_new (k := 20) (len := 8) rfl rfl) z_I0_s z_J0_s ?_
  refine c_putR rfl fk_X3_15 rfl rfl rfl (fun _ => ⟨rfl, rfl⟩) rfl (Nat.le_of_ble_eq_true rfl) ?_
  refine c_zm (Z2 := z_Zs 66 65) (I2 := z_I0) (J2 := z_J0) (zs_put rfl) rfl rfl ?_
  refine c_aload_n rfl rfl ?_
  refine c_sipush rfl vs_256 ?_
  refine c_newa (q := 20) (N := 256) (dc := 3) (ds := 4352) rfl (Or.inl rfl) rfl lk_aint (by decide) (by decide) (by decide) (by decide) ?_
  refine c_zm (Z2 := z_Zs 67 65) (I2 := z_I0) (J2 := z_J0) (zs_new (k := 20) (len := 256) rfl rfl) z_I0_s z_J0_s ?_
  refine c_putR rfl fk_X3_18 rfl rfl rfl (fun _ => ⟨rfl, rfl⟩) rfl (Nat.le_of_ble_eq_true rfl) ?_
  refine c_zm (Z2 := z_Zs 67 66) (I2 := z_I0) (J2 := z_J0) (zs_put rfl) rfl rfl ?_
  refine c_aload_n rfl rfl ?_
  refine c_sipush rfl vs_256 ?_
  refine c_newa (q := 20) (N := 256) (dc := 2) (ds := 4096) rfl (Or.inl rfl) rfl lk_aint (by decide) (by decide) (by decide) (by decide) ?_
  refine c_zm (Z2 := z_Zs 68 66) (I2 := z_I0) (J2 := z_J0) (zs_new (k := 20) (len := 256) rfl rfl) z_I0_s z_J0_s ?_
  refine c_putR rfl fk_X3_21 rfl rfl rfl (fun _ => ⟨rfl, rfl⟩) rfl (Nat.le_of_ble_eq_true rfl) ?_
  refine c_zm (Z2 := z_Zs 68 67) (I2 := z_I0) (J2 := z_J0) (zs_put rfl) rfl rfl ?_
  refine c_aload_n rfl rfl ?_
  refine c_sipush rfl vs_2048 ?_
  refine c_newa (q := 21) (N := 2048) (dc := 1) (ds := 2048) rfl (Or.inr (Or.inl rfl)) rfl lk_along (by decide) (by decide) (by decide) (by decide) ?_
  refine c_zm (Z2 := z_Zs 69 67) (I2 := z_I0) (J2 := z_J0) (zs_new (k := 21) (len := 2048) rfl rfl) z_I0_s z_J0_s ?_
  refine c_putR rfl fk_X3_24 rfl rfl rfl (fun _ => ⟨rfl, rfl⟩) rfl (Nat.le_of_ble_eq_true rfl) ?_
  refine c_zm (Z2 := z_Zs 69 68) (I2 := z_I0) (J2 := z_J0) (zs_put rfl) rfl rfl ?_
  refine c_aload_n rfl rfl ?_
  refine c_sipush rfl vs_2048 ?_
  refine c_newa (q := 21) (N := 2048) (dc := 0) (ds := 0) rfl (Or.inr (Or.inl rfl)) rfl lk_along (by decide) (by decide) (by decide) (by decide) ?_
  refine c_zm (Z2 := z_Zs 70 68) (I2 := z_I0) (J2 := z_J0) (zs_new (k := 21) (len := 2048) rfl rfl) z_I0_s z_J0_s ?_
  refine c_putR rfl fk_X3_28 rfl rfl rfl (fun _ => ⟨rfl, rfl⟩) rfl (Nat.le_of_ble_eq_true rfl) ?_
  refine c_zm (Z2 := z_Zs 70 69) (I2 := z_I0) (J2 := z_J0) (zs_put rfl) rfl rfl ?_
  refine c_aload_n rfl rfl ?_
  refine c_aload_n rfl rfl ?_
  refine c_putR rfl fk_X3_31 rfl rfl rfl (fun _ => ⟨rfl, rfl⟩) rfl (Nat.le_of_ble_eq_true rfl) ?_
  refine c_zm (Z2 := z_Zs 70 70) (I2 := z_I0) (J2 := z_J0) (zs_put rfl) rfl rfl ?_
  exact c_return rfl rfl
set_option maxRecDepth 20000 in
theorem ki_X4_init_72 {X : zk_X} : zC X 1 m_X4_init 0 (zk_ent [.ref 72] 1) [] (z_Zs 73 73, z_I0, z_J0) 3 24 none (z_Zs 76 76, z_I0, z_J0) := by
  refine c_ent (L2 := [some (.ref 72)]) rfl ?_
  refine c_aload_n rfl rfl ?_
  refine c_objInit rfl lk_X4_3 lk_oi1 lk_oi2 (Nat.le_of_ble_eq_true rfl) (Nat.le_of_ble_eq_true rfl) ?_
  refine c_aload_n rfl rfl ?_
  refine c_bipush rfl vb_8 ?_
  refine c_newa (q := 20) (N := 8) (dc := 2) (ds := 16) rfl (Or.inl rfl) rfl lk_aint (by decide) (by decide) (by decide) (by decide) ?_
  refine c_zm (Z2 := z_Zs 74 73) (I2 := z_I0) (J2 := z_J0) (zs_new (k := 20) (len := 8) rfl rfl) z_I0_s z_J0_s ?_
  refine c_putR rfl fk_X4_9 rfl rfl rfl (fun _ => ⟨rfl, rfl⟩) rfl (Nat.le_of_ble_eq_true rfl) ?_
  refine c_zm (Z2 := z_Zs 74 74) (I2 := z_I0) (J2 := z_J0) (zs_put rfl) rfl rfl ?_
  refine c_aload_n rfl rfl ?_
  refine c_bipush rfl vb_8 ?_
  refine c_newa (q := 20) (N := 8) (dc := 1) (ds := 8) rfl (Or.inl rfl) rfl lk_aint (by decide) (by decide) (by decide) (by decide) ?_
  refine c_zm (Z2 := z_Zs 75 74) (I2 := z_I0) (J2 := z_J0) (zs_new (k := 20) (len := 8) rfl rfl) z_I0_s z_J0_s ?_
  refine c_putR rfl fk_X4_15 rfl rfl rfl (fun _ => ⟨rfl, rfl⟩) rfl (Nat.le_of_ble_eq_true rfl) ?_
  refine c_zm (Z2 := z_Zs 75 75) (I2 := z_I0) (J2 := z_J0) (zs_put rfl) rfl rfl ?_
  refine c_aload_n rfl rfl ?_
  refine c_bipush rfl vb_8 ?_
  refine c_newa (q := 20) (N := 8) (dc := 0) (ds := 0) rfl (Or.inl rfl) rfl lk_aint (by decide) (by decide) (by decide) (by decide) ?_
  refine c_zm (Z2 := z_Zs 76 75) (I2 := z_I0) (J2 := z_J0) (zs_new (k := 20) (len := 8) rfl rfl) z_I0_s z_J0_s ?_
  refine c_putR rfl fk_X4_18 rfl rfl rfl (fun _ => ⟨rfl, rfl⟩) rfl (Nat.le_of_ble_eq_true rfl) ?_
  refine c_zm (Z2 := z_Zs 76 76) (I2 := z_I0) (J2 := z_J0) (zs_put rfl) rfl rfl ?_
  exact c_return rfl rfl
set_option maxRecDepth 20000 in
theorem ki_X7_init_0 {X : zk_X} : zC X 3 m_X7_init 0 (zk_ent [.ref 0] 2) [] (z_Zs 1 0, z_I0, z_J0) 75 5120 none (z_Zs 76 77, z_I0, z_J0) := by
  refine c_ent (L2 := [some (.ref 0), none]) rfl ?_
  refine c_aload_n rfl rfl ?_
  refine c_objInit rfl lk_X7_1 lk_oi1 lk_oi2 (Nat.le_of_ble_eq_true rfl) (Nat.le_of_ble_eq_true rfl) ?_
  refine c_aload_n rfl rfl ?_
  refine e_new (ci := 5) (N := 4) (dc := 74) (ds := 5116) rfl nk_X7_7 rfl (by decide) ?_
  refine c_zm (Z2 := z_Zs 2 0) (I2 := z_I0) (J2 := z_J0) (zs_new (k := 5) (len := 0) rfl rfl) z_I0_s rfl ?_
  refine c_dup rfl rfl ?_
  refine c_callIN (dc1 := 1) (ds1 := 160) (dc2 := 73) (ds2 := 4956) (As := []) (st := [.ref 1, .ref 0]) rfl lk_X7_9 rfl rfl (Nat.le_of_ble_eq_true rfl) (Nat.le_of_ble_eq_true rfl) (Nat.le_of_ble_eq_true rfl) rfl rfl rfl ki_X5_init_1 ?_
  refine c_putR rfl fk_X7_10 rfl rfl rfl (fun _ => ⟨rfl, rfl⟩) rfl (Nat.le_of_ble_eq_true rfl) ?_
  refine c_zm (Z2 := z_Zs 3 2) (I2 := z_I0) (J2 := z_J0) (zs_put rfl) rfl rfl ?_
  refine c_aload_n rfl rfl ?_
  refine e_new (ci := 6) (N := 7) (dc := 72) (ds := 4949) rfl nk_X7_16 rfl (by decide) ?_
  refine c_zm (Z2 := z_Zs 4 2) (I2 := z_I0) (J2 := z_J0) (zs_new (k := 6) (len := 0) rfl rfl) z_I0_s rfl ?_
  refine c_dup rfl rfl ?_
  refine c_callIN (dc1 := 5) (ds1 := 36) (dc2 := 67) (ds2 := 4913) (As := []) (st := [.ref 3, .ref 0]) rfl lk_X7_18 rfl rfl (Nat.le_of_ble_eq_true rfl) (Nat.le_of_ble_eq_true rfl) (Nat.le_of_ble_eq_true rfl) rfl rfl rfl ki_X6_init_3 ?_
  refine c_putR rfl fk_X7_19 rfl rfl rfl (fun _ => ⟨rfl, rfl⟩) rfl (Nat.le_of_ble_eq_true rfl) ?_
  refine c_zm (Z2 := z_Zs 9 8) (I2 := z_I0) (J2 := z_J0) (zs_put rfl) rfl rfl ?_
  refine c_aload_n rfl rfl ?_
  refine e_new (ci := 0) (N := 3) (dc := 66) (ds := 4910) rfl nk_X7_23 rfl (by decide) ?_
  refine c_zm (Z2 := z_Zs 10 8) (I2 := z_I0) (J2 := z_J0) (zs_new (k := 0) (len := 0) rfl rfl) z_I0_s rfl ?_
  refine c_dup rfl rfl ?_
  refine c_aload_n rfl rfl ?_
  refine c_getR rfl fk_X7_10 rfl (Nat.le_of_ble_eq_true rfl) rfl ?_
  refine c_callI (dc1 := 6) (ds1 := 43) (dc2 := 60) (ds2 := 4867) (As := [.ref 1]) (st := [.ref 9, .ref 0]) rfl lk_X7_25 rfl rfl (Nat.le_of_ble_eq_true rfl) (Nat.le_of_ble_eq_true rfl) (Nat.le_of_ble_eq_true rfl) rfl rfl rfl ki_X0_init_9 ?_
  refine c_putR rfl fk_X7_28 rfl rfl rfl (fun _ => ⟨rfl, rfl⟩) rfl (Nat.le_of_ble_eq_true rfl) ?_
  refine c_zm (Z2 := z_Zs 16 16) (I2 := z_I0) (J2 := z_J0) (zs_put rfl) rfl rfl ?_
  refine c_aload_n rfl rfl ?_
  refine e_new (ci := 1) (N := 4) (dc := 59) (ds := 4863) rfl nk_X7_32 rfl (by decide) ?_
  refine c_zm (Z2 := z_Zs 17 16) (I2 := z_I0) (J2 := z_J0) (zs_new (k := 1) (len := 0) rfl rfl) z_I0_s rfl ?_
  refine c_dup rfl rfl ?_
  refine c_callIN (dc1 := 3) (ds1 := 12) (dc2 := 56) (ds2 := 4851) (As := []) (st := [.ref 16, .ref 0]) rfl lk_X7_34 rfl rfl (Nat.le_of_ble_eq_true rfl) (Nat.le_of_ble_eq_true rfl) (Nat.le_of_ble_eq_true rfl) rfl rfl rfl ki_X1_init_16 ?_
  refine c_putR rfl fk_X7_35 rfl rfl rfl (fun _ => ⟨rfl, rfl⟩) rfl (Nat.le_of_ble_eq_true rfl) ?_
  refine c_zm (Z2 := z_Zs 20 20) (I2 := z_I0) (J2 := z_J0) (zs_put rfl) rfl rfl ?_
  refine c_aload_n rfl rfl ?_
  refine e_new (ci := 2) (N := 3) (dc := 55) (ds := 4848) rfl nk_X7_39 rfl (by decide) ?_
  refine c_zm (Z2 := z_Zs 21 20) (I2 := z_I0) (J2 := z_J0) (zs_new (k := 2) (len := 0) rfl rfl) z_I0_s rfl ?_
  refine c_dup rfl rfl ?_
  refine c_callI (dc1 := 33) (ds1 := 136) (dc2 := 22) (ds2 := 4712) (As := []) (st := [.ref 20, .ref 0]) rfl lk_X7_41 rfl rfl (Nat.le_of_ble_eq_true rfl) (Nat.le_of_ble_eq_true rfl) (Nat.le_of_ble_eq_true rfl) rfl rfl rfl ki_X2_init_20 ?_
  refine c_putR rfl fk_X7_42 rfl rfl rfl (fun _ => ⟨rfl, rfl⟩) rfl (Nat.le_of_ble_eq_true rfl) ?_
  refine c_zm (Z2 := z_Zs 54 54) (I2 := z_I0) (J2 := z_J0) (zs_put rfl) rfl rfl ?_
  refine c_aload_n rfl rfl ?_
  refine c_iconst rfl vi_2 ?_
  refine c_anew (N := 2) (dc := 21) (ds := 4710) rfl nk_X7_32.2.1 (by decide) (by decide) (by decide) (by decide) ?_
  refine c_zm (Z2 := z_Zs 55 54) (I2 := z_I0) (J2 := z_J0) (zs_new (k := 24) (len := 2) rfl rfl) z_I0_s rfl ?_
  refine c_putR rfl fk_X7_46 rfl rfl rfl (fun _ => ⟨rfl, rfl⟩) rfl (Nat.le_of_ble_eq_true rfl) ?_
  refine c_zm (Z2 := z_Zs 55 55) (I2 := z_I0) (J2 := z_J0) (zs_put rfl) rfl rfl ?_
  refine c_iconst rfl vi_0 ?_
  refine e_istore_n (L2 := [some (.ref 0), some (.int (0 : Int32))]) rfl rfl rfl rfl ?_
  refine c_iload_n rfl rfl ?_
  refine c_iconst rfl vi_2 ?_
  refine c_icmp_ge rfl (fun q => absurd q (by decide)) (fun _ => ?_)
  refine c_aload_n rfl rfl ?_
  refine c_getR rfl fk_X7_46 rfl (Nat.le_of_ble_eq_true rfl) rfl ?_
  refine c_iload_n rfl rfl ?_
  refine e_new (ci := 1) (N := 4) (dc := 20) (ds := 4706) rfl nk_X7_32 rfl (by decide) ?_
  refine c_zm (Z2 := z_Zs 56 55) (I2 := z_I0) (J2 := z_J0) (zs_new (k := 1) (len := 0) rfl rfl) z_I0_s rfl ?_
  refine c_dup rfl rfl ?_
  refine c_callIN (dc1 := 3) (ds1 := 12) (dc2 := 17) (ds2 := 4694) (As := []) (st := [.ref 55, .int (0 : Int32), .ref 54]) rfl lk_X7_34 rfl rfl (Nat.le_of_ble_eq_true rfl) (Nat.le_of_ble_eq_true rfl) (Nat.le_of_ble_eq_true rfl) rfl rfl rfl ki_X1_init_55 ?_
  refine e_aast (j := 0) rfl rfl (Nat.le_of_ble_eq_true rfl) (by decide) zt_0 rfl (Nat.le_of_ble_eq_true rfl) ?_
  refine c_zm (Z2 := z_Zs 59 59) (I2 := z_I0) (J2 := z_J0) (zs_put rfl) rfl rfl ?_
  refine c_iinc2 (v2 := (1 : Int32)) (L2 := [some (.ref 0), some (.int (1 : Int32))]) rfl rfl vi_1 (by decide) rfl rfl rfl ?_
  refine c_goto rfl ?_
  refine c_iload_n rfl rfl ?_
  refine c_iconst rfl vi_2 ?_
  refine c_icmp_ge rfl (fun q => absurd q (by decide)) (fun _ => ?_)
  refine c_aload_n rfl rfl ?_
  refine c_getR rfl fk_X7_46 rfl (Nat.le_of_ble_eq_true rfl) rfl ?_
  refine c_iload_n rfl rfl ?_
  refine e_new (ci := 1) (N := 4) (dc := 16) (ds := 4690) rfl nk_X7_32 rfl (by decide) ?_
  refine c_zm (Z2 := z_Zs 60 59) (I2 := z_I0) (J2 := z_J0) (zs_new (k := 1) (len := 0) rfl rfl) z_I0_s rfl ?_
  refine c_dup rfl rfl ?_
  refine c_callIN (dc1 := 3) (ds1 := 12) (dc2 := 13) (ds2 := 4678) (As := []) (st := [.ref 59, .int (1 : Int32), .ref 54]) rfl lk_X7_34 rfl rfl (Nat.le_of_ble_eq_true rfl) (Nat.le_of_ble_eq_true rfl) (Nat.le_of_ble_eq_true rfl) rfl rfl rfl ki_X1_init_59 ?_
  refine e_aast (j := 1) rfl rfl (Nat.le_of_ble_eq_true rfl) (by decide) zt_1 rfl (Nat.le_of_ble_eq_true rfl) ?_
  refine c_zm (Z2 := z_Zs 63 63) (I2 := z_I0) (J2 := z_J0) (zs_put rfl) rfl rfl ?_
  refine c_iinc2 (v2 := (2 : Int32)) (L2 := [some (.ref 0), some (.int (2 : Int32))]) rfl rfl vi_1 (by decide) rfl rfl rfl ?_
  refine c_goto rfl ?_
  refine c_iload_n rfl rfl ?_
  refine c_iconst rfl vi_2 ?_
  refine c_icmp_ge rfl (fun _ => ?_) (fun q => absurd (by decide) q)
  refine c_aload_n rfl rfl ?_
  refine e_new (ci := 3) (N := 10) (dc := 12) (ds := 4668) rfl nk_X7_50 rfl (by decide) ?_
  refine c_zm (Z2 := z_Zs 64 63) (I2 := z_I0) (J2 := z_J0) (zs_new (k := 3) (len := 0) rfl rfl) z_I0_s rfl ?_
  refine c_dup rfl rfl ?_
  refine c_aload_n rfl rfl ?_
  refine c_getR rfl fk_X7_19 rfl (Nat.le_of_ble_eq_true rfl) rfl ?_
  refine c_callI (dc1 := 6) (ds1 := 4624) (dc2 := 6) (ds2 := 44) (As := [.ref 3]) (st := [.ref 63, .ref 0]) rfl lk_X7_52 rfl rfl (Nat.le_of_ble_eq_true rfl) (Nat.le_of_ble_eq_true rfl) (Nat.le_of_ble_eq_true rfl) rfl rfl rfl ki_X3_init_63 ?_
  refine c_putR rfl fk_X7_55 rfl rfl rfl (fun _ => ⟨rfl, rfl⟩) rfl (Nat.le_of_ble_eq_true rfl) ?_
  refine c_zm (Z2 := z_Zs 70 71) (I2 := z_I0) (J2 := z_J0) (zs_put rfl) rfl rfl ?_
  refine c_aload_n rfl rfl ?_
  refine c_bipush rfl vb_8 ?_
  refine c_newa (q := 20) (N := 8) (dc := 5) (ds := 36) rfl (Or.inl rfl) rfl lk_aint (by decide) (by decide) (by decide) (by decide) ?_
  refine c_zm (Z2 := z_Zs 71 71) (I2 := z_I0) (J2 := z_J0) (zs_new (k := 20) (len := 8) rfl rfl) z_I0_s z_J0_s ?_
  refine c_putR rfl fk_X7_59 rfl rfl rfl (fun _ => ⟨rfl, rfl⟩) rfl (Nat.le_of_ble_eq_true rfl) ?_
  refine c_zm (Z2 := z_Zs 71 72) (I2 := z_I0) (J2 := z_J0) (zs_put rfl) rfl rfl ?_
  refine c_aload_n rfl rfl ?_
  refine c_bipush rfl vb_8 ?_
  refine c_newa (q := 20) (N := 8) (dc := 4) (ds := 28) rfl (Or.inl rfl) rfl lk_aint (by decide) (by decide) (by decide) (by decide) ?_
  refine c_zm (Z2 := z_Zs 72 72) (I2 := z_I0) (J2 := z_J0) (zs_new (k := 20) (len := 8) rfl rfl) z_I0_s z_J0_s ?_
  refine c_putR rfl fk_X7_63 rfl rfl rfl (fun _ => ⟨rfl, rfl⟩) rfl (Nat.le_of_ble_eq_true rfl) ?_
  refine c_zm (Z2 := z_Zs 72 73) (I2 := z_I0) (J2 := z_J0) (zs_put rfl) rfl rfl ?_
  refine c_aload_n rfl rfl ?_
  refine e_new (ci := 4) (N := 4) (dc := 3) (ds := 24) rfl nk_X7_66 rfl (by decide) ?_
  refine c_zm (Z2 := z_Zs 73 73) (I2 := z_I0) (J2 := z_J0) (zs_new (k := 4) (len := 0) rfl rfl) z_I0_s rfl ?_
  refine c_dup rfl rfl ?_
  refine c_callIN (dc1 := 3) (ds1 := 24) (dc2 := 0) (ds2 := 0) (As := []) (st := [.ref 72, .ref 0]) rfl lk_X7_68 rfl rfl (Nat.le_of_ble_eq_true rfl) (Nat.le_of_ble_eq_true rfl) (Nat.le_of_ble_eq_true rfl) rfl rfl rfl ki_X4_init_72 ?_
  refine c_putR rfl fk_X7_69 rfl rfl rfl (fun _ => ⟨rfl, rfl⟩) rfl (Nat.le_of_ble_eq_true rfl) ?_
  refine c_zm (Z2 := z_Zs 76 77) (I2 := z_I0) (J2 := z_J0) (zs_put rfl) rfl rfl ?_
  exact c_return rfl rfl
set_option maxRecDepth 20000 in
theorem ki_X8_init_76 {X : zk_X} : zC X 1 m_X8_init 0 (zk_ent [.ref 76] 1) [] (z_Zs 77 77, z_I0, z_J0) 17 16792 none (z_Zs 94 94, z_I0, z_J0) := by
  refine c_ent (L2 := [some (.ref 76)]) rfl ?_
  refine c_aload_n rfl rfl ?_
  refine c_objInit rfl lk_X8_1 lk_oi1 lk_oi2 (Nat.le_of_ble_eq_true rfl) (Nat.le_of_ble_eq_true rfl) ?_
  refine c_aload_n rfl rfl ?_
  refine c_sipush rfl vs_160 ?_
  refine c_newa (q := 20) (N := 160) (dc := 16) (ds := 16632) rfl (Or.inl rfl) rfl lk_aint (by decide) (by decide) (by decide) (by decide) ?_
  refine c_zm (Z2 := z_Zs 78 77) (I2 := z_I0) (J2 := z_J0) (zs_new (k := 20) (len := 160) rfl rfl) z_I0_s z_J0_s ?_
  refine c_putR rfl fk_X8_7 rfl rfl rfl (fun _ => ⟨rfl, rfl⟩) rfl (Nat.le_of_ble_eq_true rfl) ?_
  refine c_zm (Z2 := z_Zs 78 78) (I2 := z_I0) (J2 := z_J0) (zs_put rfl) rfl rfl ?_
  refine c_aload_n rfl rfl ?_
  refine c_bipush rfl vb_38 ?_
  refine c_newa (q := 20) (N := 38) (dc := 15) (ds := 16594) rfl (Or.inl rfl) rfl lk_aint (by decide) (by decide) (by decide) (by decide) ?_
  refine c_zm (Z2 := z_Zs 79 78) (I2 := z_I0) (J2 := z_J0) (zs_new (k := 20) (len := 38) rfl rfl) z_I0_s z_J0_s ?_
  refine c_putR rfl fk_X8_13 rfl rfl rfl (fun _ => ⟨rfl, rfl⟩) rfl (Nat.le_of_ble_eq_true rfl) ?_
  refine c_zm (Z2 := z_Zs 79 79) (I2 := z_I0) (J2 := z_J0) (zs_put rfl) rfl rfl ?_
  refine c_aload_n rfl rfl ?_
  refine c_bipush rfl vb_38 ?_
  refine c_newa (q := 20) (N := 38) (dc := 14) (ds := 16556) rfl (Or.inl rfl) rfl lk_aint (by decide) (by decide) (by decide) (by decide) ?_
  refine c_zm (Z2 := z_Zs 80 79) (I2 := z_I0) (J2 := z_J0) (zs_new (k := 20) (len := 38) rfl rfl) z_I0_s z_J0_s ?_
  refine c_putR rfl fk_X8_16 rfl rfl rfl (fun _ => ⟨rfl, rfl⟩) rfl (Nat.le_of_ble_eq_true rfl) ?_
  refine c_zm (Z2 := z_Zs 80 80) (I2 := z_I0) (J2 := z_J0) (zs_put rfl) rfl rfl ?_
  refine c_aload_n rfl rfl ?_
  refine c_bipush rfl vb_14 ?_
  refine c_newa (q := 20) (N := 14) (dc := 13) (ds := 16542) rfl (Or.inl rfl) rfl lk_aint (by decide) (by decide) (by decide) (by decide) ?_
  refine c_zm (Z2 := z_Zs 81 80) (I2 := z_I0) (J2 := z_J0) (zs_new (k := 20) (len := 14) rfl rfl) z_I0_s z_J0_s ?_
  refine c_putR rfl fk_X8_19 rfl rfl rfl (fun _ => ⟨rfl, rfl⟩) rfl (Nat.le_of_ble_eq_true rfl) ?_
  refine c_zm (Z2 := z_Zs 81 81) (I2 := z_I0) (J2 := z_J0) (zs_put rfl) rfl rfl ?_
  refine c_aload_n rfl rfl ?_
  refine c_bipush rfl vb_112 ?_
  refine c_newa (q := 20) (N := 112) (dc := 12) (ds := 16430) rfl (Or.inl rfl) rfl lk_aint (by decide) (by decide) (by decide) (by decide) ?_
  refine c_zm (Z2 := z_Zs 82 81) (I2 := z_I0) (J2 := z_J0) (zs_new (k := 20) (len := 112) rfl rfl) z_I0_s z_J0_s ?_
  refine c_putR rfl fk_X8_22 rfl rfl rfl (fun _ => ⟨rfl, rfl⟩) rfl (Nat.le_of_ble_eq_true rfl) ?_
  refine c_zm (Z2 := z_Zs 82 82) (I2 := z_I0) (J2 := z_J0) (zs_put rfl) rfl rfl ?_
  refine c_aload_n rfl rfl ?_
  refine c_bipush rfl vb_28 ?_
  refine c_newa (q := 20) (N := 28) (dc := 11) (ds := 16402) rfl (Or.inl rfl) rfl lk_aint (by decide) (by decide) (by decide) (by decide) ?_
  refine c_zm (Z2 := z_Zs 83 82) (I2 := z_I0) (J2 := z_J0) (zs_new (k := 20) (len := 28) rfl rfl) z_I0_s z_J0_s ?_
  refine c_putR rfl fk_X8_25 rfl rfl rfl (fun _ => ⟨rfl, rfl⟩) rfl (Nat.le_of_ble_eq_true rfl) ?_
  refine c_zm (Z2 := z_Zs 83 83) (I2 := z_I0) (J2 := z_J0) (zs_put rfl) rfl rfl ?_
  refine c_aload_n rfl rfl ?_
  refine c_iconst rfl vi_2 ?_
  refine c_newa (q := 22) (N := 2) (dc := 10) (ds := 16400) rfl (Or.inr (Or.inr (Or.inl rfl))) rfl lk_aboolean (by decide) (by decide) (by decide) (by decide) ?_
  refine c_zm (Z2 := z_Zs 84 83) (I2 := z_I0) (J2 := z_J0) (zs_new (k := 22) (len := 2) rfl rfl) z_I0_s z_J0_s ?_
  refine c_putR rfl fk_X8_28 rfl rfl rfl (fun _ => ⟨rfl, rfl⟩) rfl (Nat.le_of_ble_eq_true rfl) ?_
  refine c_zm (Z2 := z_Zs 84 84) (I2 := z_I0) (J2 := z_J0) (zs_put rfl) rfl rfl ?_
  refine c_aload_n rfl rfl ?_
  refine c_bipush rfl vb_8 ?_
  refine c_newa (q := 20) (N := 8) (dc := 9) (ds := 16392) rfl (Or.inl rfl) rfl lk_aint (by decide) (by decide) (by decide) (by decide) ?_
  refine c_zm (Z2 := z_Zs 85 84) (I2 := z_I0) (J2 := z_J0) (zs_new (k := 20) (len := 8) rfl rfl) z_I0_s z_J0_s ?_
  refine c_putR rfl fk_X8_32 rfl rfl rfl (fun _ => ⟨rfl, rfl⟩) rfl (Nat.le_of_ble_eq_true rfl) ?_
  refine c_zm (Z2 := z_Zs 85 85) (I2 := z_I0) (J2 := z_J0) (zs_put rfl) rfl rfl ?_
  refine c_aload_n rfl rfl ?_
  refine c_sipush rfl vs_2048 ?_
  refine c_newa (q := 20) (N := 2048) (dc := 8) (ds := 14344) rfl (Or.inl rfl) rfl lk_aint (by decide) (by decide) (by decide) (by decide) ?_
  refine c_zm (Z2 := z_Zs 86 85) (I2 := z_I0) (J2 := z_J0) (zs_new (k := 20) (len := 2048) rfl rfl) z_I0_s z_J0_s ?_
  refine c_putR rfl fk_X8_35 rfl rfl rfl (fun _ => ⟨rfl, rfl⟩) rfl (Nat.le_of_ble_eq_true rfl) ?_
  refine c_zm (Z2 := z_Zs 86 86) (I2 := z_I0) (J2 := z_J0) (zs_put rfl) rfl rfl ?_
  refine c_aload_n rfl rfl ?_
  refine c_sipush rfl vs_2048 ?_
  refine c_newa (q := 20) (N := 2048) (dc := 7) (ds := 12296) rfl (Or.inl rfl) rfl lk_aint (by decide) (by decide) (by decide) (by decide) ?_
  refine c_zm (Z2 := z_Zs 87 86) (I2 := z_I0) (J2 := z_J0) (zs_new (k := 20) (len := 2048) rfl rfl) z_I0_s z_J0_s ?_
  refine c_putR rfl fk_X8_38 rfl rfl rfl (fun _ => ⟨rfl, rfl⟩) rfl (Nat.le_of_ble_eq_true rfl) ?_
  refine c_zm (Z2 := z_Zs 87 87) (I2 := z_I0) (J2 := z_J0) (zs_put rfl) rfl rfl ?_
  refine c_aload_n rfl rfl ?_
  refine c_sipush rfl vs_2048 ?_
  refine c_newa (q := 20) (N := 2048) (dc := 6) (ds := 10248) rfl (Or.inl rfl) rfl lk_aint (by decide) (by decide) (by decide) (by decide) ?_
  refine c_zm (Z2 := z_Zs 88 87) (I2 := z_I0) (J2 := z_J0) (zs_new (k := 20) (len := 2048) rfl rfl) z_I0_s z_J0_s ?_
  refine c_putR rfl fk_X8_41 rfl rfl rfl (fun _ => ⟨rfl, rfl⟩) rfl (Nat.le_of_ble_eq_true rfl) ?_
  refine c_zm (Z2 := z_Zs 88 88) (I2 := z_I0) (J2 := z_J0) (zs_put rfl) rfl rfl ?_
  refine c_aload_n rfl rfl ?_
  refine c_sipush rfl vs_2048 ?_
  refine c_newa (q := 20) (N := 2048) (dc := 5) (ds := 8200) rfl (Or.inl rfl) rfl lk_aint (by decide) (by decide) (by decide) (by decide) ?_
  refine c_zm (Z2 := z_Zs 89 88) (I2 := z_I0) (J2 := z_J0) (zs_new (k := 20) (len := 2048) rfl rfl) z_I0_s z_J0_s ?_
  refine c_putR rfl fk_X8_44 rfl rfl rfl (fun _ => ⟨rfl, rfl⟩) rfl (Nat.le_of_ble_eq_true rfl) ?_
  refine c_zm (Z2 := z_Zs 89 89) (I2 := z_I0) (J2 := z_J0) (zs_put rfl) rfl rfl ?_
  refine c_aload_n rfl rfl ?_
  refine c_sipush rfl vs_2048 ?_
  refine c_newa (q := 20) (N := 2048) (dc := 4) (ds := 6152) rfl (Or.inl rfl) rfl lk_aint (by decide) (by decide) (by decide) (by decide) ?_
  refine c_zm (Z2 := z_Zs 90 89) (I2 := z_I0) (J2 := z_J0) (zs_new (k := 20) (len := 2048) rfl rfl) z_I0_s z_J0_s ?_
  refine c_putR rfl fk_X8_47 rfl rfl rfl (fun _ => ⟨rfl, rfl⟩) rfl (Nat.le_of_ble_eq_true rfl) ?_
  refine c_zm (Z2 := z_Zs 90 90) (I2 := z_I0) (J2 := z_J0) (zs_put rfl) rfl rfl ?_
  refine c_aload_n rfl rfl ?_
  refine c_sipush rfl vs_2048 ?_
  refine c_newa (q := 20) (N := 2048) (dc := 3) (ds := 4104) rfl (Or.inl rfl) rfl lk_aint (by decide) (by decide) (by decide) (by decide) ?_
  refine c_zm (Z2 := z_Zs 91 90) (I2 := z_I0) (J2 := z_J0) (zs_new (k := 20) (len := 2048) rfl rfl) z_I0_s z_J0_s ?_
  refine c_putR rfl fk_X8_50 rfl rfl rfl (fun _ => ⟨rfl, rfl⟩) rfl (Nat.le_of_ble_eq_true rfl) ?_
  refine c_zm (Z2 := z_Zs 91 91) (I2 := z_I0) (J2 := z_J0) (zs_put rfl) rfl rfl ?_
  refine c_aload_n rfl rfl ?_
  refine c_sipush rfl vs_2048 ?_
  refine c_newa (q := 22) (N := 2048) (dc := 2) (ds := 2056) rfl (Or.inr (Or.inr (Or.inl rfl))) rfl lk_aboolean (by decide) (by decide) (by decide) (by decide) ?_
  refine c_zm (Z2 := z_Zs 92 91) (I2 := z_I0) (J2 := z_J0) (zs_new (k := 22) (len := 2048) rfl rfl) z_I0_s z_J0_s ?_
  refine c_putR rfl fk_X8_53 rfl rfl rfl (fun _ => ⟨rfl, rfl⟩) rfl (Nat.le_of_ble_eq_true rfl) ?_
  refine c_zm (Z2 := z_Zs 92 92) (I2 := z_I0) (J2 := z_J0) (zs_put rfl) rfl rfl ?_
  refine c_aload_n rfl rfl ?_
  refine c_sipush rfl vs_2048 ?_
  refine c_newa (q := 21) (N := 2048) (dc := 1) (ds := 8) rfl (Or.inr (Or.inl rfl)) rfl lk_along (by decide) (by decide) (by decide) (by decide) ?_
  refine c_zm (Z2 := z_Zs 93 92) (I2 := z_I0) (J2 := z_J0) (zs_new (k := 21) (len := 2048) rfl rfl) z_I0_s z_J0_s ?_
  refine c_putR rfl fk_X8_56 rfl rfl rfl (fun _ => ⟨rfl, rfl⟩) rfl (Nat.le_of_ble_eq_true rfl) ?_
  refine c_zm (Z2 := z_Zs 93 93) (I2 := z_I0) (J2 := z_J0) (zs_put rfl) rfl rfl ?_
  refine c_aload_n rfl rfl ?_
  refine c_bipush rfl vb_8 ?_
  refine c_newa (q := 20) (N := 8) (dc := 0) (ds := 0) rfl (Or.inl rfl) rfl lk_aint (by decide) (by decide) (by decide) (by decide) ?_
  refine c_zm (Z2 := z_Zs 94 93) (I2 := z_I0) (J2 := z_J0) (zs_new (k := 20) (len := 8) rfl rfl) z_I0_s z_J0_s ?_
  refine c_putR rfl fk_X8_60 rfl rfl rfl (fun _ => ⟨rfl, rfl⟩) rfl (Nat.le_of_ble_eq_true rfl) ?_
  refine c_zm (Z2 := z_Zs 94 94) (I2 := z_I0) (J2 := z_J0) (zs_put rfl) rfl rfl ?_
  exact c_return rfl rfl
theorem z_Zs_end : z_Zs 94 94 = z_Z := by
  have hS : ∀ c, (z_St.take 94).getD c (99, 0) = z_S c := by
    intro c
    have : z_St.take 94 = z_St := List.take_of_length_le (by decide)
    rw [this]
    rfl
  have hR : ∀ c, c < 94 → ∀ j, j < 24 → z_Rl z_As c j = z_R c j := by decide +kernel
  have hbig : ∀ q ∈ z_As, q.1 < 94 ∧ q.2.1 < 24 := by decide +kernel
  have hno : ∀ (l : List (Nat × Nat × Nat)) (c j : Nat), (∀ q ∈ l, q.1 < 94 ∧ q.2.1 < 24) → (94 ≤ c ∨ 24 ≤ j) → z_Rl l c j = none := by
    intro l
    induction l with
    | nil => intro c j _ _; rfl
    | cons q t ih =>
      intro c j hq hc
      have h1 := hq q List.mem_cons_self
      have hb : (Nat.beq c q.1 && Nat.beq j q.2.1) = false := by
        cases hb : (Nat.beq c q.1 && Nat.beq j q.2.1) with
        | false => rfl
        | true =>
          rw [Bool.and_eq_true] at hb
          have e1 := Nat.eq_of_beq_eq_true hb.1
          have e2 := Nat.eq_of_beq_eq_true hb.2
          omega
      simp only [z_Rl, hb, cond_false]
      exact ih c j (fun q hq2 => hq q (List.mem_cons_of_mem _ hq2)) hc
  have hlen : z_Rt.length = 94 := by decide
  have hrow : ∀ r ∈ z_Rt, r.length ≤ 24 := by decide +kernel
  refine Prod.ext rfl (Prod.ext (funext hS) ?_)
  funext c j
  show z_Rl (z_As.drop (94 - 94)) c j = z_R c j
  rw [Nat.sub_self, List.drop_zero]
  by_cases h : c < 94 ∧ j < 24
  · exact hR c h.1 j h.2
  · rw [hno z_As c j hbig (by omega)]
    symm
    simp only [z_R, List.getD_eq_getElem?_getD]
    by_cases hc : c < 94
    · have hl : c < z_Rt.length := by omega
      rw [List.getElem?_eq_getElem hl, Option.getD_some, List.getElem?_eq_none (by have := hrow _ (List.getElem_mem hl); omega)]
      rfl
    · rw [List.getElem?_eq_none (l := z_Rt) (i := c) (by omega)]
      rfl
set_option maxRecDepth 20000 in
theorem k_law0 {X : zk_X} {r : Int32} {IR : zk_I} {JR : zk_J} (h : f_law X z_I0 z_J0 = some (r, IR, JR)) : zC X 16 m_L_law 0 (zk_ent [.ref 1000] 4) [] (z_Zs 0 0, z_I0, z_J0) 94 21947 (some (.int r)) (z_Z, IR, JR) := by
  refine c_ent (L2 := [some (.ref 1000), none, none, none]) rfl ?_
  refine e_new (ci := 7) (N := 11) (dc := 93) (ds := 21936) rfl nk_L_7 rfl (by decide) ?_
  refine c_zm (Z2 := z_Zs 1 0) (I2 := z_I0) (J2 := z_J0) (zs_new (k := 7) (len := 0) rfl rfl) z_I0_s rfl ?_
  refine c_dup rfl rfl ?_
  refine c_callI (dc1 := 75) (ds1 := 5120) (dc2 := 18) (ds2 := 16816) (As := []) (st := [.ref 0]) rfl lk_L_9 rfl rfl (Nat.le_of_ble_eq_true rfl) (Nat.le_of_ble_eq_true rfl) (Nat.le_of_ble_eq_true rfl) rfl rfl rfl ki_X7_init_0 ?_
  refine e_astore_n (L2 := [some (.ref 1000), some (.ref 0), none, none]) rfl rfl rfl rfl ?_
  refine e_new (ci := 8) (N := 24) (dc := 17) (ds := 16792) rfl nk_L_10 rfl (by decide) ?_
  refine c_zm (Z2 := z_Zs 77 77) (I2 := z_I0) (J2 := z_J0) (zs_new (k := 8) (len := 0) rfl rfl) z_I0_s rfl ?_
  refine c_dup rfl rfl ?_
  refine c_callI (dc1 := 17) (ds1 := 16792) (dc2 := 0) (ds2 := 0) (As := []) (st := [.ref 76]) rfl lk_L_12 rfl rfl (Nat.le_of_ble_eq_true rfl) (Nat.le_of_ble_eq_true rfl) (Nat.le_of_ble_eq_true rfl) rfl rfl rfl ki_X8_init_76 ?_
  refine e_astore_n (L2 := [some (.ref 1000), some (.ref 0), some (.ref 76), none]) rfl rfl rfl rfl ?_
  refine c_zm (Z2 := z_Z) (I2 := z_I0) (J2 := z_J0) z_Zs_end rfl rfl ?_
  exact c_mono (by decide) (k_law h)

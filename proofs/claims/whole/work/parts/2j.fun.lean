def l_X8_laysAll_17 (p1 : Int32) (p2 : Int32) (K : zk_I → Option (Int32 × zk_I)) : Nat → Int32 → zk_I → Option (Int32 × zk_I)
  | 0, _, _ => none
  | n + 1, y3, Iy => (if (Iy 78 0) ≤ y3 then (
    K Iy) else (
    zk_bd1 (f_X8_isState Iy p1 p2 y3) (fun (r5 : Int32) =>
     zk_jp1 (fun (I7 : zk_I) =>
      l_X8_laysAll_17 p1 p2 K n (y3 + (1 : Int32)) I7) (fun (K8 : zk_I → Option (Int32 × zk_I)) =>
      (if r5 = 0 then (
       K8 Iy) else (
       zk_bd1 (f_X8_lays Iy p1 p2 y3) (fun (I10 : zk_I) =>
        K8 I10)))))))
def l_X8_laysAll_11 (p1 : Int32) (K : zk_I → Option (Int32 × zk_I)) : Nat → Int32 → zk_I → Option (Int32 × zk_I)
  | 0, _, _ => none
  | n + 1, y2, Iy => (if y2 < 0 then (
    K Iy) else (
    l_X8_laysAll_17 p1 y2 (fun (I11 : zk_I) =>
     l_X8_laysAll_11 p1 K n (y2 + (-1 : Int32)) I11) 3000 (0 : Int32) Iy))
def f_X8_laysAll (I : zk_I) (a1 : Int32) : Option (Int32 × zk_I) := zk_lt (((1 : Int32) <<< ((I 78 0) &&& 31)) - (1 : Int32)) (fun (x1 : Int32) =>
  l_X8_laysAll_11 a1 (fun (I12 : zk_I) =>
   zk_ck (zk_in ((6 : Int32) + a1) 14) (
    zk_ck (zk_in ((2 : Int32) + a1) 14) (
     some ((((8 : Int32) * (I12 80 ((6 : Int32) + a1).toNatClampNeg)) + (I12 80 ((2 : Int32) + a1).toNatClampNeg)), I12)))) 3000 x1 I)
set_option maxRecDepth 20000 in
theorem kl_X8_laysAll_17 {X : zk_X} {p1 : Int32} {p2 : Int32} {J : zk_J} {K : zk_I → Option (Int32 × zk_I)} {r : Int32} {IR : zk_I} (jK : ∀ (Iz : zk_I), K Iz = some (r, IR) → zC X 4 m_X8_laysAll 50 [some (.ref 76), some (.int p1), some (.int p2), none] [] (z_Z, Iz, J) 0 0 (some (.int r)) (z_Z, IR, J)) : ∀ (n : Nat) (y3 : Int32) (Iy : zk_I), l_X8_laysAll_17 p1 p2 K n y3 Iy = some (r, IR) → zC X 4 m_X8_laysAll 17 [some (.ref 76), some (.int p1), some (.int p2), some (.int y3)] [] (z_Z, Iy, J) 0 0 (some (.int r)) (z_Z, IR, J) := by
  intro n
  induction n with
  | zero =>
    intro y3 Iy h
    cases h
  | succ n ih =>
    intro y3 Iy h
    rw [l_X8_laysAll_17] at h
    refine c_iload_n rfl rfl ?_
    refine c_aload_n rfl rfl ?_
    refine c_getR rfl fk_X8_13 rfl (Nat.le_of_ble_eq_true rfl) rfl ?_
    refine c_iconst rfl vi_0 ?_
    refine e_iald rfl rfl (Nat.le_of_ble_eq_true rfl) (by decide) zt_0 ?_
    refine c_icmp_ge rfl (fun q3 => ?_) (fun q3 => ?_)
    · rw [if_pos q3] at h
      refine c_drop [true, true, true, false] (L2 := [some (.ref 76), some (.int p1), some (.int p2), none]) rfl ?_
      exact jK _ h
    · rw [if_neg q3] at h
      refine c_aload_n rfl rfl ?_
      refine c_iload_n rfl rfl ?_
      refine c_iload_n rfl rfl ?_
      refine c_iload_n rfl rfl ?_
      obtain ⟨r5, h4, h⟩ := zk_bd1_e h
      refine e_callV (As := [.int p1, .int p2, .int y3]) (st := []) rfl lk_X8_159 rfl (Nat.le_of_ble_eq_true rfl) rfl rfl rfl (Nat.le_of_ble_eq_true rfl) rfl (k_X8_isState h4) ?_
      refine zk_jp1_e (Z := fun (I7 : zk_I) => zC X 4 m_X8_laysAll 44 [some (.ref 76), some (.int p1), some (.int p2), some (.int y3)] [] (z_Z, I7, J) 0 0 (some (.int r)) (z_Z, IR, J)) h (fun I7 h => ?_) (fun K8 jK8 h => ?_)
      · refine e_iinc (L2 := [some (.ref 76), some (.int p1), some (.int p2), some (.int (y3 + (1 : Int32)))]) rfl rfl vi_1 rfl rfl rfl ?_
        refine c_goto rfl ?_
        exact ih _ _ h
      · refine c_if_eq rfl (fun q6 => ?_) (fun q6 => ?_)
        · rw [if_pos q6] at h
          exact jK8 _ h
        · rw [if_neg q6] at h
          refine c_aload_n rfl rfl ?_
          refine c_iload_n rfl rfl ?_
          refine c_iload_n rfl rfl ?_
          refine c_iload_n rfl rfl ?_
          obtain ⟨I10, h9, h⟩ := zk_bd1_e h
          refine e_callV (As := [.int p1, .int p2, .int y3]) (st := []) rfl lk_X8_162 rfl (Nat.le_of_ble_eq_true rfl) rfl rfl rfl (Nat.le_of_ble_eq_true rfl) rfl (k_X8_lays h9) ?_
          exact jK8 _ h
set_option maxRecDepth 20000 in
theorem kl_X8_laysAll_11 {X : zk_X} {p1 : Int32} {J : zk_J} {K : zk_I → Option (Int32 × zk_I)} {r : Int32} {IR : zk_I} (jK : ∀ (Iz : zk_I), K Iz = some (r, IR) → zC X 4 m_X8_laysAll 56 [some (.ref 76), some (.int p1), none, none] [] (z_Z, Iz, J) 0 0 (some (.int r)) (z_Z, IR, J)) : ∀ (n : Nat) (y2 : Int32) (Iy : zk_I), l_X8_laysAll_11 p1 K n y2 Iy = some (r, IR) → zC X 4 m_X8_laysAll 11 [some (.ref 76), some (.int p1), some (.int y2), none] [] (z_Z, Iy, J) 0 0 (some (.int r)) (z_Z, IR, J) := by
  intro n
  induction n with
  | zero =>
    intro y2 Iy h
    cases h
  | succ n ih =>
    intro y2 Iy h
    rw [l_X8_laysAll_11] at h
    refine c_iload_n rfl rfl ?_
    refine c_if_lt rfl (fun q2 => ?_) (fun q2 => ?_)
    · rw [if_pos q2] at h
      refine c_drop [true, true, false, true] (L2 := [some (.ref 76), some (.int p1), none, none]) rfl ?_
      exact jK _ h
    · rw [if_neg q2] at h
      refine c_iconst rfl vi_0 ?_
      refine e_istore_n (L2 := [some (.ref 76), some (.int p1), some (.int y2), some (.int (0 : Int32))]) rfl rfl rfl rfl ?_
      refine kl_X8_laysAll_17 (fun I11 h => ?_) _ _ _ h
      refine e_iinc (L2 := [some (.ref 76), some (.int p1), some (.int (y2 + (-1 : Int32))), none]) rfl rfl vi_m1 rfl rfl rfl ?_
      refine c_goto rfl ?_
      exact ih _ _ h
set_option maxRecDepth 20000 in
theorem k_X8_laysAll {X : zk_X} {I : zk_I} {J : zk_J} {a1 : Int32} {r : Int32} {IR : zk_I} (h : f_X8_laysAll I a1 = some (r, IR)) : zC X 4 m_X8_laysAll 0 (zk_ent [.ref 76, .int a1] 4) [] (z_Z, I, J) 0 0 (some (.int r)) (z_Z, IR, J) := by
  unfold f_X8_laysAll at h
  refine c_ent (L2 := [some (.ref 76), some (.int a1), none, none]) rfl ?_
  refine c_iconst rfl vi_1 ?_
  refine c_aload_n rfl rfl ?_
  refine c_getR rfl fk_X8_13 rfl (Nat.le_of_ble_eq_true rfl) rfl ?_
  refine c_iconst rfl vi_0 ?_
  refine e_iald rfl rfl (Nat.le_of_ble_eq_true rfl) (by decide) zt_0 ?_
  refine c_ishl rfl ?_
  refine c_iconst rfl vi_1 ?_
  refine c_isub rfl ?_
  obtain ⟨x1, hx1, h⟩ := zk_lt_g h
  refine c_topi hx1 ?_
  refine e_istore_n (L2 := [some (.ref 76), some (.int a1), some (.int x1), none]) rfl rfl rfl rfl ?_
  refine kl_X8_laysAll_11 (fun I12 h => ?_) _ _ _ h
  refine c_bipush rfl vb_8 ?_
  refine c_aload_n rfl rfl ?_
  refine c_getR rfl fk_X8_19 rfl (Nat.le_of_ble_eq_true rfl) rfl ?_
  refine c_bipush rfl vb_6 ?_
  refine c_iload_n rfl rfl ?_
  refine c_iadd rfl ?_
  obtain ⟨q13, h⟩ := zk_ck_e h
  refine e_iald rfl rfl (Nat.le_of_ble_eq_true rfl) q13 rfl ?_
  refine c_imul rfl ?_
  refine c_aload_n rfl rfl ?_
  refine c_getR rfl fk_X8_19 rfl (Nat.le_of_ble_eq_true rfl) rfl ?_
  refine c_iconst rfl vi_2 ?_
  refine c_iload_n rfl rfl ?_
  refine c_iadd rfl ?_
  obtain ⟨q14, h⟩ := zk_ck_e h
  refine e_iald rfl rfl (Nat.le_of_ble_eq_true rfl) q14 rfl ?_
  refine c_iadd rfl ?_
  obtain ⟨rfl, rfl⟩ := zk_r2 h
  exact c_ireturn rfl rfl rfl
def f_X8_longest (I : zk_I) (a1 : Int32) (a2 : Int32) : Option (Int32 × zk_I) := zk_bd1 (f_X8_isBook I a1) (fun (r2 : Int32) =>
  (if r2 = 0 then (
   some ((-2 : Int32), I)) else (
   zk_lt (f_X8_in a2 (0 : Int32) (1 : Int32)) (fun (r5 : Int32) =>
    (if r5 = 0 then (
     some ((-3 : Int32), I)) else (
     zk_bd2 (f_X8_laysAll I a1) (fun (r8 : Int32) (I9 : zk_I) =>
      (if a2 = 0 then (
       zk_ck (zk_in r8 2048) (
        some ((I9 85 r8.toNatClampNeg), I9))) else (
       zk_ck (zk_in r8 2048) (
        some ((I9 86 r8.toNatClampNeg), I9)))))))))))
set_option maxRecDepth 20000 in
theorem k_X8_longest {X : zk_X} {I : zk_I} {J : zk_J} {a1 : Int32} {a2 : Int32} {r : Int32} {IR : zk_I} (h : f_X8_longest I a1 a2 = some (r, IR)) : zC X 5 m_X8_longest 0 (zk_ent [.ref 76, .int a1, .int a2] 4) [] (z_Z, I, J) 0 0 (some (.int r)) (z_Z, IR, J) := by
  unfold f_X8_longest at h
  refine c_ent (L2 := [some (.ref 76), some (.int a1), some (.int a2), none]) rfl ?_
  refine c_aload_n rfl rfl ?_
  refine c_iload_n rfl rfl ?_
  obtain ⟨r2, h1, h⟩ := zk_bd1_e h
  refine e_callV (As := [.int a1]) (st := []) rfl lk_X8_143 rfl (Nat.le_of_ble_eq_true rfl) rfl rfl rfl (Nat.le_of_ble_eq_true rfl) rfl (k_X8_isBook h1) ?_
  refine c_if_ne rfl (fun q3 => ?_) (fun q3 => ?_)
  · rw [if_neg q3] at h
    refine c_iload_n rfl rfl ?_
    refine c_iconst rfl vi_0 ?_
    refine c_iconst rfl vi_1 ?_
    obtain ⟨r5, h4, h⟩ := zk_lt_g h
    refine e_callS (As := [.int a2, .int (0 : Int32), .int (1 : Int32)]) (st := []) rfl lk_X8_63 rfl rfl rfl (Nat.le_of_ble_eq_true rfl) rfl (k_X8_in h4.symm) ?_
    refine c_if_ne rfl (fun q6 => ?_) (fun q6 => ?_)
    · rw [if_neg q6] at h
      refine c_aload_n rfl rfl ?_
      refine c_iload_n rfl rfl ?_
      obtain ⟨r8, I9, h7, h⟩ := zk_bd2_e h
      refine e_callV (As := [.int a1]) (st := []) rfl lk_X8_166 rfl (Nat.le_of_ble_eq_true rfl) rfl rfl rfl (Nat.le_of_ble_eq_true rfl) rfl (k_X8_laysAll h7) ?_
      refine e_istore_n (L2 := [some (.ref 76), some (.int a1), some (.int a2), some (.int r8)]) rfl rfl rfl rfl ?_
      refine c_iload_n rfl rfl ?_
      refine c_if_ne rfl (fun q10 => ?_) (fun q10 => ?_)
      · rw [if_neg q10] at h
        refine c_aload_n rfl rfl ?_
        refine c_getR rfl fk_X8_38 rfl (Nat.le_of_ble_eq_true rfl) rfl ?_
        refine c_iload_n rfl rfl ?_
        obtain ⟨q11, h⟩ := zk_ck_e h
        refine e_iald rfl rfl (Nat.le_of_ble_eq_true rfl) q11 rfl ?_
        obtain ⟨rfl, rfl⟩ := zk_r2 h
        exact c_ireturn rfl rfl rfl
      · rw [if_pos q10] at h
        refine c_aload_n rfl rfl ?_
        refine c_getR rfl fk_X8_35 rfl (Nat.le_of_ble_eq_true rfl) rfl ?_
        refine c_iload_n rfl rfl ?_
        obtain ⟨q12, h⟩ := zk_ck_e h
        refine e_iald rfl rfl (Nat.le_of_ble_eq_true rfl) q12 rfl ?_
        refine c_goto rfl ?_
        obtain ⟨rfl, rfl⟩ := zk_r2 h
        exact c_ireturn rfl rfl rfl
    · rw [if_pos q6] at h
      refine c_bipush rfl vb_m3 ?_
      obtain ⟨rfl, rfl⟩ := zk_r2 h
      exact c_ireturn rfl rfl rfl
  · rw [if_pos q3] at h
    refine c_bipush rfl vb_m2 ?_
    obtain ⟨rfl, rfl⟩ := zk_r2 h
    exact c_ireturn rfl rfl rfl
def l_X8_row_71 (I : zk_I) (p1 : Int32) (p2 : Int32) (p3 : Int32) (p5 : Int32) (p6 : Int32) (p7 : Int32) (K : Int32 → Option (Int32 × zk_I)) : Nat → Int32 → Int32 → Option (Int32 × zk_I)
  | 0, _, _ => none
  | n + 1, y4, y8 => (if y8 < 0 then (
    K y4) else (
    zk_jp1 (fun (v15 : Int32) =>
     zk_lt ((if v15 = 0 then y4 else y8)) (fun (v18 : Int32) =>
      l_X8_row_71 I p1 p2 p3 p5 p6 p7 K n v18 (y8 + (-1 : Int32)))) (fun (K16 : Int32 → Option (Int32 × zk_I)) =>
     zk_jp0 (K16 (0 : Int32)) (fun (K20 : Option (Int32 × zk_I)) =>
      (if ((p7 >>> (y8 &&& 31)) &&& (1 : Int32)) = (1 : Int32) then (
       zk_ck (zk_in (((8 : Int32) * (p6 ||| ((1 : Int32) <<< (y8 &&& 31)))) + y8) 2048) (
        zk_ck (zk_in p3 2048) (
         (if (I 85 (((8 : Int32) * (p6 ||| ((1 : Int32) <<< (y8 &&& 31)))) + y8).toNatClampNeg) = ((I 85 p3.toNatClampNeg) - (1 : Int32)) then (
          K16 (1 : Int32)) else (
          K20))))) else (
       K20))))))
def l_X8_row_30 (I : zk_I) (p1 : Int32) (p2 : Int32) (K : Int32 → Int32 → Option (Int32 × zk_I)) : Nat → Int32 → Int32 → Int32 → Option (Int32 × zk_I)
  | 0, _, _, _ => none
  | n + 1, y3, y4, y5 => (if p2 < y5 then (
    K y4 y5) else (
    zk_ck (zk_in y3 2048) (
     (if (I 85 y3.toNatClampNeg) ≤ 0 then (
      K y4 y5) else (
      zk_bd1 (f_X8_nexts I p1 (y3 / (8 : Int32)) (y3 - y3 / (8 : Int32) * (8 : Int32))) (fun (r12 : Int32) =>
       l_X8_row_71 I p1 p2 y3 y5 (y3 / (8 : Int32)) r12 (fun (z24 : Int32) =>
        zk_lt (((8 : Int32) * ((y3 / (8 : Int32)) ||| ((1 : Int32) <<< (z24 &&& 31)))) + z24) (fun (x25 : Int32) =>
         l_X8_row_30 I p1 p2 K n x25 z24 (y5 + (1 : Int32)))) 3000 (-1 : Int32) (7 : Int32)))))))
def f_X8_row (I : zk_I) (a1 : Int32) (a2 : Int32) : Option (Int32 × zk_I) := zk_bd1 (f_X8_isBook I a1) (fun (r2 : Int32) =>
  (if r2 = 0 then (
   some ((-2 : Int32), I)) else (
   (if 0 ≤ a2 then (
    zk_bd2 (f_X8_laysAll I a1) (fun (r6 : Int32) (I7 : zk_I) =>
     l_X8_row_30 I7 a1 a2 (fun (z26 : Int32) (z27 : Int32) =>
      (if z27 ≤ a2 then (
       some ((-1 : Int32), I7)) else (
       some (z26, I7)))) 3000 r6 (-1 : Int32) (0 : Int32))) else (
    some ((-3 : Int32), I))))))
set_option maxRecDepth 20000 in
theorem kl_X8_row_71 {X : zk_X} {I : zk_I} {p1 : Int32} {p2 : Int32} {p3 : Int32} {p5 : Int32} {p6 : Int32} {p7 : Int32} {J : zk_J} {K : Int32 → Option (Int32 × zk_I)} {r : Int32} {IR : zk_I} (jK : ∀ (z4 : Int32), K z4 = some (r, IR) → zC X 5 m_X8_row 143 [some (.ref 76), some (.int p1), some (.int p2), none, some (.int z4), some (.int p5), some (.int p6), none, none, none] [] (z_Z, I, J) 0 0 (some (.int r)) (z_Z, IR, J)) : ∀ (n : Nat) (y4 : Int32) (y8 : Int32), l_X8_row_71 I p1 p2 p3 p5 p6 p7 K n y4 y8 = some (r, IR) → zC X 5 m_X8_row 71 [some (.ref 76), some (.int p1), some (.int p2), some (.int p3), some (.int y4), some (.int p5), some (.int p6), some (.int p7), some (.int y8), none] [] (z_Z, I, J) 0 0 (some (.int r)) (z_Z, IR, J) := by
  intro n
  induction n with
  | zero =>
    intro y4 y8 h
    cases h
  | succ n ih =>
    intro y4 y8 h
    rw [l_X8_row_71] at h
    refine c_iload rfl rfl ?_
    refine c_if_lt rfl (fun q13 => ?_) (fun q13 => ?_)
    · rw [if_pos q13] at h
      refine c_drop [true, true, true, false, true, true, true, false, false, true] (L2 := [some (.ref 76), some (.int p1), some (.int p2), none, some (.int y4), some (.int p5), some (.int p6), none, none, none]) rfl ?_
      exact jK _ h
    · rw [if_neg q13] at h
      refine c_iload rfl rfl ?_
      refine c_iload rfl rfl ?_
      refine c_ishr rfl ?_
      refine c_iconst rfl vi_1 ?_
      refine c_iand rfl ?_
      refine c_iconst rfl vi_1 ?_
      refine zk_jp1_e (Z := fun (v15 : Int32) => zC X 5 m_X8_row 121 [some (.ref 76), some (.int p1), some (.int p2), some (.int p3), some (.int y4), some (.int p5), some (.int p6), some (.int p7), some (.int y8), none] [.int v15] (z_Z, I, J) 0 0 (some (.int r)) (z_Z, IR, J)) h (fun v15 h => ?_) (fun K16 jK16 h => ?_)
      · refine e_istore (L2 := [some (.ref 76), some (.int p1), some (.int p2), some (.int p3), some (.int y4), some (.int p5), some (.int p6), some (.int p7), some (.int y8), some (.int v15)]) rfl rfl rfl rfl ?_
        refine c_iload rfl rfl ?_
        refine zk_lt1K (Z := fun (v18 : Int32) => zC X 5 m_X8_row 135 [some (.ref 76), some (.int p1), some (.int p2), some (.int p3), none, some (.int p5), some (.int p6), some (.int p7), some (.int y8), none] [.int v18] (z_Z, I, J) 0 0 (some (.int r)) (z_Z, IR, J)) h (fun v18 h => ?_) (fun hz => ?_)
        · refine e_istore (L2 := [some (.ref 76), some (.int p1), some (.int p2), some (.int p3), some (.int v18), some (.int p5), some (.int p6), some (.int p7), some (.int y8), none]) rfl rfl rfl rfl ?_
          refine e_iinc (L2 := [some (.ref 76), some (.int p1), some (.int p2), some (.int p3), some (.int v18), some (.int p5), some (.int p6), some (.int p7), some (.int (y8 + (-1 : Int32))), none]) rfl rfl vi_m1 rfl rfl rfl ?_
          refine c_goto rfl ?_
          exact ih _ _ h
        · refine c_if_eq rfl (fun q17 => ?_) (fun q17 => ?_)
          · refine c_iload rfl rfl ?_
            refine c_drop [true, true, true, true, false, true, true, true, true, false] (L2 := [some (.ref 76), some (.int p1), some (.int p2), some (.int p3), none, some (.int p5), some (.int p6), some (.int p7), some (.int y8), none]) rfl ?_
            rw [if_pos q17] at hz
            exact hz
          · refine c_iload rfl rfl ?_
            refine c_goto rfl ?_
            refine c_drop [true, true, true, true, false, true, true, true, true, false] (L2 := [some (.ref 76), some (.int p1), some (.int p2), some (.int p3), none, some (.int p5), some (.int p6), some (.int p7), some (.int y8), none]) rfl ?_
            rw [if_neg q17] at hz
            exact hz
      · refine zk_jp0_e (Z := zC X 5 m_X8_row 120 [some (.ref 76), some (.int p1), some (.int p2), some (.int p3), some (.int y4), some (.int p5), some (.int p6), some (.int p7), some (.int y8), none] [] (z_Z, I, J) 0 0 (some (.int r)) (z_Z, IR, J)) h (fun h => ?_) (fun K20 jK20 h => ?_)
        · refine c_iconst rfl vi_0 ?_
          exact jK16 _ h
        · refine c_icmp_ne rfl (fun q14 => ?_) (fun q14 => ?_)
          · rw [if_neg q14] at h
            exact jK20 h
          · rw [if_pos q14] at h
            refine c_aload_n rfl rfl ?_
            refine c_getR rfl fk_X8_35 rfl (Nat.le_of_ble_eq_true rfl) rfl ?_
            refine c_bipush rfl vb_8 ?_
            refine c_iload rfl rfl ?_
            refine c_iconst rfl vi_1 ?_
            refine c_iload rfl rfl ?_
            refine c_ishl rfl ?_
            refine c_ior rfl ?_
            refine c_imul rfl ?_
            refine c_iload rfl rfl ?_
            refine c_iadd rfl ?_
            obtain ⟨q21, h⟩ := zk_ck_e h
            refine e_iald rfl rfl (Nat.le_of_ble_eq_true rfl) q21 rfl ?_
            refine c_aload_n rfl rfl ?_
            refine c_getR rfl fk_X8_35 rfl (Nat.le_of_ble_eq_true rfl) rfl ?_
            refine c_iload_n rfl rfl ?_
            obtain ⟨q22, h⟩ := zk_ck_e h
            refine e_iald rfl rfl (Nat.le_of_ble_eq_true rfl) q22 rfl ?_
            refine c_iconst rfl vi_1 ?_
            refine c_isub rfl ?_
            refine c_icmp_ne rfl (fun q23 => ?_) (fun q23 => ?_)
            · rw [if_neg q23] at h
              exact jK20 h
            · rw [if_pos q23] at h
              refine c_iconst rfl vi_1 ?_
              refine c_goto rfl ?_
              exact jK16 _ h
set_option maxRecDepth 20000 in
theorem kl_X8_row_30 {X : zk_X} {I : zk_I} {p1 : Int32} {p2 : Int32} {J : zk_J} {K : Int32 → Int32 → Option (Int32 × zk_I)} {r : Int32} {IR : zk_I} (jK : ∀ (z4 : Int32) (z5 : Int32), K z4 z5 = some (r, IR) → zC X 5 m_X8_row 163 [none, none, some (.int p2), none, some (.int z4), some (.int z5), none, none, none, none] [] (z_Z, I, J) 0 0 (some (.int r)) (z_Z, IR, J)) : ∀ (n : Nat) (y3 : Int32) (y4 : Int32) (y5 : Int32), l_X8_row_30 I p1 p2 K n y3 y4 y5 = some (r, IR) → zC X 5 m_X8_row 30 [some (.ref 76), some (.int p1), some (.int p2), some (.int y3), some (.int y4), some (.int y5), none, none, none, none] [] (z_Z, I, J) 0 0 (some (.int r)) (z_Z, IR, J) := by
  intro n
  induction n with
  | zero =>
    intro y3 y4 y5 h
    cases h
  | succ n ih =>
    intro y3 y4 y5 h
    rw [l_X8_row_30] at h
    refine c_iload rfl rfl ?_
    refine c_iload_n rfl rfl ?_
    refine c_icmp_gt rfl (fun q8 => ?_) (fun q8 => ?_)
    · rw [if_pos q8] at h
      refine c_drop [false, false, true, false, true, true, true, true, true, true] (L2 := [none, none, some (.int p2), none, some (.int y4), some (.int y5), none, none, none, none]) rfl ?_
      exact jK _ _ h
    · rw [if_neg q8] at h
      refine c_aload_n rfl rfl ?_
      refine c_getR rfl fk_X8_35 rfl (Nat.le_of_ble_eq_true rfl) rfl ?_
      refine c_iload_n rfl rfl ?_
      obtain ⟨q9, h⟩ := zk_ck_e h
      refine e_iald rfl rfl (Nat.le_of_ble_eq_true rfl) q9 rfl ?_
      refine c_if_le rfl (fun q10 => ?_) (fun q10 => ?_)
      · rw [if_pos q10] at h
        refine c_drop [false, false, true, false, true, true, true, true, true, true] (L2 := [none, none, some (.int p2), none, some (.int y4), some (.int y5), none, none, none, none]) rfl ?_
        exact jK _ _ h
      · rw [if_neg q10] at h
        refine c_iload_n rfl rfl ?_
        refine c_bipush rfl vb_8 ?_
        refine c_idiv rfl (by decide) ?_
        refine e_istore (L2 := [some (.ref 76), some (.int p1), some (.int p2), some (.int y3), some (.int y4), some (.int y5), some (.int (y3 / (8 : Int32))), none, none, none]) rfl rfl rfl rfl ?_
        refine c_aload_n rfl rfl ?_
        refine c_iload_n rfl rfl ?_
        refine c_iload rfl rfl ?_
        refine c_iload_n rfl rfl ?_
        refine c_bipush rfl vb_8 ?_
        refine c_irem rfl (by decide) ?_
        obtain ⟨r12, h11, h⟩ := zk_bd1_e h
        refine e_callV (As := [.int p1, .int (y3 / (8 : Int32)), .int (y3 - y3 / (8 : Int32) * (8 : Int32))]) (st := []) rfl lk_X8_155 rfl (Nat.le_of_ble_eq_true rfl) rfl rfl rfl (Nat.le_of_ble_eq_true rfl) rfl (k_X8_nexts h11) ?_
        refine e_istore (L2 := [some (.ref 76), some (.int p1), some (.int p2), some (.int y3), some (.int y4), some (.int y5), some (.int (y3 / (8 : Int32))), some (.int r12), none, none]) rfl rfl rfl rfl ?_
        refine c_iconst rfl vi_m1 ?_
        refine e_istore (L2 := [some (.ref 76), some (.int p1), some (.int p2), some (.int y3), some (.int (-1 : Int32)), some (.int y5), some (.int (y3 / (8 : Int32))), some (.int r12), none, none]) rfl rfl rfl rfl ?_
        refine c_bipush rfl vb_7 ?_
        refine e_istore (L2 := [some (.ref 76), some (.int p1), some (.int p2), some (.int y3), some (.int (-1 : Int32)), some (.int y5), some (.int (y3 / (8 : Int32))), some (.int r12), some (.int (7 : Int32)), none]) rfl rfl rfl rfl ?_
        refine kl_X8_row_71 (fun z24 h => ?_) _ _ _ h
        refine c_bipush rfl vb_8 ?_
        refine c_iload rfl rfl ?_
        refine c_iconst rfl vi_1 ?_
        refine c_iload rfl rfl ?_
        refine c_ishl rfl ?_
        refine c_ior rfl ?_
        refine c_imul rfl ?_
        refine c_iload rfl rfl ?_
        refine c_iadd rfl ?_
        obtain ⟨x25, hx25, h⟩ := zk_lt_g h
        refine c_topi hx25 ?_
        refine e_istore_n (L2 := [some (.ref 76), some (.int p1), some (.int p2), some (.int x25), some (.int z24), some (.int y5), some (.int (y3 / (8 : Int32))), none, none, none]) rfl rfl rfl rfl ?_
        refine e_iinc (L2 := [some (.ref 76), some (.int p1), some (.int p2), some (.int x25), some (.int z24), some (.int (y5 + (1 : Int32))), some (.int (y3 / (8 : Int32))), none, none, none]) rfl rfl vi_1 rfl rfl rfl ?_
        refine c_goto rfl ?_
        refine c_drop [true, true, true, true, true, true, false, true, true, true] (L2 := [some (.ref 76), some (.int p1), some (.int p2), some (.int x25), some (.int z24), some (.int (y5 + (1 : Int32))), none, none, none, none]) rfl ?_
        exact ih _ _ _ h
set_option maxRecDepth 20000 in
theorem k_X8_row {X : zk_X} {I : zk_I} {J : zk_J} {a1 : Int32} {a2 : Int32} {r : Int32} {IR : zk_I} (h : f_X8_row I a1 a2 = some (r, IR)) : zC X 5 m_X8_row 0 (zk_ent [.ref 76, .int a1, .int a2] 10) [] (z_Z, I, J) 0 0 (some (.int r)) (z_Z, IR, J) := by
  unfold f_X8_row at h
  refine c_ent (L2 := [some (.ref 76), some (.int a1), some (.int a2), none, none, none, none, none, none, none]) rfl ?_
  refine c_aload_n rfl rfl ?_
  refine c_iload_n rfl rfl ?_
  obtain ⟨r2, h1, h⟩ := zk_bd1_e h
  refine e_callV (As := [.int a1]) (st := []) rfl lk_X8_143 rfl (Nat.le_of_ble_eq_true rfl) rfl rfl rfl (Nat.le_of_ble_eq_true rfl) rfl (k_X8_isBook h1) ?_
  refine c_if_ne rfl (fun q3 => ?_) (fun q3 => ?_)
  · rw [if_neg q3] at h
    refine c_iload_n rfl rfl ?_
    refine c_if_ge rfl (fun q4 => ?_) (fun q4 => ?_)
    · rw [if_pos q4] at h
      refine c_aload_n rfl rfl ?_
      refine c_iload_n rfl rfl ?_
      obtain ⟨r6, I7, h5, h⟩ := zk_bd2_e h
      refine e_callV (As := [.int a1]) (st := []) rfl lk_X8_166 rfl (Nat.le_of_ble_eq_true rfl) rfl rfl rfl (Nat.le_of_ble_eq_true rfl) rfl (k_X8_laysAll h5) ?_
      refine e_istore_n (L2 := [some (.ref 76), some (.int a1), some (.int a2), some (.int r6), none, none, none, none, none, none]) rfl rfl rfl rfl ?_
      refine c_iconst rfl vi_m1 ?_
      refine e_istore (L2 := [some (.ref 76), some (.int a1), some (.int a2), some (.int r6), some (.int (-1 : Int32)), none, none, none, none, none]) rfl rfl rfl rfl ?_
      refine c_iconst rfl vi_0 ?_
      refine e_istore (L2 := [some (.ref 76), some (.int a1), some (.int a2), some (.int r6), some (.int (-1 : Int32)), some (.int (0 : Int32)), none, none, none, none]) rfl rfl rfl rfl ?_
      refine kl_X8_row_30 (fun z26 z27 h => ?_) _ _ _ _ h
      refine c_iload rfl rfl ?_
      refine c_iload_n rfl rfl ?_
      refine c_icmp_le rfl (fun q28 => ?_) (fun q28 => ?_)
      · rw [if_pos q28] at h
        refine c_iconst rfl vi_m1 ?_
        obtain ⟨rfl, rfl⟩ := zk_r2 h
        exact c_ireturn rfl rfl rfl
      · rw [if_neg q28] at h
        refine c_iload rfl rfl ?_
        refine c_goto rfl ?_
        obtain ⟨rfl, rfl⟩ := zk_r2 h
        exact c_ireturn rfl rfl rfl
    · rw [if_neg q4] at h
      refine c_bipush rfl vb_m3 ?_
      obtain ⟨rfl, rfl⟩ := zk_r2 h
      exact c_ireturn rfl rfl rfl
  · rw [if_pos q3] at h
    refine c_bipush rfl vb_m2 ?_
    obtain ⟨rfl, rfl⟩ := zk_r2 h
    exact c_ireturn rfl rfl rfl
def f_X8_shortest (I : zk_I) (a1 : Int32) : Option (Int32 × zk_I) := zk_bd1 (f_X8_isBook I a1) (fun (r2 : Int32) =>
  (if r2 = 0 then (
   some ((-2 : Int32), I)) else (
   zk_bd2 (f_X8_laysAll I a1) (fun (r5 : Int32) (I6 : zk_I) =>
    zk_ck (zk_in r5 2048) (
     some ((I6 88 r5.toNatClampNeg), I6))))))
set_option maxRecDepth 20000 in
theorem k_X8_shortest {X : zk_X} {I : zk_I} {J : zk_J} {a1 : Int32} {r : Int32} {IR : zk_I} (h : f_X8_shortest I a1 = some (r, IR)) : zC X 5 m_X8_shortest 0 (zk_ent [.ref 76, .int a1] 2) [] (z_Z, I, J) 0 0 (some (.int r)) (z_Z, IR, J) := by
  unfold f_X8_shortest at h
  refine c_ent (L2 := [some (.ref 76), some (.int a1)]) rfl ?_
  refine c_aload_n rfl rfl ?_
  refine c_iload_n rfl rfl ?_
  obtain ⟨r2, h1, h⟩ := zk_bd1_e h
  refine e_callV (As := [.int a1]) (st := []) rfl lk_X8_143 rfl (Nat.le_of_ble_eq_true rfl) rfl rfl rfl (Nat.le_of_ble_eq_true rfl) rfl (k_X8_isBook h1) ?_
  refine c_if_eq rfl (fun q3 => ?_) (fun q3 => ?_)
  · rw [if_pos q3] at h
    refine c_bipush rfl vb_m2 ?_
    obtain ⟨rfl, rfl⟩ := zk_r2 h
    exact c_ireturn rfl rfl rfl
  · rw [if_neg q3] at h
    refine c_aload_n rfl rfl ?_
    refine c_getR rfl fk_X8_44 rfl (Nat.le_of_ble_eq_true rfl) rfl ?_
    refine c_aload_n rfl rfl ?_
    refine c_iload_n rfl rfl ?_
    obtain ⟨r5, I6, h4, h⟩ := zk_bd2_e h
    refine e_callV (As := [.int a1]) (st := [.ref 88]) rfl lk_X8_166 rfl (Nat.le_of_ble_eq_true rfl) rfl rfl rfl (Nat.le_of_ble_eq_true rfl) rfl (k_X8_laysAll h4) ?_
    obtain ⟨q7, h⟩ := zk_ck_e h
    refine e_iald rfl rfl (Nat.le_of_ble_eq_true rfl) q7 rfl ?_
    refine c_goto rfl ?_
    obtain ⟨rfl, rfl⟩ := zk_r2 h
    exact c_ireturn rfl rfl rfl
def f_X8_can (I : zk_I) (a1 : Int32) : Option (Int32 × zk_I) := zk_bd1 (f_X8_isBook I a1) (fun (r2 : Int32) =>
  (if r2 = 0 then (
   some ((-2 : Int32), I)) else (
   zk_bd2 (f_X8_laysAll I a1) (fun (r5 : Int32) (I6 : zk_I) =>
    zk_ck (zk_in r5 2048) (
     some ((I6 89 r5.toNatClampNeg), I6))))))
set_option maxRecDepth 20000 in
theorem k_X8_can {X : zk_X} {I : zk_I} {J : zk_J} {a1 : Int32} {r : Int32} {IR : zk_I} (h : f_X8_can I a1 = some (r, IR)) : zC X 5 m_X8_can 0 (zk_ent [.ref 76, .int a1] 2) [] (z_Z, I, J) 0 0 (some (.int r)) (z_Z, IR, J) := by
  unfold f_X8_can at h
  refine c_ent (L2 := [some (.ref 76), some (.int a1)]) rfl ?_
  refine c_aload_n rfl rfl ?_
  refine c_iload_n rfl rfl ?_
  obtain ⟨r2, h1, h⟩ := zk_bd1_e h
  refine e_callV (As := [.int a1]) (st := []) rfl lk_X8_143 rfl (Nat.le_of_ble_eq_true rfl) rfl rfl rfl (Nat.le_of_ble_eq_true rfl) rfl (k_X8_isBook h1) ?_
  refine c_if_eq rfl (fun q3 => ?_) (fun q3 => ?_)
  · rw [if_pos q3] at h
    refine c_bipush rfl vb_m2 ?_
    obtain ⟨rfl, rfl⟩ := zk_r2 h
    exact c_ireturn rfl rfl rfl
  · rw [if_neg q3] at h
    refine c_aload_n rfl rfl ?_
    refine c_getR rfl fk_X8_47 rfl (Nat.le_of_ble_eq_true rfl) rfl ?_
    refine c_aload_n rfl rfl ?_
    refine c_iload_n rfl rfl ?_
    obtain ⟨r5, I6, h4, h⟩ := zk_bd2_e h
    refine e_callV (As := [.int a1]) (st := [.ref 89]) rfl lk_X8_166 rfl (Nat.le_of_ble_eq_true rfl) rfl rfl rfl (Nat.le_of_ble_eq_true rfl) rfl (k_X8_laysAll h4) ?_
    obtain ⟨q7, h⟩ := zk_ck_e h
    refine e_iald rfl rfl (Nat.le_of_ble_eq_true rfl) q7 rfl ?_
    refine c_goto rfl ?_
    obtain ⟨rfl, rfl⟩ := zk_r2 h
    exact c_ireturn rfl rfl rfl
def f_X8_all (I : zk_I) (a1 : Int32) : Option (Int32 × zk_I) := zk_bd1 (f_X8_isBook I a1) (fun (r2 : Int32) =>
  (if r2 = 0 then (
   some ((-2 : Int32), I)) else (
   zk_bd2 (f_X8_laysAll I a1) (fun (r5 : Int32) (I6 : zk_I) =>
    zk_ck (zk_in r5 2048) (
     some ((I6 87 r5.toNatClampNeg), I6))))))
set_option maxRecDepth 20000 in
theorem k_X8_all {X : zk_X} {I : zk_I} {J : zk_J} {a1 : Int32} {r : Int32} {IR : zk_I} (h : f_X8_all I a1 = some (r, IR)) : zC X 5 m_X8_all 0 (zk_ent [.ref 76, .int a1] 2) [] (z_Z, I, J) 0 0 (some (.int r)) (z_Z, IR, J) := by
  unfold f_X8_all at h
  refine c_ent (L2 := [some (.ref 76), some (.int a1)]) rfl ?_
  refine c_aload_n rfl rfl ?_
  refine c_iload_n rfl rfl ?_
  obtain ⟨r2, h1, h⟩ := zk_bd1_e h
  refine e_callV (As := [.int a1]) (st := []) rfl lk_X8_143 rfl (Nat.le_of_ble_eq_true rfl) rfl rfl rfl (Nat.le_of_ble_eq_true rfl) rfl (k_X8_isBook h1) ?_
  refine c_if_eq rfl (fun q3 => ?_) (fun q3 => ?_)
  · rw [if_pos q3] at h
    refine c_bipush rfl vb_m2 ?_
    obtain ⟨rfl, rfl⟩ := zk_r2 h
    exact c_ireturn rfl rfl rfl
  · rw [if_neg q3] at h
    refine c_aload_n rfl rfl ?_
    refine c_getR rfl fk_X8_41 rfl (Nat.le_of_ble_eq_true rfl) rfl ?_
    refine c_aload_n rfl rfl ?_
    refine c_iload_n rfl rfl ?_
    obtain ⟨r5, I6, h4, h⟩ := zk_bd2_e h
    refine e_callV (As := [.int a1]) (st := [.ref 87]) rfl lk_X8_166 rfl (Nat.le_of_ble_eq_true rfl) rfl rfl rfl (Nat.le_of_ble_eq_true rfl) rfl (k_X8_laysAll h4) ?_
    obtain ⟨q7, h⟩ := zk_ck_e h
    refine e_iald rfl rfl (Nat.le_of_ble_eq_true rfl) q7 rfl ?_
    refine c_goto rfl ?_
    obtain ⟨rfl, rfl⟩ := zk_r2 h
    exact c_ireturn rfl rfl rfl
def f_X8_fame (I : zk_I) (a1 : Int32) : Option (Int32 × zk_I) := zk_bd1 (f_X8_isBook I a1) (fun (r2 : Int32) =>
  (if r2 = 0 then (
   some ((-2 : Int32), I)) else (
   zk_bd2 (f_X8_laysAll I a1) (fun (r5 : Int32) (I6 : zk_I) =>
    zk_ck (zk_in r5 2048) (
     some ((I6 90 r5.toNatClampNeg), I6))))))
set_option maxRecDepth 20000 in
theorem k_X8_fame {X : zk_X} {I : zk_I} {J : zk_J} {a1 : Int32} {r : Int32} {IR : zk_I} (h : f_X8_fame I a1 = some (r, IR)) : zC X 5 m_X8_fame 0 (zk_ent [.ref 76, .int a1] 2) [] (z_Z, I, J) 0 0 (some (.int r)) (z_Z, IR, J) := by
  unfold f_X8_fame at h
  refine c_ent (L2 := [some (.ref 76), some (.int a1)]) rfl ?_
  refine c_aload_n rfl rfl ?_
  refine c_iload_n rfl rfl ?_
  obtain ⟨r2, h1, h⟩ := zk_bd1_e h
  refine e_callV (As := [.int a1]) (st := []) rfl lk_X8_143 rfl (Nat.le_of_ble_eq_true rfl) rfl rfl rfl (Nat.le_of_ble_eq_true rfl) rfl (k_X8_isBook h1) ?_
  refine c_if_eq rfl (fun q3 => ?_) (fun q3 => ?_)
  · rw [if_pos q3] at h
    refine c_bipush rfl vb_m2 ?_
    obtain ⟨rfl, rfl⟩ := zk_r2 h
    exact c_ireturn rfl rfl rfl
  · rw [if_neg q3] at h
    refine c_aload_n rfl rfl ?_
    refine c_getR rfl fk_X8_50 rfl (Nat.le_of_ble_eq_true rfl) rfl ?_
    refine c_aload_n rfl rfl ?_
    refine c_iload_n rfl rfl ?_
    obtain ⟨r5, I6, h4, h⟩ := zk_bd2_e h
    refine e_callV (As := [.int a1]) (st := [.ref 90]) rfl lk_X8_166 rfl (Nat.le_of_ble_eq_true rfl) rfl rfl rfl (Nat.le_of_ble_eq_true rfl) rfl (k_X8_laysAll h4) ?_
    obtain ⟨q7, h⟩ := zk_ck_e h
    refine e_iald rfl rfl (Nat.le_of_ble_eq_true rfl) q7 rfl ?_
    refine c_goto rfl ?_
    obtain ⟨rfl, rfl⟩ := zk_r2 h
    exact c_ireturn rfl rfl rfl
def l_X8_laysOdds_2 (I : zk_I) (p1 : Int32) (K : zk_J → Option (zk_J)) : Nat → Int32 → zk_J → Option (zk_J)
  | 0, _, _ => none
  | n + 1, y2, Jy => (if (2048 : Int32) ≤ y2 then (
    K Jy) else (
    zk_ck (zk_in y2 2048) (
     zk_lt (zk_sj Jy 92 (vp_updL (Jy 92) y2.toNatClampNeg (0 : Int64))) (fun (J3 : zk_J) =>
      l_X8_laysOdds_2 I p1 K n (y2 + (1 : Int32)) J3))))
def l_X8_laysOdds_92 (I : zk_I) (p1 : Int32) (p2 : Int32) (p3 : Int32) (K : zk_J → Option (zk_J)) : Nat → Int32 → zk_J → Option (zk_J)
  | 0, _, _ => none
  | n + 1, y4, Jy => (if (8 : Int32) ≤ y4 then (
    K Jy) else (
    zk_jp1 (fun (J16 : zk_J) =>
     l_X8_laysOdds_92 I p1 p2 p3 K n (y4 + (1 : Int32)) J16) (fun (K17 : zk_J → Option (zk_J)) =>
     (if ((p3 >>> (y4 &&& 31)) &&& (1 : Int32)) = (1 : Int32) then (
      zk_ck (zk_in (((8 : Int32) * ((p2 / (8 : Int32)) ||| ((1 : Int32) <<< (y4 &&& 31)))) + y4) 2048) (
       zk_ck (zk_in p2 2048) (
        zk_bd1 (f_X8_ones p3) (fun (r21 : Int32) =>
         zk_ck (zk_nzl r21.toInt64) (
          zk_ck (zk_in (((8 : Int32) * ((p2 / (8 : Int32)) ||| ((1 : Int32) <<< (y4 &&& 31)))) + y4) 2048) (
           zk_lt (zk_sj Jy 92 (vp_updL (Jy 92) (((8 : Int32) * ((p2 / (8 : Int32)) ||| ((1 : Int32) <<< (y4 &&& 31)))) + y4).toNatClampNeg ((Jy 92 (((8 : Int32) * ((p2 / (8 : Int32)) ||| ((1 : Int32) <<< (y4 &&& 31)))) + y4).toNatClampNeg) + ((Jy 92 p2.toNatClampNeg) / r21.toInt64)))) (fun (J24 : zk_J) =>
            K17 J24))))))) else (
      K17 Jy)))))
def l_X8_laysOdds_53 (I : zk_I) (p1 : Int32) (K : zk_J → Option (zk_J)) : Nat → Int32 → zk_J → Option (zk_J)
  | 0, _, _ => none
  | n + 1, y2, Jy => (if (2048 : Int32) ≤ y2 then (
    K Jy) else (
    zk_ck (zk_in y2 2048) (
     zk_jp1 (fun (v12 : Int32) =>
      l_X8_laysOdds_92 I p1 y2 v12 (fun (J25 : zk_J) =>
       l_X8_laysOdds_53 I p1 K n (y2 + (1 : Int32)) J25) 3000 (0 : Int32) Jy) (fun (K13 : Int32 → Option (zk_J)) =>
      (if (lg_cmp (Jy 92 y2.toNatClampNeg) (0 : Int64)) ≤ 0 then (
       K13 (0 : Int32)) else (
       zk_bd1 (f_X8_nexts I p1 (y2 / (8 : Int32)) (y2 - y2 / (8 : Int32) * (8 : Int32))) (fun (r27 : Int32) =>
        K13 r27)))))))
def f_X8_laysOdds (I : zk_I) (J : zk_J) (a1 : Int32) : Option (zk_J) := l_X8_laysOdds_2 I a1 (fun (J4 : zk_J) =>
  zk_ck (zk_in ((6 : Int32) + a1) 14) (
   zk_ck (zk_in ((2 : Int32) + a1) 14) (
    zk_ck (zk_in (((8 : Int32) * (I 80 ((6 : Int32) + a1).toNatClampNeg)) + (I 80 ((2 : Int32) + a1).toNatClampNeg)) 2048) (
     zk_lt (zk_sj J4 92 (vp_updL (J4 92) (((8 : Int32) * (I 80 ((6 : Int32) + a1).toNatClampNeg)) + (I 80 ((2 : Int32) + a1).toNatClampNeg)).toNatClampNeg (217728000 : Int64))) (fun (J8 : zk_J) =>
      l_X8_laysOdds_53 I a1 (fun (J28 : zk_J) =>
       some J28) 3000 (0 : Int32) J8))))) 3000 (0 : Int32) J
set_option maxRecDepth 20000 in
theorem kl_X8_laysOdds_2 {X : zk_X} {I : zk_I} {p1 : Int32} {K : zk_J → Option (zk_J)} {JR : zk_J} (jK : ∀ (Jz : zk_J), K Jz = some JR → zC X 3 m_X8_laysOdds 22 [some (.ref 76), some (.int p1), none, none, none] [] (z_Z, I, Jz) 0 0 none (z_Z, I, JR)) : ∀ (n : Nat) (y2 : Int32) (Jy : zk_J), l_X8_laysOdds_2 I p1 K n y2 Jy = some JR → zC X 3 m_X8_laysOdds 2 [some (.ref 76), some (.int p1), some (.int y2), none, none] [] (z_Z, I, Jy) 0 0 none (z_Z, I, JR) := by
  intro n
  induction n with
  | zero =>
    intro y2 Jy h
    cases h
  | succ n ih =>
    intro y2 Jy h
    rw [l_X8_laysOdds_2] at h
    refine c_iload_n rfl rfl ?_
    refine c_sipush rfl vs_2048 ?_
    refine c_icmp_ge rfl (fun q1 => ?_) (fun q1 => ?_)
    · rw [if_pos q1] at h
      refine c_drop [true, true, false, true, true] (L2 := [some (.ref 76), some (.int p1), none, none, none]) rfl ?_
      exact jK _ h
    · rw [if_neg q1] at h
      refine c_aload_n rfl rfl ?_
      refine c_getR rfl fk_X8_56 rfl (Nat.le_of_ble_eq_true rfl) rfl ?_
      refine c_iload_n rfl rfl ?_
      refine c_lconst rfl vl_0 ?_
      obtain ⟨q2, h⟩ := zk_ck_e h
      refine e_last rfl rfl (Nat.le_of_ble_eq_true rfl) q2 rfl ?_
      obtain ⟨J3, hJ3, h⟩ := zk_lt_g h
      refine c_memJ hJ3 ?_
      refine e_iinc (L2 := [some (.ref 76), some (.int p1), some (.int (y2 + (1 : Int32))), none, none]) rfl rfl vi_1 rfl rfl rfl ?_
      refine c_goto rfl ?_
      exact ih _ _ h
set_option maxRecDepth 20000 in
theorem kl_X8_laysOdds_92 {X : zk_X} {I : zk_I} {p1 : Int32} {p2 : Int32} {p3 : Int32} {K : zk_J → Option (zk_J)} {JR : zk_J} (jK : ∀ (Jz : zk_J), K Jz = some JR → zC X 3 m_X8_laysOdds 150 [some (.ref 76), some (.int p1), some (.int p2), none, none] [] (z_Z, I, Jz) 0 0 none (z_Z, I, JR)) : ∀ (n : Nat) (y4 : Int32) (Jy : zk_J), l_X8_laysOdds_92 I p1 p2 p3 K n y4 Jy = some JR → zC X 3 m_X8_laysOdds 92 [some (.ref 76), some (.int p1), some (.int p2), some (.int p3), some (.int y4)] [] (z_Z, I, Jy) 0 0 none (z_Z, I, JR) := by
  intro n
  induction n with
  | zero =>
    intro y4 Jy h
    cases h
  | succ n ih =>
    intro y4 Jy h
    rw [l_X8_laysOdds_92] at h
    refine c_iload rfl rfl ?_
    refine c_bipush rfl vb_8 ?_
    refine c_icmp_ge rfl (fun q14 => ?_) (fun q14 => ?_)
    · rw [if_pos q14] at h
      refine c_drop [true, true, true, false, false] (L2 := [some (.ref 76), some (.int p1), some (.int p2), none, none]) rfl ?_
      exact jK _ h
    · rw [if_neg q14] at h
      refine c_iload_n rfl rfl ?_
      refine c_iload rfl rfl ?_
      refine c_ishr rfl ?_
      refine c_iconst rfl vi_1 ?_
      refine c_iand rfl ?_
      refine c_iconst rfl vi_1 ?_
      refine zk_jp1_e (Z := fun (J16 : zk_J) => zC X 3 m_X8_laysOdds 144 [some (.ref 76), some (.int p1), some (.int p2), some (.int p3), some (.int y4)] [] (z_Z, I, J16) 0 0 none (z_Z, I, JR)) h (fun J16 h => ?_) (fun K17 jK17 h => ?_)
      · refine e_iinc (L2 := [some (.ref 76), some (.int p1), some (.int p2), some (.int p3), some (.int (y4 + (1 : Int32)))]) rfl rfl vi_1 rfl rfl rfl ?_
        refine c_goto rfl ?_
        exact ih _ _ h
      · refine c_icmp_ne rfl (fun q15 => ?_) (fun q15 => ?_)
        · rw [if_neg q15] at h
          exact jK17 _ h
        · rw [if_pos q15] at h
          refine c_aload_n rfl rfl ?_
          refine c_getR rfl fk_X8_56 rfl (Nat.le_of_ble_eq_true rfl) rfl ?_
          refine c_bipush rfl vb_8 ?_
          refine c_iload_n rfl rfl ?_
          refine c_bipush rfl vb_8 ?_
          refine c_idiv rfl (by decide) ?_
          refine c_iconst rfl vi_1 ?_
          refine c_iload rfl rfl ?_
          refine c_ishl rfl ?_
          refine c_ior rfl ?_
          refine c_imul rfl ?_
          refine c_iload rfl rfl ?_
          refine c_iadd rfl ?_
          refine c_dup2 rfl rfl rfl ?_
          obtain ⟨q18, h⟩ := zk_ck_e h
          refine e_lald rfl rfl (Nat.le_of_ble_eq_true rfl) q18 rfl ?_
          refine c_aload_n rfl rfl ?_
          refine c_getR rfl fk_X8_56 rfl (Nat.le_of_ble_eq_true rfl) rfl ?_
          refine c_iload_n rfl rfl ?_
          obtain ⟨q19, h⟩ := zk_ck_e h
          refine e_lald rfl rfl (Nat.le_of_ble_eq_true rfl) q19 rfl ?_
          refine c_iload_n rfl rfl ?_
          obtain ⟨r21, h20, h⟩ := zk_bd1_e h
          refine e_callS (As := [.int p3]) (st := [.long (Jy 92 p2.toNatClampNeg), .long (Jy 92 (((8 : Int32) * ((p2 / (8 : Int32)) ||| ((1 : Int32) <<< (y4 &&& 31)))) + y4).toNatClampNeg), .int (((8 : Int32) * ((p2 / (8 : Int32)) ||| ((1 : Int32) <<< (y4 &&& 31)))) + y4), .ref 92]) rfl lk_X8_152 rfl rfl rfl (Nat.le_of_ble_eq_true rfl) rfl (k_X8_ones h20) ?_
          refine c_i2l rfl ?_
          obtain ⟨q22, h⟩ := zk_ck_e h
          refine c_ldiv rfl (zk_nzl_n q22) ?_
          refine c_ladd rfl ?_
          obtain ⟨q23, h⟩ := zk_ck_e h
          refine e_last rfl rfl (Nat.le_of_ble_eq_true rfl) q23 rfl ?_
          obtain ⟨J24, hJ24, h⟩ := zk_lt_g h
          refine c_memJ hJ24 ?_
          exact jK17 _ h
set_option maxRecDepth 20000 in
theorem kl_X8_laysOdds_53 {X : zk_X} {I : zk_I} {p1 : Int32} {K : zk_J → Option (zk_J)} {JR : zk_J} (jK : ∀ (Jz : zk_J), K Jz = some JR → zC X 3 m_X8_laysOdds 156 [none, none, none, none, none] [] (z_Z, I, Jz) 0 0 none (z_Z, I, JR)) : ∀ (n : Nat) (y2 : Int32) (Jy : zk_J), l_X8_laysOdds_53 I p1 K n y2 Jy = some JR → zC X 3 m_X8_laysOdds 53 [some (.ref 76), some (.int p1), some (.int y2), none, none] [] (z_Z, I, Jy) 0 0 none (z_Z, I, JR) := by
  intro n
  induction n with
  | zero =>
    intro y2 Jy h
    cases h
  | succ n ih =>
    intro y2 Jy h
    rw [l_X8_laysOdds_53] at h
    refine c_iload_n rfl rfl ?_
    refine c_sipush rfl vs_2048 ?_
    refine c_icmp_ge rfl (fun q9 => ?_) (fun q9 => ?_)
    · rw [if_pos q9] at h
      refine c_drop [false, false, false, true, true] (L2 := [none, none, none, none, none]) rfl ?_
      exact jK _ h
    · rw [if_neg q9] at h
      refine c_aload_n rfl rfl ?_
      refine c_getR rfl fk_X8_56 rfl (Nat.le_of_ble_eq_true rfl) rfl ?_
      refine c_iload_n rfl rfl ?_
      obtain ⟨q10, h⟩ := zk_ck_e h
      refine e_lald rfl rfl (Nat.le_of_ble_eq_true rfl) q10 rfl ?_
      refine c_lconst rfl vl_0 ?_
      refine c_lcmp rfl ?_
      refine zk_jp1_e (Z := fun (v12 : Int32) => zC X 3 m_X8_laysOdds 88 [some (.ref 76), some (.int p1), some (.int y2), none, none] [.int v12] (z_Z, I, Jy) 0 0 none (z_Z, I, JR)) h (fun v12 h => ?_) (fun K13 jK13 h => ?_)
      · refine e_istore_n (L2 := [some (.ref 76), some (.int p1), some (.int y2), some (.int v12), none]) rfl rfl rfl rfl ?_
        refine c_iconst rfl vi_0 ?_
        refine e_istore (L2 := [some (.ref 76), some (.int p1), some (.int y2), some (.int v12), some (.int (0 : Int32))]) rfl rfl rfl rfl ?_
        refine kl_X8_laysOdds_92 (fun J25 h => ?_) _ _ _ h
        refine e_iinc (L2 := [some (.ref 76), some (.int p1), some (.int (y2 + (1 : Int32))), none, none]) rfl rfl vi_1 rfl rfl rfl ?_
        refine c_goto rfl ?_
        exact ih _ _ h
      · refine c_if_le rfl (fun q11 => ?_) (fun q11 => ?_)
        · rw [if_pos q11] at h
          refine c_iconst rfl vi_0 ?_
          exact jK13 _ h
        · rw [if_neg q11] at h
          refine c_aload_n rfl rfl ?_
          refine c_iload_n rfl rfl ?_
          refine c_iload_n rfl rfl ?_
          refine c_bipush rfl vb_8 ?_
          refine c_idiv rfl (by decide) ?_
          refine c_iload_n rfl rfl ?_
          refine c_bipush rfl vb_8 ?_
          refine c_irem rfl (by decide) ?_
          obtain ⟨r27, h26, h⟩ := zk_bd1_e h
          refine e_callV (As := [.int p1, .int (y2 / (8 : Int32)), .int (y2 - y2 / (8 : Int32) * (8 : Int32))]) (st := []) rfl lk_X8_155 rfl (Nat.le_of_ble_eq_true rfl) rfl rfl rfl (Nat.le_of_ble_eq_true rfl) rfl (k_X8_nexts h26) ?_
          refine c_goto rfl ?_
          exact jK13 _ h
set_option maxRecDepth 20000 in
theorem k_X8_laysOdds {X : zk_X} {I : zk_I} {J : zk_J} {a1 : Int32} {JR : zk_J} (h : f_X8_laysOdds I J a1 = some JR) : zC X 3 m_X8_laysOdds 0 (zk_ent [.ref 76, .int a1] 5) [] (z_Z, I, J) 0 0 none (z_Z, I, JR) := by
  unfold f_X8_laysOdds at h
  refine c_ent (L2 := [some (.ref 76), some (.int a1), none, none, none]) rfl ?_
  refine c_iconst rfl vi_0 ?_
  refine e_istore_n (L2 := [some (.ref 76), some (.int a1), some (.int (0 : Int32)), none, none]) rfl rfl rfl rfl ?_
  refine kl_X8_laysOdds_2 (fun J4 h => ?_) _ _ _ h
  refine c_aload_n rfl rfl ?_
  refine c_getR rfl fk_X8_56 rfl (Nat.le_of_ble_eq_true rfl) rfl ?_
  refine c_bipush rfl vb_8 ?_
  refine c_aload_n rfl rfl ?_
  refine c_getR rfl fk_X8_19 rfl (Nat.le_of_ble_eq_true rfl) rfl ?_
  refine c_bipush rfl vb_6 ?_
  refine c_iload_n rfl rfl ?_
  refine c_iadd rfl ?_
  obtain ⟨q5, h⟩ := zk_ck_e h
  refine e_iald rfl rfl (Nat.le_of_ble_eq_true rfl) q5 rfl ?_
  refine c_imul rfl ?_
  refine c_aload_n rfl rfl ?_
  refine c_getR rfl fk_X8_19 rfl (Nat.le_of_ble_eq_true rfl) rfl ?_
  refine c_iconst rfl vi_2 ?_
  refine c_iload_n rfl rfl ?_
  refine c_iadd rfl ?_
  obtain ⟨q6, h⟩ := zk_ck_e h
  refine e_iald rfl rfl (Nat.le_of_ble_eq_true rfl) q6 rfl ?_
  refine c_iadd rfl ?_
  refine c_ldc2 rfl vc_X8_169 ?_
  obtain ⟨q7, h⟩ := zk_ck_e h
  refine e_last rfl rfl (Nat.le_of_ble_eq_true rfl) q7 rfl ?_
  obtain ⟨J8, hJ8, h⟩ := zk_lt_g h
  refine c_memJ hJ8 ?_
  refine c_iconst rfl vi_0 ?_
  refine e_istore_n (L2 := [some (.ref 76), some (.int a1), some (.int (0 : Int32)), none, none]) rfl rfl rfl rfl ?_
  refine kl_X8_laysOdds_53 (fun J28 h => ?_) _ _ _ h
  have h := zk_r1 h
  subst h
  exact c_return rfl rfl
def l_X8_part_7 (p0 : Int64) (p2 : Int32) (K : Int64 → Option (Int64)) : Nat → Int64 → Int64 → Option (Int64)
  | 0, _, _ => none
  | n + 1, y3, y5 => (if (lg_cmp y5 (0 : Int64)) = 0 then (
    K y3) else (
    zk_ck (zk_nzl y5) (
     l_X8_part_7 p0 p2 K n y5 (y3 - y3 / y5 * y5))))
def f_X8_part (a1 : Int64) (a2 : Int32) : Option (Int64) := l_X8_part_7 a1 a2 (fun (z3 : Int64) =>
  (if a2 = 0 then (
   zk_ck (zk_nzl z3) (
    some (a1 / z3))) else (
   zk_ck (zk_nzl z3) (
    some ((217728000 : Int64) / z3))))) 3000 a1 (217728000 : Int64)
set_option maxRecDepth 20000 in
theorem kl_X8_part_7 {X : zk_X} {p0 : Int64} {p2 : Int32} {I : zk_I} {J : zk_J} {K : Int64 → Option (Int64)} {r : Int64} (jK : ∀ (z3 : Int64), K z3 = some r → zC X 1 m_X8_part 30 [some (.long p0), none, some (.int p2), some (.long z3), none, none, none, none, none] [] (z_Z, I, J) 0 0 (some (.long r)) (z_Z, I, J)) : ∀ (n : Nat) (y3 : Int64) (y5 : Int64), l_X8_part_7 p0 p2 K n y3 y5 = some r → zC X 1 m_X8_part 7 [some (.long p0), none, some (.int p2), some (.long y3), none, some (.long y5), none, none, none] [] (z_Z, I, J) 0 0 (some (.long r)) (z_Z, I, J) := by
  intro n
  induction n with
  | zero =>
    intro y3 y5 h
    cases h
  | succ n ih =>
    intro y3 y5 h
    rw [l_X8_part_7] at h
    refine c_lload rfl rfl ?_
    refine c_lconst rfl vl_0 ?_
    refine c_lcmp rfl ?_
    refine c_if_eq rfl (fun q1 => ?_) (fun q1 => ?_)
    · rw [if_pos q1] at h
      refine c_drop [true, true, true, true, true, false, true, true, true] (L2 := [some (.long p0), none, some (.int p2), some (.long y3), none, none, none, none, none]) rfl ?_
      exact jK _ h
    · rw [if_neg q1] at h
      refine c_lload_n rfl rfl ?_
      refine c_lload rfl rfl ?_
      obtain ⟨q2, h⟩ := zk_ck_e h
      refine c_lrem rfl (zk_nzl_n q2) ?_
      refine e_lstore (L2 := [some (.long p0), none, some (.int p2), some (.long y3), none, some (.long y5), none, some (.long (y3 - y3 / y5 * y5)), none]) rfl rfl rfl rfl ?_
      refine c_lload rfl rfl ?_
      refine e_lstore_n (L2 := [some (.long p0), none, some (.int p2), some (.long y5), none, some (.long y5), none, some (.long (y3 - y3 / y5 * y5)), none]) rfl rfl rfl rfl ?_
      refine c_lload rfl rfl ?_
      refine e_lstore (L2 := [some (.long p0), none, some (.int p2), some (.long y5), none, some (.long (y3 - y3 / y5 * y5)), none, some (.long (y3 - y3 / y5 * y5)), none]) rfl rfl rfl rfl ?_
      refine c_goto rfl ?_
      refine c_drop [true, true, true, true, true, true, true, false, true] (L2 := [some (.long p0), none, some (.int p2), some (.long y5), none, some (.long (y3 - y3 / y5 * y5)), none, none, none]) rfl ?_
      exact ih _ _ h
set_option maxRecDepth 20000 in
theorem k_X8_part {X : zk_X} {I : zk_I} {J : zk_J} {a1 : Int64} {a2 : Int32} {r : Int64} (h : f_X8_part a1 a2 = some r) : zC X 1 m_X8_part 0 (zk_ent [.long a1, .int a2] 9) [] (z_Z, I, J) 0 0 (some (.long r)) (z_Z, I, J) := by
  unfold f_X8_part at h
  refine c_ent (L2 := [some (.long a1), none, some (.int a2), none, none, none, none, none, none]) rfl ?_
  refine c_lload_n rfl rfl ?_
  refine e_lstore_n (L2 := [some (.long a1), none, some (.int a2), some (.long a1), none, none, none, none, none]) rfl rfl rfl rfl ?_
  refine c_ldc2 rfl vc_X8_169 ?_
  refine e_lstore (L2 := [some (.long a1), none, some (.int a2), some (.long a1), none, some (.long (217728000 : Int64)), none, none, none]) rfl rfl rfl rfl ?_
  refine kl_X8_part_7 (fun z3 h => ?_) _ _ _ h
  refine c_iload_n rfl rfl ?_
  refine c_if_ne rfl (fun q4 => ?_) (fun q4 => ?_)
  · rw [if_neg q4] at h
    refine c_ldc2 rfl vc_X8_169 ?_
    refine c_lload_n rfl rfl ?_
    obtain ⟨q5, h⟩ := zk_ck_e h
    refine c_ldiv rfl (zk_nzl_n q5) ?_
    have h := zk_r1 h
    subst h
    exact c_lreturn rfl rfl
  · rw [if_pos q4] at h
    refine c_lload_n rfl rfl ?_
    refine c_lload_n rfl rfl ?_
    obtain ⟨q6, h⟩ := zk_ck_e h
    refine c_ldiv rfl (zk_nzl_n q6) ?_
    refine c_goto rfl ?_
    have h := zk_r1 h
    subst h
    exact c_lreturn rfl rfl
def l_X8_mean_35 (I : zk_I) (J : zk_J) (p1 : Int32) (p2 : Int32) (K : Int64 → Option (Int64 × zk_J)) : Nat → Int64 → Int32 → Option (Int64 × zk_J)
  | 0, _, _ => none
  | n + 1, y3, y5 => (if (2048 : Int32) ≤ y5 then (
    K y3) else (
    zk_ck (zk_in ((6 : Int32) + p1) 14) (
     zk_jp1 (fun (v12 : Int64) =>
      l_X8_mean_35 I J p1 p2 K n (y3 + v12) (y5 + (1 : Int32))) (fun (K13 : Int64 → Option (Int64 × zk_J)) =>
      (if (y5 / (8 : Int32)) = (I 80 ((6 : Int32) + p1).toNatClampNeg) then (
       K13 (0 : Int64)) else (
       zk_ck (zk_in y5 2048) (
        K13 (J 92 y5.toNatClampNeg))))))))
def f_X8_mean (I : zk_I) (J : zk_J) (a1 : Int32) (a2 : Int32) : Option (Int64 × zk_J) := zk_bd1 (f_X8_isBook I a1) (fun (r2 : Int32) =>
  (if r2 = 0 then (
   some ((-2 : Int64), J)) else (
   zk_lt (f_X8_in a2 (0 : Int32) (1 : Int32)) (fun (r5 : Int32) =>
    (if r5 = 0 then (
     some ((-3 : Int64), J)) else (
     zk_bd1 (f_X8_laysOdds I J a1) (fun (J8 : zk_J) =>
      l_X8_mean_35 I J8 a1 a2 (fun (z15 : Int64) =>
       zk_bd1 (f_X8_part z15 a2) (fun (r17 : Int64) =>
        some (r17, J8))) 3000 (0 : Int64) (0 : Int32))))))))
set_option maxRecDepth 20000 in
theorem kl_X8_mean_35 {X : zk_X} {I : zk_I} {J : zk_J} {p1 : Int32} {p2 : Int32} {K : Int64 → Option (Int64 × zk_J)} {r : Int64} {JR : zk_J} (jK : ∀ (z3 : Int64), K z3 = some (r, JR) → zC X 4 m_X8_mean 80 [none, none, some (.int p2), some (.long z3), none, none] [] (z_Z, I, J) 0 0 (some (.long r)) (z_Z, I, JR)) : ∀ (n : Nat) (y3 : Int64) (y5 : Int32), l_X8_mean_35 I J p1 p2 K n y3 y5 = some (r, JR) → zC X 4 m_X8_mean 35 [some (.ref 76), some (.int p1), some (.int p2), some (.long y3), none, some (.int y5)] [] (z_Z, I, J) 0 0 (some (.long r)) (z_Z, I, JR) := by
  intro n
  induction n with
  | zero =>
    intro y3 y5 h
    cases h
  | succ n ih =>
    intro y3 y5 h
    rw [l_X8_mean_35] at h
    refine c_iload rfl rfl ?_
    refine c_sipush rfl vs_2048 ?_
    refine c_icmp_ge rfl (fun q9 => ?_) (fun q9 => ?_)
    · rw [if_pos q9] at h
      refine c_drop [false, false, true, true, true, false] (L2 := [none, none, some (.int p2), some (.long y3), none, none]) rfl ?_
      exact jK _ h
    · rw [if_neg q9] at h
      refine c_lload_n rfl rfl ?_
      refine c_iload rfl rfl ?_
      refine c_bipush rfl vb_8 ?_
      refine c_idiv rfl (by decide) ?_
      refine c_aload_n rfl rfl ?_
      refine c_getR rfl fk_X8_19 rfl (Nat.le_of_ble_eq_true rfl) rfl ?_
      refine c_bipush rfl vb_6 ?_
      refine c_iload_n rfl rfl ?_
      refine c_iadd rfl ?_
      obtain ⟨q10, h⟩ := zk_ck_e h
      refine e_iald rfl rfl (Nat.le_of_ble_eq_true rfl) q10 rfl ?_
      refine zk_jp1_e (Z := fun (v12 : Int64) => zC X 4 m_X8_mean 72 [some (.ref 76), some (.int p1), some (.int p2), none, none, some (.int y5)] [.long v12, .long y3] (z_Z, I, J) 0 0 (some (.long r)) (z_Z, I, JR)) h (fun v12 h => ?_) (fun K13 jK13 h => ?_)
      · refine c_ladd rfl ?_
        refine e_lstore_n (L2 := [some (.ref 76), some (.int p1), some (.int p2), some (.long (y3 + v12)), none, some (.int y5)]) rfl rfl rfl rfl ?_
        refine e_iinc (L2 := [some (.ref 76), some (.int p1), some (.int p2), some (.long (y3 + v12)), none, some (.int (y5 + (1 : Int32)))]) rfl rfl vi_1 rfl rfl rfl ?_
        refine c_goto rfl ?_
        exact ih _ _ h
      · refine c_icmp_ne rfl (fun q11 => ?_) (fun q11 => ?_)
        · rw [if_neg q11] at h
          refine c_aload_n rfl rfl ?_
          refine c_getR rfl fk_X8_56 rfl (Nat.le_of_ble_eq_true rfl) rfl ?_
          refine c_iload rfl rfl ?_
          obtain ⟨q14, h⟩ := zk_ck_e h
          refine e_lald rfl rfl (Nat.le_of_ble_eq_true rfl) q14 rfl ?_
          refine c_drop [true, true, true, false, true, true] (L2 := [some (.ref 76), some (.int p1), some (.int p2), none, none, some (.int y5)]) rfl ?_
          exact jK13 _ h
        · rw [if_pos q11] at h
          refine c_lconst rfl vl_0 ?_
          refine c_goto rfl ?_
          refine c_drop [true, true, true, false, true, true] (L2 := [some (.ref 76), some (.int p1), some (.int p2), none, none, some (.int y5)]) rfl ?_
          exact jK13 _ h
set_option maxRecDepth 20000 in
theorem k_X8_mean {X : zk_X} {I : zk_I} {J : zk_J} {a1 : Int32} {a2 : Int32} {r : Int64} {JR : zk_J} (h : f_X8_mean I J a1 a2 = some (r, JR)) : zC X 4 m_X8_mean 0 (zk_ent [.ref 76, .int a1, .int a2] 6) [] (z_Z, I, J) 0 0 (some (.long r)) (z_Z, I, JR) := by
  unfold f_X8_mean at h
  refine c_ent (L2 := [some (.ref 76), some (.int a1), some (.int a2), none, none, none]) rfl ?_
  refine c_aload_n rfl rfl ?_
  refine c_iload_n rfl rfl ?_
  obtain ⟨r2, h1, h⟩ := zk_bd1_e h
  refine e_callV (As := [.int a1]) (st := []) rfl lk_X8_143 rfl (Nat.le_of_ble_eq_true rfl) rfl rfl rfl (Nat.le_of_ble_eq_true rfl) rfl (k_X8_isBook h1) ?_
  refine c_if_ne rfl (fun q3 => ?_) (fun q3 => ?_)
  · rw [if_neg q3] at h
    refine c_iload_n rfl rfl ?_
    refine c_iconst rfl vi_0 ?_
    refine c_iconst rfl vi_1 ?_
    obtain ⟨r5, h4, h⟩ := zk_lt_g h
    refine e_callS (As := [.int a2, .int (0 : Int32), .int (1 : Int32)]) (st := []) rfl lk_X8_63 rfl rfl rfl (Nat.le_of_ble_eq_true rfl) rfl (k_X8_in h4.symm) ?_
    refine c_if_ne rfl (fun q6 => ?_) (fun q6 => ?_)
    · rw [if_neg q6] at h
      refine c_aload_n rfl rfl ?_
      refine c_iload_n rfl rfl ?_
      obtain ⟨J8, h7, h⟩ := zk_bd1_e h
      refine e_callV (As := [.int a1]) (st := []) rfl lk_X8_175 rfl (Nat.le_of_ble_eq_true rfl) rfl rfl rfl (Nat.le_of_ble_eq_true rfl) rfl (k_X8_laysOdds h7) ?_
      refine c_lconst rfl vl_0 ?_
      refine e_lstore_n (L2 := [some (.ref 76), some (.int a1), some (.int a2), some (.long (0 : Int64)), none, none]) rfl rfl rfl rfl ?_
      refine c_iconst rfl vi_0 ?_
      refine e_istore (L2 := [some (.ref 76), some (.int a1), some (.int a2), some (.long (0 : Int64)), none, some (.int (0 : Int32))]) rfl rfl rfl rfl ?_
      refine kl_X8_mean_35 (fun z15 h => ?_) _ _ _ h
      refine c_lload_n rfl rfl ?_
      refine c_iload_n rfl rfl ?_
      obtain ⟨r17, h16, h⟩ := zk_bd1_e h
      refine e_callS (As := [.long z15, .int a2]) (st := []) rfl lk_X8_179 rfl rfl rfl (Nat.le_of_ble_eq_true rfl) rfl (k_X8_part h16) ?_
      obtain ⟨rfl, rfl⟩ := zk_r2 h
      exact c_lreturn rfl rfl
    · rw [if_pos q6] at h
      refine c_ldc2 rfl vc_X8_173 ?_
      obtain ⟨rfl, rfl⟩ := zk_r2 h
      exact c_lreturn rfl rfl
  · rw [if_pos q3] at h
    refine c_ldc2 rfl vc_X8_171 ?_
    obtain ⟨rfl, rfl⟩ := zk_r2 h
    exact c_lreturn rfl rfl
def l_X8_odds_44 (I : zk_I) (J : zk_J) (p1 : Int32) (p2 : Int32) (p3 : Int32) (K : Int64 → Option (Int64 × zk_J)) : Nat → Int64 → Int32 → Option (Int64 × zk_J)
  | 0, _, _ => none
  | n + 1, y4, y6 => (if (2048 : Int32) ≤ y6 then (
    K y4) else (
    zk_ck (zk_in y6 2048) (
     zk_lt (y4 + (J 92 y6.toNatClampNeg)) (fun (x14 : Int64) =>
      l_X8_odds_44 I J p1 p2 p3 K n x14 (y6 + (8 : Int32))))))
def f_X8_odds (I : zk_I) (J : zk_J) (a1 : Int32) (a2 : Int32) (a3 : Int32) : Option (Int64 × zk_J) := zk_bd1 (f_X8_isBook I a1) (fun (r2 : Int32) =>
  (if r2 = 0 then (
   some ((-2 : Int64), J)) else (
   zk_bd1 (f_X8_isReader I a2) (fun (r5 : Int32) =>
    (if r5 = 0 then (
     some ((-2 : Int64), J)) else (
     zk_lt (f_X8_in a3 (0 : Int32) (1 : Int32)) (fun (r8 : Int32) =>
      (if r8 = 0 then (
       some ((-3 : Int64), J)) else (
       zk_bd1 (f_X8_laysOdds I J a1) (fun (J11 : zk_J) =>
        l_X8_odds_44 I J11 a1 a2 a3 (fun (z15 : Int64) =>
         zk_ck (zk_in ((6 : Int32) + a1) 14) (
          zk_lt ((if (((I 80 ((6 : Int32) + a1).toNatClampNeg) >>> (a2 &&& 31)) &&& (1 : Int32)) = (1 : Int32) then (217728000 : Int64) else z15)) (fun (v18 : Int64) =>
           zk_bd1 (f_X8_part v18 a3) (fun (r21 : Int64) =>
            some (r21, J11))))) 3000 (0 : Int64) a2))))))))))
set_option maxRecDepth 20000 in
theorem kl_X8_odds_44 {X : zk_X} {I : zk_I} {J : zk_J} {p1 : Int32} {p2 : Int32} {p3 : Int32} {K : Int64 → Option (Int64 × zk_J)} {r : Int64} {JR : zk_J} (jK : ∀ (z4 : Int64), K z4 = some (r, JR) → zC X 4 m_X8_odds 70 [some (.ref 76), some (.int p1), some (.int p2), some (.int p3), some (.long z4), none, none] [] (z_Z, I, J) 0 0 (some (.long r)) (z_Z, I, JR)) : ∀ (n : Nat) (y4 : Int64) (y6 : Int32), l_X8_odds_44 I J p1 p2 p3 K n y4 y6 = some (r, JR) → zC X 4 m_X8_odds 44 [some (.ref 76), some (.int p1), some (.int p2), some (.int p3), some (.long y4), none, some (.int y6)] [] (z_Z, I, J) 0 0 (some (.long r)) (z_Z, I, JR) := by
  intro n
  induction n with
  | zero =>
    intro y4 y6 h
    cases h
  | succ n ih =>
    intro y4 y6 h
    rw [l_X8_odds_44] at h
    refine c_iload rfl rfl ?_
    refine c_sipush rfl vs_2048 ?_
    refine c_icmp_ge rfl (fun q12 => ?_) (fun q12 => ?_)
    · rw [if_pos q12] at h
      refine c_drop [true, true, true, true, true, true, false] (L2 := [some (.ref 76), some (.int p1), some (.int p2), some (.int p3), some (.long y4), none, none]) rfl ?_
      exact jK _ h
    · rw [if_neg q12] at h
      refine c_lload rfl rfl ?_
      refine c_aload_n rfl rfl ?_
      refine c_getR rfl fk_X8_56 rfl (Nat.le_of_ble_eq_true rfl) rfl ?_
      refine c_iload rfl rfl ?_
      obtain ⟨q13, h⟩ := zk_ck_e h
      refine e_lald rfl rfl (Nat.le_of_ble_eq_true rfl) q13 rfl ?_
      refine c_ladd rfl ?_
      obtain ⟨x14, hx14, h⟩ := zk_lt_g h
      refine c_topl hx14 ?_
      refine e_lstore (L2 := [some (.ref 76), some (.int p1), some (.int p2), some (.int p3), some (.long x14), none, some (.int y6)]) rfl rfl rfl rfl ?_
      refine e_iinc (L2 := [some (.ref 76), some (.int p1), some (.int p2), some (.int p3), some (.long x14), none, some (.int (y6 + (8 : Int32)))]) rfl rfl vi_8 rfl rfl rfl ?_
      refine c_goto rfl ?_
      exact ih _ _ h
set_option maxRecDepth 20000 in
theorem k_X8_odds {X : zk_X} {I : zk_I} {J : zk_J} {a1 : Int32} {a2 : Int32} {a3 : Int32} {r : Int64} {JR : zk_J} (h : f_X8_odds I J a1 a2 a3 = some (r, JR)) : zC X 4 m_X8_odds 0 (zk_ent [.ref 76, .int a1, .int a2, .int a3] 7) [] (z_Z, I, J) 0 0 (some (.long r)) (z_Z, I, JR) := by
  unfold f_X8_odds at h
  refine c_ent (L2 := [some (.ref 76), some (.int a1), some (.int a2), some (.int a3), none, none, none]) rfl ?_
  refine c_aload_n rfl rfl ?_
  refine c_iload_n rfl rfl ?_
  obtain ⟨r2, h1, h⟩ := zk_bd1_e h
  refine e_callV (As := [.int a1]) (st := []) rfl lk_X8_143 rfl (Nat.le_of_ble_eq_true rfl) rfl rfl rfl (Nat.le_of_ble_eq_true rfl) rfl (k_X8_isBook h1) ?_
  refine c_if_eq rfl (fun q3 => ?_) (fun q3 => ?_)
  · rw [if_pos q3] at h
    refine c_ldc2 rfl vc_X8_171 ?_
    obtain ⟨rfl, rfl⟩ := zk_r2 h
    exact c_lreturn rfl rfl
  · rw [if_neg q3] at h
    refine c_aload_n rfl rfl ?_
    refine c_iload_n rfl rfl ?_
    obtain ⟨r5, h4, h⟩ := zk_bd1_e h
    refine e_callV (As := [.int a2]) (st := []) rfl lk_X8_140 rfl (Nat.le_of_ble_eq_true rfl) rfl rfl rfl (Nat.le_of_ble_eq_true rfl) rfl (k_X8_isReader h4) ?_
    refine c_if_ne rfl (fun q6 => ?_) (fun q6 => ?_)
    · rw [if_neg q6] at h
      refine c_iload_n rfl rfl ?_
      refine c_iconst rfl vi_0 ?_
      refine c_iconst rfl vi_1 ?_
      obtain ⟨r8, h7, h⟩ := zk_lt_g h
      refine e_callS (As := [.int a3, .int (0 : Int32), .int (1 : Int32)]) (st := []) rfl lk_X8_63 rfl rfl rfl (Nat.le_of_ble_eq_true rfl) rfl (k_X8_in h7.symm) ?_
      refine c_if_ne rfl (fun q9 => ?_) (fun q9 => ?_)
      · rw [if_neg q9] at h
        refine c_aload_n rfl rfl ?_
        refine c_iload_n rfl rfl ?_
        obtain ⟨J11, h10, h⟩ := zk_bd1_e h
        refine e_callV (As := [.int a1]) (st := []) rfl lk_X8_175 rfl (Nat.le_of_ble_eq_true rfl) rfl rfl rfl (Nat.le_of_ble_eq_true rfl) rfl (k_X8_laysOdds h10) ?_
        refine c_lconst rfl vl_0 ?_
        refine e_lstore (L2 := [some (.ref 76), some (.int a1), some (.int a2), some (.int a3), some (.long (0 : Int64)), none, none]) rfl rfl rfl rfl ?_
        refine c_iload_n rfl rfl ?_
        refine e_istore (L2 := [some (.ref 76), some (.int a1), some (.int a2), some (.int a3), some (.long (0 : Int64)), none, some (.int a2)]) rfl rfl rfl rfl ?_
        refine kl_X8_odds_44 (fun z15 h => ?_) _ _ _ h
        refine c_aload_n rfl rfl ?_
        refine c_getR rfl fk_X8_19 rfl (Nat.le_of_ble_eq_true rfl) rfl ?_
        refine c_bipush rfl vb_6 ?_
        refine c_iload_n rfl rfl ?_
        refine c_iadd rfl ?_
        obtain ⟨q16, h⟩ := zk_ck_e h
        refine e_iald rfl rfl (Nat.le_of_ble_eq_true rfl) q16 rfl ?_
        refine c_iload_n rfl rfl ?_
        refine c_ishr rfl ?_
        refine c_iconst rfl vi_1 ?_
        refine c_iand rfl ?_
        refine c_iconst rfl vi_1 ?_
        refine zk_lt1K (Z := fun (v18 : Int64) => zC X 4 m_X8_odds 95 [none, none, none, some (.int a3), none, none, none] [.long v18] (z_Z, I, J11) 0 0 (some (.long r)) (z_Z, I, JR)) h (fun v18 h => ?_) (fun hz => ?_)
        · refine c_iload_n rfl rfl ?_
          obtain ⟨r21, h20, h⟩ := zk_bd1_e h
          refine e_callS (As := [.long v18, .int a3]) (st := []) rfl lk_X8_179 rfl rfl rfl (Nat.le_of_ble_eq_true rfl) rfl (k_X8_part h20) ?_
          obtain ⟨rfl, rfl⟩ := zk_r2 h
          exact c_lreturn rfl rfl
        · refine c_icmp_ne rfl (fun q17 => ?_) (fun q17 => ?_)
          · refine c_lload rfl rfl ?_
            refine c_drop [false, false, false, true, false, true, true] (L2 := [none, none, none, some (.int a3), none, none, none]) rfl ?_
            rw [if_neg q17] at hz
            exact hz
          · refine c_ldc2 rfl vc_X8_169 ?_
            refine c_goto rfl ?_
            refine c_drop [false, false, false, true, false, true, true] (L2 := [none, none, none, some (.int a3), none, none, none]) rfl ?_
            rw [if_pos q17] at hz
            exact hz
      · rw [if_pos q9] at h
        refine c_ldc2 rfl vc_X8_173 ?_
        obtain ⟨rfl, rfl⟩ := zk_r2 h
        exact c_lreturn rfl rfl
    · rw [if_pos q6] at h
      refine c_ldc2 rfl vc_X8_171 ?_
      obtain ⟨rfl, rfl⟩ := zk_r2 h
      exact c_lreturn rfl rfl

def f_X5_sortOf (a1 : Int32) : Int32 := zk_jp0 (zk_jp0 ((0 : Int32)) (fun (K4 : Int32) =>
   (if a1 < (48 : Int32) then (
    K4) else (
    (if (57 : Int32) < a1 then (
     K4) else (
     (2 : Int32))))))) (fun (K2 : Int32) =>
  (if a1 < (97 : Int32) then (
   K2) else (
   (if (122 : Int32) < a1 then (
    K2) else (
    (1 : Int32))))))
set_option maxRecDepth 20000 in
theorem k_X5_sortOf {X : zk_X} {I : zk_I} {J : zk_J} {a1 : Int32} {r : Int32} (h : f_X5_sortOf a1 = r) : zC X 1 m_X5_sortOf 0 (zk_ent [.int a1] 1) [] (z_Z, I, J) 0 0 (some (.int r)) (z_Z, I, J) := by
  unfold f_X5_sortOf at h
  refine c_ent (L2 := [some (.int a1)]) rfl ?_
  refine c_iload_n rfl rfl ?_
  refine c_bipush rfl vb_97 ?_
  refine zk_jp0_e (Z := zC X 1 m_X5_sortOf 14 [some (.int a1)] [] (z_Z, I, J) 0 0 (some (.int r)) (z_Z, I, J)) h (fun h => ?_) (fun K2 jK2 h => ?_)
  · refine c_iload_n rfl rfl ?_
    refine c_bipush rfl vb_48 ?_
    refine zk_jp0_e (Z := zC X 1 m_X5_sortOf 30 [none] [] (z_Z, I, J) 0 0 (some (.int r)) (z_Z, I, J)) h (fun h => ?_) (fun K4 jK4 h => ?_)
    · refine c_iconst rfl vi_0 ?_
      subst h
      exact c_ireturn rfl rfl rfl
    · refine c_icmp_lt rfl (fun q3 => ?_) (fun q3 => ?_)
      · rw [if_pos q3] at h
        refine c_drop [false] (L2 := [none]) rfl ?_
        exact jK4 h
      · rw [if_neg q3] at h
        refine c_iload_n rfl rfl ?_
        refine c_bipush rfl vb_57 ?_
        refine c_icmp_gt rfl (fun q5 => ?_) (fun q5 => ?_)
        · rw [if_pos q5] at h
          refine c_drop [false] (L2 := [none]) rfl ?_
          exact jK4 h
        · rw [if_neg q5] at h
          refine c_iconst rfl vi_2 ?_
          refine c_goto rfl ?_
          subst h
          exact c_ireturn rfl rfl rfl
  · refine c_icmp_lt rfl (fun q1 => ?_) (fun q1 => ?_)
    · rw [if_pos q1] at h
      exact jK2 h
    · rw [if_neg q1] at h
      refine c_iload_n rfl rfl ?_
      refine c_bipush rfl vb_122 ?_
      refine c_icmp_gt rfl (fun q6 => ?_) (fun q6 => ?_)
      · rw [if_pos q6] at h
        exact jK2 h
      · rw [if_neg q6] at h
        refine c_iconst rfl vi_1 ?_
        subst h
        exact c_ireturn rfl rfl rfl
def l_X5_goToNextToken_8  (K : zk_I → Option (zk_I)) : Nat → zk_I → Option (zk_I)
  | 0, _ => none
  | n + 1, Iy => (if (Iy 1 1) ≤ (Iy 1 2) then (
    K Iy) else (
    zk_ck (zk_in (Iy 1 2) 160) (
     (if (Iy 2 (Iy 1 2).toNatClampNeg) = (32 : Int32) then (
      zk_lt (zk_sc Iy 1 (upd (Iy 1) 2 ((Iy 1 2) + (1 : Int32)))) (fun (I5 : zk_I) =>
       l_X5_goToNextToken_8 K n I5)) else (
      K Iy)))))
def l_X5_goToNextToken_89 (p1 : Int32) (K : zk_I → Option (zk_I)) : Nat → zk_I → Option (zk_I)
  | 0, _ => none
  | n + 1, Iy => (if p1 = 0 then (
    K Iy) else (
    (if (Iy 1 1) ≤ (Iy 1 3) then (
     K Iy) else (
     zk_ck (zk_in (Iy 1 3) 160) (
      zk_lt (f_X5_sortOf (Iy 2 (Iy 1 3).toNatClampNeg)) (fun (r17 : Int32) =>
       (if r17 = p1 then (
        zk_lt (zk_sc Iy 1 (upd (Iy 1) 3 ((Iy 1 3) + (1 : Int32)))) (fun (I19 : zk_I) =>
         l_X5_goToNextToken_89 p1 K n I19)) else (
        K Iy))))))))
def f_X5_goToNextToken (I : zk_I) : Option (zk_I) := zk_lt (zk_sc I 1 (upd (I 1) 2 (I 1 3))) (fun (I1 : zk_I) =>
  l_X5_goToNextToken_8 (fun (I6 : zk_I) =>
   zk_lt (zk_sc I6 1 (upd (I6 1) 3 (I6 1 2))) (fun (I7 : zk_I) =>
    (if (I7 1 2) < (I7 1 1) then (
     zk_lt (zk_sc I7 1 (upd (I7 1) 3 ((I7 1 3) + (1 : Int32)))) (fun (I9 : zk_I) =>
      zk_ck (zk_in (I9 1 2) 160) (
       zk_lt (f_X5_sortOf (I9 2 (I9 1 2).toNatClampNeg)) (fun (r12 : Int32) =>
        l_X5_goToNextToken_89 r12 (fun (I20 : zk_I) =>
         some I20) 3000 I9)))) else (
     some I7)))) 3000 I1)
set_option maxRecDepth 20000 in
theorem kl_X5_goToNextToken_8 {X : zk_X} {J : zk_J} {K : zk_I → Option (zk_I)} {IR : zk_I} (jK : ∀ (Iz : zk_I), K Iz = some IR → zC X 2 m_X5_goToNextToken 46 [some (.ref 1), none] [] (z_Z, Iz, J) 0 0 none (z_Z, IR, J)) : ∀ (n : Nat) (Iy : zk_I), l_X5_goToNextToken_8 K n Iy = some IR → zC X 2 m_X5_goToNextToken 8 [some (.ref 1), none] [] (z_Z, Iy, J) 0 0 none (z_Z, IR, J) := by
  intro n
  induction n with
  | zero =>
    intro Iy h
    cases h
  | succ n ih =>
    intro Iy h
    rw [l_X5_goToNextToken_8] at h
    refine c_aload_n rfl rfl ?_
    refine c_getI rfl fk_X5_25 rfl (Nat.le_of_ble_eq_true rfl) ?_
    refine c_aload_n rfl rfl ?_
    refine c_getI rfl fk_X5_15 rfl (Nat.le_of_ble_eq_true rfl) ?_
    refine c_icmp_ge rfl (fun q2 => ?_) (fun q2 => ?_)
    · rw [if_pos q2] at h
      exact jK _ h
    · rw [if_neg q2] at h
      refine c_aload_n rfl rfl ?_
      refine c_getR rfl fk_X5_9 rfl (Nat.le_of_ble_eq_true rfl) rfl ?_
      refine c_aload_n rfl rfl ?_
      refine c_getI rfl fk_X5_25 rfl (Nat.le_of_ble_eq_true rfl) ?_
      obtain ⟨q3, h⟩ := zk_ck_e h
      refine e_cald rfl rfl (Nat.le_of_ble_eq_true rfl) q3 rfl ?_
      refine c_bipush rfl vb_32 ?_
      refine c_icmp_ne rfl (fun q4 => ?_) (fun q4 => ?_)
      · rw [if_neg q4] at h
        exact jK _ h
      · rw [if_pos q4] at h
        refine c_aload_n rfl rfl ?_
        refine c_dup rfl rfl ?_
        refine c_getI rfl fk_X5_25 rfl (Nat.le_of_ble_eq_true rfl) ?_
        refine c_iconst rfl vi_1 ?_
        refine c_iadd rfl ?_
        refine c_putI rfl fk_X5_25 rfl rfl (Nat.le_of_ble_eq_true rfl) ?_
        obtain ⟨I5, hI5, h⟩ := zk_lt_g h
        refine c_memI hI5 ?_
        refine c_goto rfl ?_
        exact ih _ h
set_option maxRecDepth 20000 in
theorem kl_X5_goToNextToken_89 {X : zk_X} {p1 : Int32} {J : zk_J} {K : zk_I → Option (zk_I)} {IR : zk_I} (jK : ∀ (Iz : zk_I), K Iz = some IR → zC X 2 m_X5_goToNextToken 133 [none, none] [] (z_Z, Iz, J) 0 0 none (z_Z, IR, J)) : ∀ (n : Nat) (Iy : zk_I), l_X5_goToNextToken_89 p1 K n Iy = some IR → zC X 2 m_X5_goToNextToken 89 [some (.ref 1), some (.int p1)] [] (z_Z, Iy, J) 0 0 none (z_Z, IR, J) := by
  intro n
  induction n with
  | zero =>
    intro Iy h
    cases h
  | succ n ih =>
    intro Iy h
    rw [l_X5_goToNextToken_89] at h
    refine c_iload_n rfl rfl ?_
    refine c_if_eq rfl (fun q13 => ?_) (fun q13 => ?_)
    · rw [if_pos q13] at h
      refine c_drop [false, false] (L2 := [none, none]) rfl ?_
      exact jK _ h
    · rw [if_neg q13] at h
      refine c_aload_n rfl rfl ?_
      refine c_getI rfl fk_X5_19 rfl (Nat.le_of_ble_eq_true rfl) ?_
      refine c_aload_n rfl rfl ?_
      refine c_getI rfl fk_X5_15 rfl (Nat.le_of_ble_eq_true rfl) ?_
      refine c_icmp_ge rfl (fun q14 => ?_) (fun q14 => ?_)
      · rw [if_pos q14] at h
        refine c_drop [false, false] (L2 := [none, none]) rfl ?_
        exact jK _ h
      · rw [if_neg q14] at h
        refine c_aload_n rfl rfl ?_
        refine c_getR rfl fk_X5_9 rfl (Nat.le_of_ble_eq_true rfl) rfl ?_
        refine c_aload_n rfl rfl ?_
        refine c_getI rfl fk_X5_19 rfl (Nat.le_of_ble_eq_true rfl) ?_
        obtain ⟨q15, h⟩ := zk_ck_e h
        refine e_cald rfl rfl (Nat.le_of_ble_eq_true rfl) q15 rfl ?_
        obtain ⟨r17, h16, h⟩ := zk_lt_g h
        refine e_callS (As := [.int (Iy 2 (Iy 1 3).toNatClampNeg)]) (st := []) rfl lk_X5_28 rfl rfl rfl (Nat.le_of_ble_eq_true rfl) rfl (k_X5_sortOf h16.symm) ?_
        refine c_iload_n rfl rfl ?_
        refine c_icmp_ne rfl (fun q18 => ?_) (fun q18 => ?_)
        · rw [if_neg q18] at h
          refine c_drop [false, false] (L2 := [none, none]) rfl ?_
          exact jK _ h
        · rw [if_pos q18] at h
          refine c_aload_n rfl rfl ?_
          refine c_dup rfl rfl ?_
          refine c_getI rfl fk_X5_19 rfl (Nat.le_of_ble_eq_true rfl) ?_
          refine c_iconst rfl vi_1 ?_
          refine c_iadd rfl ?_
          refine c_putI rfl fk_X5_19 rfl rfl (Nat.le_of_ble_eq_true rfl) ?_
          obtain ⟨I19, hI19, h⟩ := zk_lt_g h
          refine c_memI hI19 ?_
          refine c_goto rfl ?_
          exact ih _ h
set_option maxRecDepth 20000 in
theorem k_X5_goToNextToken {X : zk_X} {I : zk_I} {J : zk_J} {IR : zk_I} (h : f_X5_goToNextToken I = some IR) : zC X 2 m_X5_goToNextToken 0 (zk_ent [.ref 1] 2) [] (z_Z, I, J) 0 0 none (z_Z, IR, J) := by
  unfold f_X5_goToNextToken at h
  refine c_ent (L2 := [some (.ref 1), none]) rfl ?_
  refine c_aload_n rfl rfl ?_
  refine c_aload_n rfl rfl ?_
  refine c_getI rfl fk_X5_19 rfl (Nat.le_of_ble_eq_true rfl) ?_
  refine c_putI rfl fk_X5_25 rfl rfl (Nat.le_of_ble_eq_true rfl) ?_
  obtain ⟨I1, hI1, h⟩ := zk_lt_g h
  refine c_memI hI1 ?_
  refine kl_X5_goToNextToken_8 (fun I6 h => ?_) _ _ h
  refine c_aload_n rfl rfl ?_
  refine c_aload_n rfl rfl ?_
  refine c_getI rfl fk_X5_25 rfl (Nat.le_of_ble_eq_true rfl) ?_
  refine c_putI rfl fk_X5_19 rfl rfl (Nat.le_of_ble_eq_true rfl) ?_
  obtain ⟨I7, hI7, h⟩ := zk_lt_g h
  refine c_memI hI7 ?_
  refine c_aload_n rfl rfl ?_
  refine c_getI rfl fk_X5_25 rfl (Nat.le_of_ble_eq_true rfl) ?_
  refine c_aload_n rfl rfl ?_
  refine c_getI rfl fk_X5_15 rfl (Nat.le_of_ble_eq_true rfl) ?_
  refine c_icmp_lt rfl (fun q8 => ?_) (fun q8 => ?_)
  · rw [if_pos q8] at h
    refine c_aload_n rfl rfl ?_
    refine c_dup rfl rfl ?_
    refine c_getI rfl fk_X5_19 rfl (Nat.le_of_ble_eq_true rfl) ?_
    refine c_iconst rfl vi_1 ?_
    refine c_iadd rfl ?_
    refine c_putI rfl fk_X5_19 rfl rfl (Nat.le_of_ble_eq_true rfl) ?_
    obtain ⟨I9, hI9, h⟩ := zk_lt_g h
    refine c_memI hI9 ?_
    refine c_aload_n rfl rfl ?_
    refine c_getR rfl fk_X5_9 rfl (Nat.le_of_ble_eq_true rfl) rfl ?_
    refine c_aload_n rfl rfl ?_
    refine c_getI rfl fk_X5_25 rfl (Nat.le_of_ble_eq_true rfl) ?_
    obtain ⟨q10, h⟩ := zk_ck_e h
    refine e_cald rfl rfl (Nat.le_of_ble_eq_true rfl) q10 rfl ?_
    obtain ⟨r12, h11, h⟩ := zk_lt_g h
    refine e_callS (As := [.int (I9 2 (I9 1 2).toNatClampNeg)]) (st := []) rfl lk_X5_28 rfl rfl rfl (Nat.le_of_ble_eq_true rfl) rfl (k_X5_sortOf h11.symm) ?_
    refine e_istore_n (L2 := [some (.ref 1), some (.int r12)]) rfl rfl rfl rfl ?_
    refine kl_X5_goToNextToken_89 (fun I20 h => ?_) _ _ h
    have h := zk_r1 h
    subst h
    exact c_return rfl rfl
  · rw [if_neg q8] at h
    have h := zk_r1 h
    subst h
    exact c_return rfl rfl
def l_X5_number_45 (I : zk_I) (K : Int32 → Option (Int32)) : Nat → Int32 → Int32 → Option (Int32)
  | 0, _, _ => none
  | n + 1, y2, y3 => (if (I 1 3) ≤ y3 then (
    K y2) else (
    zk_ck (zk_in y3 160) (
     zk_lt ((y2 * (10 : Int32)) + ((I 2 y3.toNatClampNeg) - (48 : Int32))) (fun (x9 : Int32) =>
      l_X5_number_45 I K n x9 (y3 + (1 : Int32))))))
def f_X5_number (I : zk_I) : Option (Int32) := (if ((I 1 3) - (I 1 2)) < (1 : Int32) then (
  some (-1 : Int32)) else (
  (if (2 : Int32) < ((I 1 3) - (I 1 2)) then (
   some (-1 : Int32)) else (
   zk_ck (zk_in (I 1 2) 160) (
    zk_lt (f_X5_sortOf (I 2 (I 1 2).toNatClampNeg)) (fun (r5 : Int32) =>
     (if r5 = (2 : Int32) then (
      l_X5_number_45 I (fun (z10 : Int32) =>
       some z10) 3000 (0 : Int32) (I 1 2)) else (
      some (-1 : Int32)))))))))
set_option maxRecDepth 20000 in
theorem kl_X5_number_45 {X : zk_X} {I : zk_I} {J : zk_J} {K : Int32 → Option (Int32)} {r : Int32} (jK : ∀ (z2 : Int32), K z2 = some r → zC X 2 m_X5_number 74 [none, none, some (.int z2), none] [] (z_Z, I, J) 0 0 (some (.int r)) (z_Z, I, J)) : ∀ (n : Nat) (y2 : Int32) (y3 : Int32), l_X5_number_45 I K n y2 y3 = some r → zC X 2 m_X5_number 45 [some (.ref 1), none, some (.int y2), some (.int y3)] [] (z_Z, I, J) 0 0 (some (.int r)) (z_Z, I, J) := by
  intro n
  induction n with
  | zero =>
    intro y2 y3 h
    cases h
  | succ n ih =>
    intro y2 y3 h
    rw [l_X5_number_45] at h
    refine c_iload_n rfl rfl ?_
    refine c_aload_n rfl rfl ?_
    refine c_getI rfl fk_X5_19 rfl (Nat.le_of_ble_eq_true rfl) ?_
    refine c_icmp_ge rfl (fun q7 => ?_) (fun q7 => ?_)
    · rw [if_pos q7] at h
      refine c_drop [false, true, true, false] (L2 := [none, none, some (.int y2), none]) rfl ?_
      exact jK _ h
    · rw [if_neg q7] at h
      refine c_iload_n rfl rfl ?_
      refine c_bipush rfl vb_10 ?_
      refine c_imul rfl ?_
      refine c_aload_n rfl rfl ?_
      refine c_getR rfl fk_X5_9 rfl (Nat.le_of_ble_eq_true rfl) rfl ?_
      refine c_iload_n rfl rfl ?_
      obtain ⟨q8, h⟩ := zk_ck_e h
      refine e_cald rfl rfl (Nat.le_of_ble_eq_true rfl) q8 rfl ?_
      refine c_bipush rfl vb_48 ?_
      refine c_isub rfl ?_
      refine c_iadd rfl ?_
      obtain ⟨x9, hx9, h⟩ := zk_lt_g h
      refine c_topi hx9 ?_
      refine e_istore_n (L2 := [some (.ref 1), none, some (.int x9), some (.int y3)]) rfl rfl rfl rfl ?_
      refine e_iinc (L2 := [some (.ref 1), none, some (.int x9), some (.int (y3 + (1 : Int32)))]) rfl rfl vi_1 rfl rfl rfl ?_
      refine c_goto rfl ?_
      exact ih _ _ h
set_option maxRecDepth 20000 in
theorem k_X5_number {X : zk_X} {I : zk_I} {J : zk_J} {r : Int32} (h : f_X5_number I = some r) : zC X 2 m_X5_number 0 (zk_ent [.ref 1] 4) [] (z_Z, I, J) 0 0 (some (.int r)) (z_Z, I, J) := by
  unfold f_X5_number at h
  refine c_ent (L2 := [some (.ref 1), none, none, none]) rfl ?_
  refine c_aload_n rfl rfl ?_
  refine c_getI rfl fk_X5_19 rfl (Nat.le_of_ble_eq_true rfl) ?_
  refine c_aload_n rfl rfl ?_
  refine c_getI rfl fk_X5_25 rfl (Nat.le_of_ble_eq_true rfl) ?_
  refine c_isub rfl ?_
  refine e_istore_n (L2 := [some (.ref 1), some (.int ((I 1 3) - (I 1 2))), none, none]) rfl rfl rfl rfl ?_
  refine c_iload_n rfl rfl ?_
  refine c_iconst rfl vi_1 ?_
  refine c_icmp_lt rfl (fun q1 => ?_) (fun q1 => ?_)
  · rw [if_pos q1] at h
    refine c_iconst rfl vi_m1 ?_
    have h := zk_r1 h
    subst h
    exact c_ireturn rfl rfl rfl
  · rw [if_neg q1] at h
    refine c_iload_n rfl rfl ?_
    refine c_iconst rfl vi_2 ?_
    refine c_icmp_gt rfl (fun q2 => ?_) (fun q2 => ?_)
    · rw [if_pos q2] at h
      refine c_iconst rfl vi_m1 ?_
      have h := zk_r1 h
      subst h
      exact c_ireturn rfl rfl rfl
    · rw [if_neg q2] at h
      refine c_aload_n rfl rfl ?_
      refine c_getR rfl fk_X5_9 rfl (Nat.le_of_ble_eq_true rfl) rfl ?_
      refine c_aload_n rfl rfl ?_
      refine c_getI rfl fk_X5_25 rfl (Nat.le_of_ble_eq_true rfl) ?_
      obtain ⟨q3, h⟩ := zk_ck_e h
      refine e_cald rfl rfl (Nat.le_of_ble_eq_true rfl) q3 rfl ?_
      obtain ⟨r5, h4, h⟩ := zk_lt_g h
      refine e_callS (As := [.int (I 2 (I 1 2).toNatClampNeg)]) (st := []) rfl lk_X5_28 rfl rfl rfl (Nat.le_of_ble_eq_true rfl) rfl (k_X5_sortOf h4.symm) ?_
      refine c_iconst rfl vi_2 ?_
      refine c_icmp_eq rfl (fun q6 => ?_) (fun q6 => ?_)
      · rw [if_pos q6] at h
        refine c_iconst rfl vi_0 ?_
        refine e_istore_n (L2 := [some (.ref 1), some (.int ((I 1 3) - (I 1 2))), some (.int (0 : Int32)), none]) rfl rfl rfl rfl ?_
        refine c_aload_n rfl rfl ?_
        refine c_getI rfl fk_X5_25 rfl (Nat.le_of_ble_eq_true rfl) ?_
        refine e_istore_n (L2 := [some (.ref 1), some (.int ((I 1 3) - (I 1 2))), some (.int (0 : Int32)), some (.int (I 1 2))]) rfl rfl rfl rfl ?_
        refine c_drop [true, false, true, true] (L2 := [some (.ref 1), none, some (.int (0 : Int32)), some (.int (I 1 2))]) rfl ?_
        refine kl_X5_number_45 (fun z10 h => ?_) _ _ _ h
        refine c_iload_n rfl rfl ?_
        have h := zk_r1 h
        subst h
        exact c_ireturn rfl rfl rfl
      · rw [if_neg q6] at h
        refine c_iconst rfl vi_m1 ?_
        have h := zk_r1 h
        subst h
        exact c_ireturn rfl rfl rfl
def f_X0_nextNumber (I : zk_I) (a1 : Int32) : Option (Int32 × zk_I) := zk_bd1 (f_X5_goToNextToken I) (fun (I2 : zk_I) =>
  zk_bd1 (f_X5_number I2) (fun (r4 : Int32) =>
   (if a1 ≤ r4 then (
    some ((-1 : Int32), I2)) else (
    some (r4, I2)))))
set_option maxRecDepth 20000 in
theorem k_X0_nextNumber {X : zk_X} {I : zk_I} {J : zk_J} {a1 : Int32} {r : Int32} {IR : zk_I} (h : f_X0_nextNumber I a1 = some (r, IR)) : zC X 3 m_X0_nextNumber 0 (zk_ent [.ref 9, .int a1] 3) [] (z_Z, I, J) 0 0 (some (.int r)) (z_Z, IR, J) := by
  unfold f_X0_nextNumber at h
  refine c_ent (L2 := [some (.ref 9), some (.int a1), none]) rfl ?_
  refine c_aload_n rfl rfl ?_
  refine c_getR rfl fk_X0_18 rfl (Nat.le_of_ble_eq_true rfl) rfl ?_
  obtain ⟨I2, h1, h⟩ := zk_bd1_e h
  refine e_callV (As := []) (st := []) rfl lk_X0_51 rfl (Nat.le_of_ble_eq_true rfl) rfl rfl rfl (Nat.le_of_ble_eq_true rfl) rfl (k_X5_goToNextToken h1) ?_
  refine c_aload_n rfl rfl ?_
  refine c_getR rfl fk_X0_18 rfl (Nat.le_of_ble_eq_true rfl) rfl ?_
  obtain ⟨r4, h3, h⟩ := zk_bd1_e h
  refine e_callV (As := []) (st := []) rfl lk_X0_120 rfl (Nat.le_of_ble_eq_true rfl) rfl rfl rfl (Nat.le_of_ble_eq_true rfl) rfl (k_X5_number h3) ?_
  refine e_istore_n (L2 := [some (.ref 9), some (.int a1), some (.int r4)]) rfl rfl rfl rfl ?_
  refine c_iload_n rfl rfl ?_
  refine c_iload_n rfl rfl ?_
  refine c_icmp_ge rfl (fun q5 => ?_) (fun q5 => ?_)
  · rw [if_pos q5] at h
    refine c_iconst rfl vi_m1 ?_
    obtain ⟨rfl, rfl⟩ := zk_r2 h
    exact c_ireturn rfl rfl rfl
  · rw [if_neg q5] at h
    refine c_iload_n rfl rfl ?_
    refine c_goto rfl ?_
    obtain ⟨rfl, rfl⟩ := zk_r2 h
    exact c_ireturn rfl rfl rfl
def f_X6_addBook (I : zk_I) (t : Nat) (a1 : Int32) : Option (zk_I) := zk_ck (zk_in (I t 1) 4) (
  zk_lt (zk_sc I (t + 5) (upd (I (t + 5)) (I t 1).toNatClampNeg a1)) (fun (I2 : zk_I) =>
   zk_lt (zk_sc I2 t (upd (I2 t) 1 ((I2 t 1) + (1 : Int32)))) (fun (I3 : zk_I) =>
    some I3)))
set_option maxRecDepth 20000 in
theorem k_X6_addBook {X : zk_X} {I : zk_I} {J : zk_J} {t : Nat} {a1 : Int32} {IR : zk_I} (h_t : z_isT t = true) (h : f_X6_addBook I t a1 = some IR) : zC X 1 m_X6_addBook 0 (zk_ent [.ref t, .int a1] 2) [] (z_Z, I, J) 0 0 none (z_Z, IR, J) := by
  unfold f_X6_addBook at h
  refine c_ent (L2 := [some (.ref t), some (.int a1)]) rfl ?_
  refine c_aload_n rfl rfl ?_
  refine c_getR rfl fk_X6_24 (zT_S h_t) (zT_z h_t) (zT_r6 h_t) ?_
  refine c_aload_n rfl rfl ?_
  refine c_getI rfl fk_X6_31 (zT_S h_t) (zT_z h_t) ?_
  refine c_iload_n rfl rfl ?_
  obtain ⟨q1, h⟩ := zk_ck_e h
  refine e_iast rfl (zT_a5 h_t) (zT_z5 h_t) q1 rfl ?_
  obtain ⟨I2, hI2, h⟩ := zk_lt_g h
  refine c_memI hI2 ?_
  refine c_aload_n rfl rfl ?_
  refine c_dup rfl rfl ?_
  refine c_getI rfl fk_X6_31 (zT_S h_t) (zT_z h_t) ?_
  refine c_iconst rfl vi_1 ?_
  refine c_iadd rfl ?_
  refine c_putI rfl fk_X6_31 rfl (zT_S h_t) (zT_z h_t) ?_
  obtain ⟨I3, hI3, h⟩ := zk_lt_g h
  refine c_memI hI3 ?_
  have h := zk_r1 h
  subst h
  exact c_return rfl rfl
def f_X0_doBook (I : zk_I) : Option (Int32 × zk_I) := (if (I 10 1) < (4 : Int32) then (
  zk_bd2 (f_X0_nextNumber I (I 10 0)) (fun (r3 : Int32) (I4 : zk_I) =>
   (if r3 = (-1 : Int32) then (
    some ((0 : Int32), I4)) else (
    zk_bd1 (f_X6_addBook I4 10 r3) (fun (I7 : zk_I) =>
     zk_bd1 (f_X5_goToNextToken I7) (fun (I9 : zk_I) =>
      some ((1 : Int32), I9))))))) else (
  some ((0 : Int32), I)))
set_option maxRecDepth 20000 in
theorem k_X0_doBook {X : zk_X} {I : zk_I} {J : zk_J} {r : Int32} {IR : zk_I} (h : f_X0_doBook I = some (r, IR)) : zC X 4 m_X0_doBook 0 (zk_ent [.ref 9] 2) [] (z_Z, I, J) 0 0 (some (.int r)) (z_Z, IR, J) := by
  unfold f_X0_doBook at h
  refine c_ent (L2 := [some (.ref 9), none]) rfl ?_
  refine c_aload_n rfl rfl ?_
  refine c_getR rfl fk_X0_12 rfl (Nat.le_of_ble_eq_true rfl) rfl ?_
  refine c_getI rfl fk_X0_113 rfl (Nat.le_of_ble_eq_true rfl) ?_
  refine c_iconst rfl vi_4 ?_
  refine c_icmp_lt rfl (fun q1 => ?_) (fun q1 => ?_)
  · rw [if_pos q1] at h
    refine c_aload_n rfl rfl ?_
    refine c_aload_n rfl rfl ?_
    refine c_getR rfl fk_X0_12 rfl (Nat.le_of_ble_eq_true rfl) rfl ?_
    refine c_getI rfl fk_X0_95 rfl (Nat.le_of_ble_eq_true rfl) ?_
    obtain ⟨r3, I4, h2, h⟩ := zk_bd2_e h
    refine e_callV (As := [.int (I 10 0)]) (st := []) rfl lk_X0_98 rfl (Nat.le_of_ble_eq_true rfl) rfl rfl rfl (Nat.le_of_ble_eq_true rfl) rfl (k_X0_nextNumber h2) ?_
    refine e_istore_n (L2 := [some (.ref 9), some (.int r3)]) rfl rfl rfl rfl ?_
    refine c_iload_n rfl rfl ?_
    refine c_iconst rfl vi_m1 ?_
    refine c_icmp_ne rfl (fun q5 => ?_) (fun q5 => ?_)
    · rw [if_neg q5] at h
      refine c_aload_n rfl rfl ?_
      refine c_getR rfl fk_X0_12 rfl (Nat.le_of_ble_eq_true rfl) rfl ?_
      refine c_iload_n rfl rfl ?_
      obtain ⟨I7, h6, h⟩ := zk_bd1_e h
      refine e_callV (As := [.int r3]) (st := []) rfl lk_X0_116 rfl (Nat.le_of_ble_eq_true rfl) rfl rfl rfl (Nat.le_of_ble_eq_true rfl) rfl (k_X6_addBook (rfl : z_isT 10 = true) h6) ?_
      refine c_aload_n rfl rfl ?_
      refine c_getR rfl fk_X0_18 rfl (Nat.le_of_ble_eq_true rfl) rfl ?_
      obtain ⟨I9, h8, h⟩ := zk_bd1_e h
      refine e_callV (As := []) (st := []) rfl lk_X0_51 rfl (Nat.le_of_ble_eq_true rfl) rfl rfl rfl (Nat.le_of_ble_eq_true rfl) rfl (k_X5_goToNextToken h8) ?_
      refine c_iconst rfl vi_1 ?_
      obtain ⟨rfl, rfl⟩ := zk_r2 h
      exact c_ireturn rfl rfl zk_nb1
    · rw [if_pos q5] at h
      refine c_iconst rfl vi_0 ?_
      obtain ⟨rfl, rfl⟩ := zk_r2 h
      exact c_ireturn rfl rfl zk_nb0
  · rw [if_neg q1] at h
    refine c_iconst rfl vi_0 ?_
    obtain ⟨rfl, rfl⟩ := zk_r2 h
    exact c_ireturn rfl rfl zk_nb0
def f_X6_addFeud (I : zk_I) (t : Nat) (a1 : Int32) (a2 : Int32) : Option (zk_I) := zk_ck (zk_in a1 8) (
  zk_ck (zk_in a1 8) (
   zk_lt (zk_sc I (t + 3) (upd (I (t + 3)) a1.toNatClampNeg ((I (t + 3) a1.toNatClampNeg) ||| ((1 : Int32) <<< (a2 &&& 31))))) (fun (I3 : zk_I) =>
    zk_ck (zk_in a2 8) (
     zk_ck (zk_in a2 8) (
      zk_lt (zk_sc I3 (t + 3) (upd (I3 (t + 3)) a2.toNatClampNeg ((I3 (t + 3) a2.toNatClampNeg) ||| ((1 : Int32) <<< (a1 &&& 31))))) (fun (I6 : zk_I) =>
       some I6))))))
set_option maxRecDepth 20000 in
theorem k_X6_addFeud {X : zk_X} {I : zk_I} {J : zk_J} {t : Nat} {a1 : Int32} {a2 : Int32} {IR : zk_I} (h_t : z_isT t = true) (h : f_X6_addFeud I t a1 a2 = some IR) : zC X 1 m_X6_addFeud 0 (zk_ent [.ref t, .int a1, .int a2] 3) [] (z_Z, I, J) 0 0 none (z_Z, IR, J) := by
  unfold f_X6_addFeud at h
  refine c_ent (L2 := [some (.ref t), some (.int a1), some (.int a2)]) rfl ?_
  refine c_aload_n rfl rfl ?_
  refine c_getR rfl fk_X6_18 (zT_S h_t) (zT_z h_t) (zT_r4 h_t) ?_
  refine c_iload_n rfl rfl ?_
  refine c_dup2 rfl rfl rfl ?_
  obtain ⟨q1, h⟩ := zk_ck_e h
  refine e_iald rfl (zT_a3 h_t) (zT_z3 h_t) q1 rfl ?_
  refine c_iconst rfl vi_1 ?_
  refine c_iload_n rfl rfl ?_
  refine c_ishl rfl ?_
  refine c_ior rfl ?_
  obtain ⟨q2, h⟩ := zk_ck_e h
  refine e_iast rfl (zT_a3 h_t) (zT_z3 h_t) q2 rfl ?_
  obtain ⟨I3, hI3, h⟩ := zk_lt_g h
  refine c_memI hI3 ?_
  refine c_aload_n rfl rfl ?_
  refine c_getR rfl fk_X6_18 (zT_S h_t) (zT_z h_t) (zT_r4 h_t) ?_
  refine c_iload_n rfl rfl ?_
  refine c_dup2 rfl rfl rfl ?_
  obtain ⟨q4, h⟩ := zk_ck_e h
  refine e_iald rfl (zT_a3 h_t) (zT_z3 h_t) q4 rfl ?_
  refine c_iconst rfl vi_1 ?_
  refine c_iload_n rfl rfl ?_
  refine c_ishl rfl ?_
  refine c_ior rfl ?_
  obtain ⟨q5, h⟩ := zk_ck_e h
  refine e_iast rfl (zT_a3 h_t) (zT_z3 h_t) q5 rfl ?_
  obtain ⟨I6, hI6, h⟩ := zk_lt_g h
  refine c_memI hI6 ?_
  have h := zk_r1 h
  subst h
  exact c_return rfl rfl
def f_X0_doFeud (I : zk_I) : Option (Int32 × zk_I) := zk_bd2 (f_X0_nextNumber I (I 10 0)) (fun (r2 : Int32) (I3 : zk_I) =>
  (if r2 = (-1 : Int32) then (
   some ((0 : Int32), I3)) else (
   zk_bd2 (f_X0_nextNumber I3 (I3 10 0)) (fun (r6 : Int32) (I7 : zk_I) =>
    (if r6 = (-1 : Int32) then (
     some ((0 : Int32), I7)) else (
     (if r6 = r2 then (
      some ((0 : Int32), I7)) else (
      zk_bd1 (f_X6_addFeud I7 10 r2 r6) (fun (I11 : zk_I) =>
       zk_bd1 (f_X5_goToNextToken I11) (fun (I13 : zk_I) =>
        some ((1 : Int32), I13)))))))))))
set_option maxRecDepth 20000 in
theorem k_X0_doFeud {X : zk_X} {I : zk_I} {J : zk_J} {r : Int32} {IR : zk_I} (h : f_X0_doFeud I = some (r, IR)) : zC X 4 m_X0_doFeud 0 (zk_ent [.ref 9] 3) [] (z_Z, I, J) 0 0 (some (.int r)) (z_Z, IR, J) := by
  unfold f_X0_doFeud at h
  refine c_ent (L2 := [some (.ref 9), none, none]) rfl ?_
  refine c_aload_n rfl rfl ?_
  refine c_aload_n rfl rfl ?_
  refine c_getR rfl fk_X0_12 rfl (Nat.le_of_ble_eq_true rfl) rfl ?_
  refine c_getI rfl fk_X0_95 rfl (Nat.le_of_ble_eq_true rfl) ?_
  obtain ⟨r2, I3, h1, h⟩ := zk_bd2_e h
  refine e_callV (As := [.int (I 10 0)]) (st := []) rfl lk_X0_98 rfl (Nat.le_of_ble_eq_true rfl) rfl rfl rfl (Nat.le_of_ble_eq_true rfl) rfl (k_X0_nextNumber h1) ?_
  refine e_istore_n (L2 := [some (.ref 9), some (.int r2), none]) rfl rfl rfl rfl ?_
  refine c_iload_n rfl rfl ?_
  refine c_iconst rfl vi_m1 ?_
  refine c_icmp_ne rfl (fun q4 => ?_) (fun q4 => ?_)
  · rw [if_neg q4] at h
    refine c_aload_n rfl rfl ?_
    refine c_aload_n rfl rfl ?_
    refine c_getR rfl fk_X0_12 rfl (Nat.le_of_ble_eq_true rfl) rfl ?_
    refine c_getI rfl fk_X0_95 rfl (Nat.le_of_ble_eq_true rfl) ?_
    obtain ⟨r6, I7, h5, h⟩ := zk_bd2_e h
    refine e_callV (As := [.int (I3 10 0)]) (st := []) rfl lk_X0_98 rfl (Nat.le_of_ble_eq_true rfl) rfl rfl rfl (Nat.le_of_ble_eq_true rfl) rfl (k_X0_nextNumber h5) ?_
    refine e_istore_n (L2 := [some (.ref 9), some (.int r2), some (.int r6)]) rfl rfl rfl rfl ?_
    refine c_iload_n rfl rfl ?_
    refine c_iconst rfl vi_m1 ?_
    refine c_icmp_eq rfl (fun q8 => ?_) (fun q8 => ?_)
    · rw [if_pos q8] at h
      refine c_iconst rfl vi_0 ?_
      obtain ⟨rfl, rfl⟩ := zk_r2 h
      exact c_ireturn rfl rfl zk_nb0
    · rw [if_neg q8] at h
      refine c_iload_n rfl rfl ?_
      refine c_iload_n rfl rfl ?_
      refine c_icmp_ne rfl (fun q9 => ?_) (fun q9 => ?_)
      · rw [if_neg q9] at h
        refine c_aload_n rfl rfl ?_
        refine c_getR rfl fk_X0_12 rfl (Nat.le_of_ble_eq_true rfl) rfl ?_
        refine c_iload_n rfl rfl ?_
        refine c_iload_n rfl rfl ?_
        obtain ⟨I11, h10, h⟩ := zk_bd1_e h
        refine e_callV (As := [.int r2, .int r6]) (st := []) rfl lk_X0_106 rfl (Nat.le_of_ble_eq_true rfl) rfl rfl rfl (Nat.le_of_ble_eq_true rfl) rfl (k_X6_addFeud (rfl : z_isT 10 = true) h10) ?_
        refine c_aload_n rfl rfl ?_
        refine c_getR rfl fk_X0_18 rfl (Nat.le_of_ble_eq_true rfl) rfl ?_
        obtain ⟨I13, h12, h⟩ := zk_bd1_e h
        refine e_callV (As := []) (st := []) rfl lk_X0_51 rfl (Nat.le_of_ble_eq_true rfl) rfl rfl rfl (Nat.le_of_ble_eq_true rfl) rfl (k_X5_goToNextToken h12) ?_
        refine c_iconst rfl vi_1 ?_
        obtain ⟨rfl, rfl⟩ := zk_r2 h
        exact c_ireturn rfl rfl zk_nb1
      · rw [if_pos q9] at h
        refine c_iconst rfl vi_0 ?_
        obtain ⟨rfl, rfl⟩ := zk_r2 h
        exact c_ireturn rfl rfl zk_nb0
  · rw [if_pos q4] at h
    refine c_iconst rfl vi_0 ?_
    obtain ⟨rfl, rfl⟩ := zk_r2 h
    exact c_ireturn rfl rfl zk_nb0
def f_X0_doMove (I : zk_I) : Option (Int32 × zk_I) := zk_bd2 (f_X0_nextNumber I (I 10 0)) (fun (r2 : Int32) (I3 : zk_I) =>
  (if r2 = (-1 : Int32) then (
   some ((0 : Int32), I3)) else (
   zk_bd2 (f_X0_nextNumber I3 (100 : Int32)) (fun (r6 : Int32) (I7 : zk_I) =>
    (if r6 = (-1 : Int32) then (
     some ((0 : Int32), I7)) else (
     zk_ck (zk_in r2 8) (
      zk_lt (zk_sc I7 14 (upd (I7 14) r2.toNatClampNeg r6)) (fun (I10 : zk_I) =>
       zk_bd1 (f_X5_goToNextToken I10) (fun (I12 : zk_I) =>
        some ((1 : Int32), I12))))))))))
set_option maxRecDepth 20000 in
theorem k_X0_doMove {X : zk_X} {I : zk_I} {J : zk_J} {r : Int32} {IR : zk_I} (h : f_X0_doMove I = some (r, IR)) : zC X 4 m_X0_doMove 0 (zk_ent [.ref 9] 3) [] (z_Z, I, J) 0 0 (some (.int r)) (z_Z, IR, J) := by
  unfold f_X0_doMove at h
  refine c_ent (L2 := [some (.ref 9), none, none]) rfl ?_
  refine c_aload_n rfl rfl ?_
  refine c_aload_n rfl rfl ?_
  refine c_getR rfl fk_X0_12 rfl (Nat.le_of_ble_eq_true rfl) rfl ?_
  refine c_getI rfl fk_X0_95 rfl (Nat.le_of_ble_eq_true rfl) ?_
  obtain ⟨r2, I3, h1, h⟩ := zk_bd2_e h
  refine e_callV (As := [.int (I 10 0)]) (st := []) rfl lk_X0_98 rfl (Nat.le_of_ble_eq_true rfl) rfl rfl rfl (Nat.le_of_ble_eq_true rfl) rfl (k_X0_nextNumber h1) ?_
  refine e_istore_n (L2 := [some (.ref 9), some (.int r2), none]) rfl rfl rfl rfl ?_
  refine c_iload_n rfl rfl ?_
  refine c_iconst rfl vi_m1 ?_
  refine c_icmp_ne rfl (fun q4 => ?_) (fun q4 => ?_)
  · rw [if_neg q4] at h
    refine c_aload_n rfl rfl ?_
    refine c_bipush rfl vb_100 ?_
    obtain ⟨r6, I7, h5, h⟩ := zk_bd2_e h
    refine e_callV (As := [.int (100 : Int32)]) (st := []) rfl lk_X0_98 rfl (Nat.le_of_ble_eq_true rfl) rfl rfl rfl (Nat.le_of_ble_eq_true rfl) rfl (k_X0_nextNumber h5) ?_
    refine e_istore_n (L2 := [some (.ref 9), some (.int r2), some (.int r6)]) rfl rfl rfl rfl ?_
    refine c_iload_n rfl rfl ?_
    refine c_iconst rfl vi_m1 ?_
    refine c_icmp_ne rfl (fun q8 => ?_) (fun q8 => ?_)
    · rw [if_neg q8] at h
      refine c_aload_n rfl rfl ?_
      refine c_getR rfl fk_X0_12 rfl (Nat.le_of_ble_eq_true rfl) rfl ?_
      refine c_getR rfl fk_X0_109 rfl (Nat.le_of_ble_eq_true rfl) rfl ?_
      refine c_iload_n rfl rfl ?_
      refine c_iload_n rfl rfl ?_
      obtain ⟨q9, h⟩ := zk_ck_e h
      refine e_iast rfl rfl (Nat.le_of_ble_eq_true rfl) q9 rfl ?_
      obtain ⟨I10, hI10, h⟩ := zk_lt_g h
      refine c_memI hI10 ?_
      refine c_aload_n rfl rfl ?_
      refine c_getR rfl fk_X0_18 rfl (Nat.le_of_ble_eq_true rfl) rfl ?_
      obtain ⟨I12, h11, h⟩ := zk_bd1_e h
      refine e_callV (As := []) (st := []) rfl lk_X0_51 rfl (Nat.le_of_ble_eq_true rfl) rfl rfl rfl (Nat.le_of_ble_eq_true rfl) rfl (k_X5_goToNextToken h11) ?_
      refine c_iconst rfl vi_1 ?_
      obtain ⟨rfl, rfl⟩ := zk_r2 h
      exact c_ireturn rfl rfl zk_nb1
    · rw [if_pos q8] at h
      refine c_iconst rfl vi_0 ?_
      obtain ⟨rfl, rfl⟩ := zk_r2 h
      exact c_ireturn rfl rfl zk_nb0
  · rw [if_pos q4] at h
    refine c_iconst rfl vi_0 ?_
    obtain ⟨rfl, rfl⟩ := zk_r2 h
    exact c_ireturn rfl rfl zk_nb0
def f_X6_addReader (I : zk_I) (t : Nat) (a1 : Int32) (a2 : Int32) : Option (zk_I) := zk_ck (zk_in (I t 0) 8) (
  zk_lt (zk_sc I (t + 1) (upd (I (t + 1)) (I t 0).toNatClampNeg a1)) (fun (I2 : zk_I) =>
   zk_ck (zk_in (I2 t 0) 8) (
    zk_lt (zk_sc I2 (t + 2) (upd (I2 (t + 2)) (I2 t 0).toNatClampNeg a2)) (fun (I4 : zk_I) =>
     zk_ck (zk_in (I4 t 0) 8) (
      zk_lt (zk_sc I4 (t + 3) (upd (I4 (t + 3)) (I4 t 0).toNatClampNeg (0 : Int32))) (fun (I6 : zk_I) =>
       zk_ck (zk_in (I6 t 0) 8) (
        zk_lt (zk_sc I6 (t + 4) (upd (I6 (t + 4)) (I6 t 0).toNatClampNeg (99 : Int32))) (fun (I8 : zk_I) =>
         zk_lt (zk_sc I8 t (upd (I8 t) 0 ((I8 t 0) + (1 : Int32)))) (fun (I9 : zk_I) =>
          some I9)))))))))
set_option maxRecDepth 20000 in
theorem k_X6_addReader {X : zk_X} {I : zk_I} {J : zk_J} {t : Nat} {a1 : Int32} {a2 : Int32} {IR : zk_I} (h_t : z_isT t = true) (h : f_X6_addReader I t a1 a2 = some IR) : zC X 1 m_X6_addReader 0 (zk_ent [.ref t, .int a1, .int a2] 3) [] (z_Z, I, J) 0 0 none (z_Z, IR, J) := by
  unfold f_X6_addReader at h
  refine c_ent (L2 := [some (.ref t), some (.int a1), some (.int a2)]) rfl ?_
  refine c_aload_n rfl rfl ?_
  refine c_getR rfl fk_X6_9 (zT_S h_t) (zT_z h_t) (zT_r2 h_t) ?_
  refine c_aload_n rfl rfl ?_
  refine c_getI rfl fk_X6_27 (zT_S h_t) (zT_z h_t) ?_
  refine c_iload_n rfl rfl ?_
  obtain ⟨q1, h⟩ := zk_ck_e h
  refine e_iast rfl (zT_a1 h_t) (zT_z1 h_t) q1 rfl ?_
  obtain ⟨I2, hI2, h⟩ := zk_lt_g h
  refine c_memI hI2 ?_
  refine c_aload_n rfl rfl ?_
  refine c_getR rfl fk_X6_15 (zT_S h_t) (zT_z h_t) (zT_r3 h_t) ?_
  refine c_aload_n rfl rfl ?_
  refine c_getI rfl fk_X6_27 (zT_S h_t) (zT_z h_t) ?_
  refine c_iload_n rfl rfl ?_
  obtain ⟨q3, h⟩ := zk_ck_e h
  refine e_iast rfl (zT_a2 h_t) (zT_z2 h_t) q3 rfl ?_
  obtain ⟨I4, hI4, h⟩ := zk_lt_g h
  refine c_memI hI4 ?_
  refine c_aload_n rfl rfl ?_
  refine c_getR rfl fk_X6_18 (zT_S h_t) (zT_z h_t) (zT_r4 h_t) ?_
  refine c_aload_n rfl rfl ?_
  refine c_getI rfl fk_X6_27 (zT_S h_t) (zT_z h_t) ?_
  refine c_iconst rfl vi_0 ?_
  obtain ⟨q5, h⟩ := zk_ck_e h
  refine e_iast rfl (zT_a3 h_t) (zT_z3 h_t) q5 rfl ?_
  obtain ⟨I6, hI6, h⟩ := zk_lt_g h
  refine c_memI hI6 ?_
  refine c_aload_n rfl rfl ?_
  refine c_getR rfl fk_X6_21 (zT_S h_t) (zT_z h_t) (zT_r5 h_t) ?_
  refine c_aload_n rfl rfl ?_
  refine c_getI rfl fk_X6_27 (zT_S h_t) (zT_z h_t) ?_
  refine c_bipush rfl vb_99 ?_
  obtain ⟨q7, h⟩ := zk_ck_e h
  refine e_iast rfl (zT_a4 h_t) (zT_z4 h_t) q7 rfl ?_
  obtain ⟨I8, hI8, h⟩ := zk_lt_g h
  refine c_memI hI8 ?_
  refine c_aload_n rfl rfl ?_
  refine c_dup rfl rfl ?_
  refine c_getI rfl fk_X6_27 (zT_S h_t) (zT_z h_t) ?_
  refine c_iconst rfl vi_1 ?_
  refine c_iadd rfl ?_
  refine c_putI rfl fk_X6_27 rfl (zT_S h_t) (zT_z h_t) ?_
  obtain ⟨I9, hI9, h⟩ := zk_lt_g h
  refine c_memI hI9 ?_
  have h := zk_r1 h
  subst h
  exact c_return rfl rfl
def f_X0_doReader (I : zk_I) (a1 : Int32) : Option (Int32 × zk_I) := (if (I 10 0) < (8 : Int32) then (
  zk_bd2 (f_X0_nextNumber I (10 : Int32)) (fun (r3 : Int32) (I4 : zk_I) =>
   (if r3 = (-1 : Int32) then (
    some ((0 : Int32), I4)) else (
    zk_bd1 (f_X6_addReader I4 10 a1 r3) (fun (I7 : zk_I) =>
     zk_bd1 (f_X5_goToNextToken I7) (fun (I9 : zk_I) =>
      some ((1 : Int32), I9))))))) else (
  some ((0 : Int32), I)))
set_option maxRecDepth 20000 in
theorem k_X0_doReader {X : zk_X} {I : zk_I} {J : zk_J} {a1 : Int32} {r : Int32} {IR : zk_I} (h : f_X0_doReader I a1 = some (r, IR)) : zC X 4 m_X0_doReader 0 (zk_ent [.ref 9, .int a1] 3) [] (z_Z, I, J) 0 0 (some (.int r)) (z_Z, IR, J) := by
  unfold f_X0_doReader at h
  refine c_ent (L2 := [some (.ref 9), some (.int a1), none]) rfl ?_
  refine c_aload_n rfl rfl ?_
  refine c_getR rfl fk_X0_12 rfl (Nat.le_of_ble_eq_true rfl) rfl ?_
  refine c_getI rfl fk_X0_95 rfl (Nat.le_of_ble_eq_true rfl) ?_
  refine c_bipush rfl vb_8 ?_
  refine c_icmp_lt rfl (fun q1 => ?_) (fun q1 => ?_)
  · rw [if_pos q1] at h
    refine c_aload_n rfl rfl ?_
    refine c_bipush rfl vb_10 ?_
    obtain ⟨r3, I4, h2, h⟩ := zk_bd2_e h
    refine e_callV (As := [.int (10 : Int32)]) (st := []) rfl lk_X0_98 rfl (Nat.le_of_ble_eq_true rfl) rfl rfl rfl (Nat.le_of_ble_eq_true rfl) rfl (k_X0_nextNumber h2) ?_
    refine e_istore_n (L2 := [some (.ref 9), some (.int a1), some (.int r3)]) rfl rfl rfl rfl ?_
    refine c_iload_n rfl rfl ?_
    refine c_iconst rfl vi_m1 ?_
    refine c_icmp_ne rfl (fun q5 => ?_) (fun q5 => ?_)
    · rw [if_neg q5] at h
      refine c_aload_n rfl rfl ?_
      refine c_getR rfl fk_X0_12 rfl (Nat.le_of_ble_eq_true rfl) rfl ?_
      refine c_iload_n rfl rfl ?_
      refine c_iload_n rfl rfl ?_
      obtain ⟨I7, h6, h⟩ := zk_bd1_e h
      refine e_callV (As := [.int a1, .int r3]) (st := []) rfl lk_X0_102 rfl (Nat.le_of_ble_eq_true rfl) rfl rfl rfl (Nat.le_of_ble_eq_true rfl) rfl (k_X6_addReader (rfl : z_isT 10 = true) h6) ?_
      refine c_aload_n rfl rfl ?_
      refine c_getR rfl fk_X0_18 rfl (Nat.le_of_ble_eq_true rfl) rfl ?_
      obtain ⟨I9, h8, h⟩ := zk_bd1_e h
      refine e_callV (As := []) (st := []) rfl lk_X0_51 rfl (Nat.le_of_ble_eq_true rfl) rfl rfl rfl (Nat.le_of_ble_eq_true rfl) rfl (k_X5_goToNextToken h8) ?_
      refine c_iconst rfl vi_1 ?_
      obtain ⟨rfl, rfl⟩ := zk_r2 h
      exact c_ireturn rfl rfl zk_nb1
    · rw [if_pos q5] at h
      refine c_iconst rfl vi_0 ?_
      obtain ⟨rfl, rfl⟩ := zk_r2 h
      exact c_ireturn rfl rfl zk_nb0
  · rw [if_neg q1] at h
    refine c_iconst rfl vi_0 ?_
    obtain ⟨rfl, rfl⟩ := zk_r2 h
    exact c_ireturn rfl rfl zk_nb0
def l_X5_tokenIs_20 (I : zk_I) (w : Nat) (K : Option (Int32)) : Nat → Int32 → Option (Int32)
  | 0, _ => none
  | n + 1, y2 => (if (zk_sln w) ≤ y2 then (
    K) else (
    zk_ck (zk_in ((I 1 2) + y2) 160) (
     zk_ck (zk_in y2 (zk_sl.getD w 0)) (
      (if (I 2 ((I 1 2) + y2).toNatClampNeg) = (zk_sch w y2) then (
       l_X5_tokenIs_20 I w K n (y2 + (1 : Int32))) else (
       some (0 : Int32)))))))
def f_X5_tokenIs (I : zk_I) (w : Nat) : Option (Int32) := (if ((I 1 3) - (I 1 2)) = (zk_sln w) then (
  l_X5_tokenIs_20 I w (some (1 : Int32)) 3000 (0 : Int32)) else (
  some (0 : Int32)))
set_option maxRecDepth 20000 in
theorem kl_X5_tokenIs_20 {X : zk_X} {I : zk_I} {w : Nat} {J : zk_J} {K : Option (Int32)} {r : Int32} (h_w : w < 10) (jK : K  = some r → zC X 6 m_X5_tokenIs 55 [none, none, none] [] (z_Z, I, J) 0 0 (some (.int r)) (z_Z, I, J)) : ∀ (n : Nat) (y2 : Int32), l_X5_tokenIs_20 I w K n y2 = some r → zC X 6 m_X5_tokenIs 20 [some (.ref 1), some (.ref (1010 + w)), some (.int y2)] [] (z_Z, I, J) 0 0 (some (.int r)) (z_Z, I, J) := by
  intro n
  induction n with
  | zero =>
    intro y2 h
    cases h
  | succ n ih =>
    intro y2 h
    rw [l_X5_tokenIs_20] at h
    refine c_iload_n rfl rfl ?_
    refine c_aload_n rfl rfl ?_
    refine e_callVS (i := w) (As := []) (st := [.int y2]) rfl lk_X5_32 h_w rfl rfl rfl (Nat.le_of_ble_eq_true rfl) rfl (k_Slen h_w) ?_
    refine c_icmp_ge rfl (fun q2 => ?_) (fun q2 => ?_)
    · rw [if_pos q2] at h
      refine c_drop [false, false, false] (L2 := [none, none, none]) rfl ?_
      exact jK h
    · rw [if_neg q2] at h
      refine c_aload_n rfl rfl ?_
      refine c_getR rfl fk_X5_9 rfl (Nat.le_of_ble_eq_true rfl) rfl ?_
      refine c_aload_n rfl rfl ?_
      refine c_getI rfl fk_X5_25 rfl (Nat.le_of_ble_eq_true rfl) ?_
      refine c_iload_n rfl rfl ?_
      refine c_iadd rfl ?_
      obtain ⟨q3, h⟩ := zk_ck_e h
      refine e_cald rfl rfl (Nat.le_of_ble_eq_true rfl) q3 rfl ?_
      refine c_aload_n rfl rfl ?_
      refine c_iload_n rfl rfl ?_
      obtain ⟨q4, h⟩ := zk_ck_e h
      refine e_callVS (i := w) (As := [.int y2]) (st := [.int (I 2 ((I 1 2) + y2).toNatClampNeg)]) rfl lk_X5_37 h_w rfl rfl rfl (Nat.le_of_ble_eq_true rfl) rfl (k_Schar h_w q4) ?_
      refine c_icmp_eq rfl (fun q5 => ?_) (fun q5 => ?_)
      · rw [if_pos q5] at h
        refine e_iinc (L2 := [some (.ref 1), some (.ref (1010 + w)), some (.int (y2 + (1 : Int32)))]) rfl rfl vi_1 rfl rfl rfl ?_
        refine c_goto rfl ?_
        exact ih _ h
      · rw [if_neg q5] at h
        refine c_iconst rfl vi_0 ?_
        have h := zk_r1 h
        subst h
        exact c_ireturn rfl rfl zk_nb0
set_option maxRecDepth 20000 in
theorem k_X5_tokenIs {X : zk_X} {I : zk_I} {J : zk_J} {w : Nat} {r : Int32} (h_w : w < 10) (h : f_X5_tokenIs I w = some r) : zC X 6 m_X5_tokenIs 0 (zk_ent [.ref 1, .ref (1010 + w)] 3) [] (z_Z, I, J) 0 0 (some (.int r)) (z_Z, I, J) := by
  unfold f_X5_tokenIs at h
  refine c_ent (L2 := [some (.ref 1), some (.ref (1010 + w)), none]) rfl ?_
  refine c_aload_n rfl rfl ?_
  refine c_getI rfl fk_X5_19 rfl (Nat.le_of_ble_eq_true rfl) ?_
  refine c_aload_n rfl rfl ?_
  refine c_getI rfl fk_X5_25 rfl (Nat.le_of_ble_eq_true rfl) ?_
  refine c_isub rfl ?_
  refine c_aload_n rfl rfl ?_
  refine e_callVS (i := w) (As := []) (st := [.int ((I 1 3) - (I 1 2))]) rfl lk_X5_32 h_w rfl rfl rfl (Nat.le_of_ble_eq_true rfl) rfl (k_Slen h_w) ?_
  refine c_icmp_eq rfl (fun q1 => ?_) (fun q1 => ?_)
  · rw [if_pos q1] at h
    refine c_iconst rfl vi_0 ?_
    refine e_istore_n (L2 := [some (.ref 1), some (.ref (1010 + w)), some (.int (0 : Int32))]) rfl rfl rfl rfl ?_
    refine kl_X5_tokenIs_20 h_w (fun h => ?_) _ _ h
    refine c_iconst rfl vi_1 ?_
    have h := zk_r1 h
    subst h
    exact c_ireturn rfl rfl zk_nb1
  · rw [if_neg q1] at h
    refine c_iconst rfl vi_0 ?_
    have h := zk_r1 h
    subst h
    exact c_ireturn rfl rfl zk_nb0
def f_X0_kindOfWord (I : zk_I) : Option (Int32) := zk_bd1 (f_X5_tokenIs I 0) (fun (r2 : Int32) =>
  (if r2 = 0 then (
   zk_bd1 (f_X5_tokenIs I 1) (fun (r5 : Int32) =>
    (if r5 = 0 then (
     zk_bd1 (f_X5_tokenIs I 2) (fun (r8 : Int32) =>
      (if r8 = 0 then (
       zk_bd1 (f_X5_tokenIs I 3) (fun (r11 : Int32) =>
        (if r11 = 0 then (
         some (-1 : Int32)) else (
         some (3 : Int32))))) else (
       some (2 : Int32))))) else (
     some (1 : Int32))))) else (
   some (0 : Int32))))
set_option maxRecDepth 20000 in
theorem k_X0_kindOfWord {X : zk_X} {I : zk_I} {J : zk_J} {r : Int32} (h : f_X0_kindOfWord I = some r) : zC X 7 m_X0_kindOfWord 0 (zk_ent [.ref 9] 1) [] (z_Z, I, J) 0 0 (some (.int r)) (z_Z, I, J) := by
  unfold f_X0_kindOfWord at h
  refine c_ent (L2 := [some (.ref 9)]) rfl ?_
  refine c_aload_n rfl rfl ?_
  refine c_getR rfl fk_X0_18 rfl (Nat.le_of_ble_eq_true rfl) rfl ?_
  refine c_ldcS (i := 0) rfl rfl (by decide) rfl ?_
  obtain ⟨r2, h1, h⟩ := zk_bd1_e h
  refine e_callV (As := [.ref (1010 + 0)]) (st := []) rfl lk_X0_47 rfl (Nat.le_of_ble_eq_true rfl) rfl rfl rfl (Nat.le_of_ble_eq_true rfl) rfl (k_X5_tokenIs (by decide) h1) ?_
  refine c_if_eq rfl (fun q3 => ?_) (fun q3 => ?_)
  · rw [if_pos q3] at h
    refine c_aload_n rfl rfl ?_
    refine c_getR rfl fk_X0_18 rfl (Nat.le_of_ble_eq_true rfl) rfl ?_
    refine c_ldcS (i := 1) rfl rfl (by decide) rfl ?_
    obtain ⟨r5, h4, h⟩ := zk_bd1_e h
    refine e_callV (As := [.ref (1010 + 1)]) (st := []) rfl lk_X0_47 rfl (Nat.le_of_ble_eq_true rfl) rfl rfl rfl (Nat.le_of_ble_eq_true rfl) rfl (k_X5_tokenIs (by decide) h4) ?_
    refine c_if_eq rfl (fun q6 => ?_) (fun q6 => ?_)
    · rw [if_pos q6] at h
      refine c_aload_n rfl rfl ?_
      refine c_getR rfl fk_X0_18 rfl (Nat.le_of_ble_eq_true rfl) rfl ?_
      refine c_ldcS (i := 2) rfl rfl (by decide) rfl ?_
      obtain ⟨r8, h7, h⟩ := zk_bd1_e h
      refine e_callV (As := [.ref (1010 + 2)]) (st := []) rfl lk_X0_47 rfl (Nat.le_of_ble_eq_true rfl) rfl rfl rfl (Nat.le_of_ble_eq_true rfl) rfl (k_X5_tokenIs (by decide) h7) ?_
      refine c_if_eq rfl (fun q9 => ?_) (fun q9 => ?_)
      · rw [if_pos q9] at h
        refine c_aload_n rfl rfl ?_
        refine c_getR rfl fk_X0_18 rfl (Nat.le_of_ble_eq_true rfl) rfl ?_
        refine c_ldcS (i := 3) rfl rfl (by decide) rfl ?_
        obtain ⟨r11, h10, h⟩ := zk_bd1_e h
        refine e_callV (As := [.ref (1010 + 3)]) (st := []) rfl lk_X0_47 rfl (Nat.le_of_ble_eq_true rfl) rfl rfl rfl (Nat.le_of_ble_eq_true rfl) rfl (k_X5_tokenIs (by decide) h10) ?_
        refine c_if_eq rfl (fun q12 => ?_) (fun q12 => ?_)
        · rw [if_pos q12] at h
          refine c_iconst rfl vi_m1 ?_
          have h := zk_r1 h
          subst h
          exact c_ireturn rfl rfl rfl
        · rw [if_neg q12] at h
          refine c_iconst rfl vi_3 ?_
          refine c_goto rfl ?_
          have h := zk_r1 h
          subst h
          exact c_ireturn rfl rfl rfl
      · rw [if_neg q9] at h
        refine c_iconst rfl vi_2 ?_
        have h := zk_r1 h
        subst h
        exact c_ireturn rfl rfl rfl
    · rw [if_neg q6] at h
      refine c_iconst rfl vi_1 ?_
      have h := zk_r1 h
      subst h
      exact c_ireturn rfl rfl rfl
  · rw [if_neg q3] at h
    refine c_iconst rfl vi_0 ?_
    have h := zk_r1 h
    subst h
    exact c_ireturn rfl rfl rfl
def f_X6_clear (I : zk_I) (t : Nat) : zk_I := zk_lt (zk_sc I t (upd (I t) 0 (0 : Int32))) (fun (I1 : zk_I) =>
  zk_lt (zk_sc I1 t (upd (I1 t) 1 (0 : Int32))) (fun (I2 : zk_I) =>
   I2))
set_option maxRecDepth 20000 in
theorem k_X6_clear {X : zk_X} {I : zk_I} {J : zk_J} {t : Nat} {IR : zk_I} (h_t : z_isT t = true) (h : f_X6_clear I t = IR) : zC X 1 m_X6_clear 0 (zk_ent [.ref t] 1) [] (z_Z, I, J) 0 0 none (z_Z, IR, J) := by
  unfold f_X6_clear at h
  refine c_ent (L2 := [some (.ref t)]) rfl ?_
  refine c_aload_n rfl rfl ?_
  refine c_iconst rfl vi_0 ?_
  refine c_putI rfl fk_X6_27 rfl (zT_S h_t) (zT_z h_t) ?_
  obtain ⟨I1, hI1, h⟩ := zk_lt_g h
  refine c_memI hI1 ?_
  refine c_aload_n rfl rfl ?_
  refine c_iconst rfl vi_0 ?_
  refine c_putI rfl fk_X6_31 rfl (zT_S h_t) (zT_z h_t) ?_
  obtain ⟨I2, hI2, h⟩ := zk_lt_g h
  refine c_memI hI2 ?_
  subst h
  exact c_return rfl rfl
def l_J7_fill_53178_5 (a : Nat) (an : Nat) (p1 : Int32) (p3 : Int32) (K : zk_I → Option (zk_I)) : Nat → Int32 → zk_I → Option (zk_I)
  | 0, _, _ => none
  | n + 1, y2, Iy => (if p3 ≤ y2 then (
    K Iy) else (
    zk_ck (zk_in y2 an) (
     zk_lt (zk_sc Iy a (upd (Iy a) y2.toNatClampNeg p1)) (fun (I3 : zk_I) =>
      l_J7_fill_53178_5 a an p1 p3 K n (y2 + (1 : Int32)) I3))))
def f_J7_fill_53178 (I : zk_I) (a : Nat) (an : Nat) (a2 : Int32) : Option (zk_I) := l_J7_fill_53178_5 a an a2 (Int32.ofNat an) (fun (I4 : zk_I) =>
  some I4) 3000 (0 : Int32) I
set_option maxRecDepth 20000 in
theorem kl_J7_fill_53178_5 {X : zk_X} {a : Nat} {an : Nat} {p1 : Int32} {p3 : Int32} {J : zk_J} {K : zk_I → Option (zk_I)} {IR : zk_I} (ha_a : z_Z.2.1 a = (20, an)) (hz_a : a < z_Z.1) (jK : ∀ (Iz : zk_I), K Iz = some IR → zC X 1 m_J7_fill_53178 20 [none, none, none, none] [] (z_Z, Iz, J) 0 0 none (z_Z, IR, J)) : ∀ (n : Nat) (y2 : Int32) (Iy : zk_I), l_J7_fill_53178_5 a an p1 p3 K n y2 Iy = some IR → zC X 1 m_J7_fill_53178 5 [some (.ref a), some (.int p1), some (.int y2), some (.int p3)] [] (z_Z, Iy, J) 0 0 none (z_Z, IR, J) := by
  intro n
  induction n with
  | zero =>
    intro y2 Iy h
    cases h
  | succ n ih =>
    intro y2 Iy h
    rw [l_J7_fill_53178_5] at h
    refine c_iload_n rfl rfl ?_
    refine c_iload_n rfl rfl ?_
    refine c_icmp_ge rfl (fun q1 => ?_) (fun q1 => ?_)
    · rw [if_pos q1] at h
      refine c_drop [false, false, false, false] (L2 := [none, none, none, none]) rfl ?_
      exact jK _ h
    · rw [if_neg q1] at h
      refine c_aload_n rfl rfl ?_
      refine c_iload_n rfl rfl ?_
      refine c_iload_n rfl rfl ?_
      obtain ⟨q2, h⟩ := zk_ck_e h
      refine e_iast rfl ha_a hz_a q2 rfl ?_
      obtain ⟨I3, hI3, h⟩ := zk_lt_g h
      refine c_memI hI3 ?_
      refine e_iinc (L2 := [some (.ref a), some (.int p1), some (.int (y2 + (1 : Int32))), some (.int p3)]) rfl rfl vi_1 rfl rfl rfl ?_
      refine c_goto rfl ?_
      exact ih _ _ h
set_option maxRecDepth 20000 in
theorem k_J7_fill_53178 {X : zk_X} {I : zk_I} {J : zk_J} {a : Nat} {an : Nat} {a2 : Int32} {IR : zk_I} (ha_a : z_Z.2.1 a = (20, an)) (hz_a : a < z_Z.1) (h : f_J7_fill_53178 I a an a2 = some IR) : zC X 1 m_J7_fill_53178 0 (zk_ent [.ref a, .int a2] 4) [] (z_Z, I, J) 0 0 none (z_Z, IR, J) := by
  unfold f_J7_fill_53178 at h
  refine c_ent (L2 := [some (.ref a), some (.int a2), none, none]) rfl ?_
  refine c_iconst rfl vi_0 ?_
  refine e_istore_n (L2 := [some (.ref a), some (.int a2), some (.int (0 : Int32)), none]) rfl rfl rfl rfl ?_
  refine c_aload_n rfl rfl ?_
  refine c_alen rfl ha_a (Or.inl rfl) hz_a rfl ?_
  refine e_istore_n (L2 := [some (.ref a), some (.int a2), some (.int (0 : Int32)), some (.int (Int32.ofNat an))]) rfl rfl rfl rfl ?_
  refine kl_J7_fill_53178_5 ha_a hz_a (fun I4 h => ?_) _ _ _ h
  have h := zk_r1 h
  subst h
  exact c_return rfl rfl
def f_X6_makePeace (I : zk_I) (t : Nat) : Option (zk_I) := zk_bd1 (f_J7_fill_53178 I (t + 3) 8 (0 : Int32)) (fun (I2 : zk_I) =>
  some I2)
set_option maxRecDepth 20000 in
theorem k_X6_makePeace {X : zk_X} {I : zk_I} {J : zk_J} {t : Nat} {IR : zk_I} (h_t : z_isT t = true) (h : f_X6_makePeace I t = some IR) : zC X 2 m_X6_makePeace 0 (zk_ent [.ref t] 1) [] (z_Z, I, J) 0 0 none (z_Z, IR, J) := by
  unfold f_X6_makePeace at h
  refine c_ent (L2 := [some (.ref t)]) rfl ?_
  refine c_aload_n rfl rfl ?_
  refine c_getR rfl fk_X6_18 (zT_S h_t) (zT_z h_t) (zT_r4 h_t) ?_
  refine c_iconst rfl vi_0 ?_
  obtain ⟨I2, h1, h⟩ := zk_bd1_e h
  refine e_callS (As := [.ref (t + 3), .int (0 : Int32)]) (st := []) rfl lk_X6_40 rfl rfl rfl (Nat.le_of_ble_eq_true rfl) rfl (k_J7_fill_53178 (zT_a3 h_t) (zT_z3 h_t) h1) ?_
  have h := zk_r1 h
  subst h
  exact c_return rfl rfl
def f_X0_doClause (I : zk_I) : Option (Int32 × zk_I) := zk_bd1 (f_X0_kindOfWord I) (fun (r2 : Int32) =>
  (if r2 = (-1 : Int32) then (
   zk_bd1 (f_X5_tokenIs I 4) (fun (r5 : Int32) =>
    (if r5 = 0 then (
     zk_bd1 (f_X5_tokenIs I 5) (fun (r8 : Int32) =>
      (if r8 = 0 then (
       zk_bd1 (f_X5_tokenIs I 6) (fun (r11 : Int32) =>
        (if r11 = 0 then (
         zk_bd1 (f_X5_tokenIs I 7) (fun (r14 : Int32) =>
          zk_jp1 (fun (I16 : zk_I) =>
           zk_bd1 (f_X5_goToNextToken I16) (fun (I19 : zk_I) =>
            some ((1 : Int32), I19))) (fun (K17 : zk_I → Option (Int32 × zk_I)) =>
           (if r14 = 0 then (
            zk_bd1 (f_X5_tokenIs I 8) (fun (r21 : Int32) =>
             (if r21 = 0 then (
              some ((0 : Int32), I)) else (
              zk_lt (f_X6_clear I 10) (fun (I24 : zk_I) =>
               K17 I24))))) else (
            zk_bd1 (f_X6_makePeace I 10) (fun (I26 : zk_I) =>
             K17 I26)))))) else (
         zk_bd2 (f_X0_doBook I) (fun (r28 : Int32) (I29 : zk_I) =>
          zk_ck (zk_01 r28) (
           some (r28, I29))))))) else (
       zk_bd2 (f_X0_doMove I) (fun (r32 : Int32) (I33 : zk_I) =>
        zk_ck (zk_01 r32) (
         some (r32, I33))))))) else (
     zk_bd2 (f_X0_doFeud I) (fun (r36 : Int32) (I37 : zk_I) =>
      zk_ck (zk_01 r36) (
       some (r36, I37))))))) else (
   zk_bd2 (f_X0_doReader I r2) (fun (r40 : Int32) (I41 : zk_I) =>
    zk_ck (zk_01 r40) (
     some (r40, I41))))))
set_option maxRecDepth 20000 in
theorem k_X0_doClause {X : zk_X} {I : zk_I} {J : zk_J} {r : Int32} {IR : zk_I} (h : f_X0_doClause I = some (r, IR)) : zC X 8 m_X0_doClause 0 (zk_ent [.ref 9] 2) [] (z_Z, I, J) 0 0 (some (.int r)) (z_Z, IR, J) := by
  unfold f_X0_doClause at h
  refine c_ent (L2 := [some (.ref 9), none]) rfl ?_
  refine c_aload_n rfl rfl ?_
  obtain ⟨r2, h1, h⟩ := zk_bd1_e h
  refine e_callV (As := []) (st := []) rfl lk_X0_54 rfl (Nat.le_of_ble_eq_true rfl) rfl rfl rfl (Nat.le_of_ble_eq_true rfl) rfl (k_X0_kindOfWord h1) ?_
  refine e_istore_n (L2 := [some (.ref 9), some (.int r2)]) rfl rfl rfl rfl ?_
  refine c_iload_n rfl rfl ?_
  refine c_iconst rfl vi_m1 ?_
  refine c_icmp_eq rfl (fun q3 => ?_) (fun q3 => ?_)
  · rw [if_pos q3] at h
    refine c_aload_n rfl rfl ?_
    refine c_getR rfl fk_X0_18 rfl (Nat.le_of_ble_eq_true rfl) rfl ?_
    refine c_ldcS (i := 4) rfl rfl (by decide) rfl ?_
    obtain ⟨r5, h4, h⟩ := zk_bd1_e h
    refine e_callV (As := [.ref (1010 + 4)]) (st := []) rfl lk_X0_47 rfl (Nat.le_of_ble_eq_true rfl) rfl rfl rfl (Nat.le_of_ble_eq_true rfl) rfl (k_X5_tokenIs (by decide) h4) ?_
    refine c_if_eq rfl (fun q6 => ?_) (fun q6 => ?_)
    · rw [if_pos q6] at h
      refine c_aload_n rfl rfl ?_
      refine c_getR rfl fk_X0_18 rfl (Nat.le_of_ble_eq_true rfl) rfl ?_
      refine c_ldcS (i := 5) rfl rfl (by decide) rfl ?_
      obtain ⟨r8, h7, h⟩ := zk_bd1_e h
      refine e_callV (As := [.ref (1010 + 5)]) (st := []) rfl lk_X0_47 rfl (Nat.le_of_ble_eq_true rfl) rfl rfl rfl (Nat.le_of_ble_eq_true rfl) rfl (k_X5_tokenIs (by decide) h7) ?_
      refine c_if_eq rfl (fun q9 => ?_) (fun q9 => ?_)
      · rw [if_pos q9] at h
        refine c_aload_n rfl rfl ?_
        refine c_getR rfl fk_X0_18 rfl (Nat.le_of_ble_eq_true rfl) rfl ?_
        refine c_ldcS (i := 6) rfl rfl (by decide) rfl ?_
        obtain ⟨r11, h10, h⟩ := zk_bd1_e h
        refine e_callV (As := [.ref (1010 + 6)]) (st := []) rfl lk_X0_47 rfl (Nat.le_of_ble_eq_true rfl) rfl rfl rfl (Nat.le_of_ble_eq_true rfl) rfl (k_X5_tokenIs (by decide) h10) ?_
        refine c_if_eq rfl (fun q12 => ?_) (fun q12 => ?_)
        · rw [if_pos q12] at h
          refine c_aload_n rfl rfl ?_
          refine c_getR rfl fk_X0_18 rfl (Nat.le_of_ble_eq_true rfl) rfl ?_
          refine c_ldcS (i := 7) rfl rfl (by decide) rfl ?_
          obtain ⟨r14, h13, h⟩ := zk_bd1_e h
          refine e_callV (As := [.ref (1010 + 7)]) (st := []) rfl lk_X0_47 rfl (Nat.le_of_ble_eq_true rfl) rfl rfl rfl (Nat.le_of_ble_eq_true rfl) rfl (k_X5_tokenIs (by decide) h13) ?_
          refine zk_jp1_e (Z := fun (I16 : zk_I) => zC X 8 m_X0_doClause 113 [some (.ref 9), none] [] (z_Z, I16, J) 0 0 (some (.int r)) (z_Z, IR, J)) h (fun I16 h => ?_) (fun K17 jK17 h => ?_)
          · refine c_aload_n rfl rfl ?_
            refine c_getR rfl fk_X0_18 rfl (Nat.le_of_ble_eq_true rfl) rfl ?_
            obtain ⟨I19, h18, h⟩ := zk_bd1_e h
            refine e_callV (As := []) (st := []) rfl lk_X0_51 rfl (Nat.le_of_ble_eq_true rfl) rfl rfl rfl (Nat.le_of_ble_eq_true rfl) rfl (k_X5_goToNextToken h18) ?_
            refine c_iconst rfl vi_1 ?_
            obtain ⟨rfl, rfl⟩ := zk_r2 h
            exact c_ireturn rfl rfl zk_nb1
          · refine c_if_eq rfl (fun q15 => ?_) (fun q15 => ?_)
            · rw [if_pos q15] at h
              refine c_aload_n rfl rfl ?_
              refine c_getR rfl fk_X0_18 rfl (Nat.le_of_ble_eq_true rfl) rfl ?_
              refine c_ldcS (i := 8) rfl rfl (by decide) rfl ?_
              obtain ⟨r21, h20, h⟩ := zk_bd1_e h
              refine e_callV (As := [.ref (1010 + 8)]) (st := []) rfl lk_X0_47 rfl (Nat.le_of_ble_eq_true rfl) rfl rfl rfl (Nat.le_of_ble_eq_true rfl) rfl (k_X5_tokenIs (by decide) h20) ?_
              refine c_if_eq rfl (fun q22 => ?_) (fun q22 => ?_)
              · rw [if_pos q22] at h
                refine c_iconst rfl vi_0 ?_
                obtain ⟨rfl, rfl⟩ := zk_r2 h
                exact c_ireturn rfl rfl zk_nb0
              · rw [if_neg q22] at h
                refine c_aload_n rfl rfl ?_
                refine c_getR rfl fk_X0_12 rfl (Nat.le_of_ble_eq_true rfl) rfl ?_
                obtain ⟨I24, h23, h⟩ := zk_lt_g h
                refine e_callV (As := []) (st := []) rfl lk_X0_84 rfl (Nat.le_of_ble_eq_true rfl) rfl rfl rfl (Nat.le_of_ble_eq_true rfl) rfl (k_X6_clear (rfl : z_isT 10 = true) h23.symm) ?_
                refine c_goto rfl ?_
                refine c_drop [true, false] (L2 := [some (.ref 9), none]) rfl ?_
                exact jK17 _ h
            · rw [if_neg q15] at h
              refine c_aload_n rfl rfl ?_
              refine c_getR rfl fk_X0_12 rfl (Nat.le_of_ble_eq_true rfl) rfl ?_
              obtain ⟨I26, h25, h⟩ := zk_bd1_e h
              refine e_callV (As := []) (st := []) rfl lk_X0_79 rfl (Nat.le_of_ble_eq_true rfl) rfl rfl rfl (Nat.le_of_ble_eq_true rfl) rfl (k_X6_makePeace (rfl : z_isT 10 = true) h25) ?_
              refine c_goto rfl ?_
              refine c_drop [true, false] (L2 := [some (.ref 9), none]) rfl ?_
              exact jK17 _ h
        · rw [if_neg q12] at h
          refine c_aload_n rfl rfl ?_
          obtain ⟨r28, I29, h27, h⟩ := zk_bd2_e h
          refine e_callV (As := []) (st := []) rfl lk_X0_74 rfl (Nat.le_of_ble_eq_true rfl) rfl rfl rfl (Nat.le_of_ble_eq_true rfl) rfl (k_X0_doBook h27) ?_
          obtain ⟨q30, h⟩ := zk_ck_e h
          obtain ⟨rfl, rfl⟩ := zk_r2 h
          exact c_ireturn rfl rfl (zk_01_n q30)
      · rw [if_neg q9] at h
        refine c_aload_n rfl rfl ?_
        obtain ⟨r32, I33, h31, h⟩ := zk_bd2_e h
        refine e_callV (As := []) (st := []) rfl lk_X0_69 rfl (Nat.le_of_ble_eq_true rfl) rfl rfl rfl (Nat.le_of_ble_eq_true rfl) rfl (k_X0_doMove h31) ?_
        obtain ⟨q34, h⟩ := zk_ck_e h
        obtain ⟨rfl, rfl⟩ := zk_r2 h
        exact c_ireturn rfl rfl (zk_01_n q34)
    · rw [if_neg q6] at h
      refine c_aload_n rfl rfl ?_
      obtain ⟨r36, I37, h35, h⟩ := zk_bd2_e h
      refine e_callV (As := []) (st := []) rfl lk_X0_64 rfl (Nat.le_of_ble_eq_true rfl) rfl rfl rfl (Nat.le_of_ble_eq_true rfl) rfl (k_X0_doFeud h35) ?_
      obtain ⟨q38, h⟩ := zk_ck_e h
      obtain ⟨rfl, rfl⟩ := zk_r2 h
      exact c_ireturn rfl rfl (zk_01_n q38)
  · rw [if_neg q3] at h
    refine c_aload_n rfl rfl ?_
    refine c_iload_n rfl rfl ?_
    obtain ⟨r40, I41, h39, h⟩ := zk_bd2_e h
    refine e_callV (As := [.int r2]) (st := []) rfl lk_X0_58 rfl (Nat.le_of_ble_eq_true rfl) rfl rfl rfl (Nat.le_of_ble_eq_true rfl) rfl (k_X0_doReader h39) ?_
    obtain ⟨q42, h⟩ := zk_ck_e h
    obtain ⟨rfl, rfl⟩ := zk_r2 h
    exact c_ireturn rfl rfl (zk_01_n q42)
def f_X5_goToFirstToken (I : zk_I) : Option (zk_I) := zk_lt (zk_sc I 1 (upd (I 1) 3 (0 : Int32))) (fun (I1 : zk_I) =>
  zk_bd1 (f_X5_goToNextToken I1) (fun (I3 : zk_I) =>
   some I3))
set_option maxRecDepth 20000 in
theorem k_X5_goToFirstToken {X : zk_X} {I : zk_I} {J : zk_J} {IR : zk_I} (h : f_X5_goToFirstToken I = some IR) : zC X 3 m_X5_goToFirstToken 0 (zk_ent [.ref 1] 1) [] (z_Z, I, J) 0 0 none (z_Z, IR, J) := by
  unfold f_X5_goToFirstToken at h
  refine c_ent (L2 := [some (.ref 1)]) rfl ?_
  refine c_aload_n rfl rfl ?_
  refine c_iconst rfl vi_0 ?_
  refine c_putI rfl fk_X5_19 rfl rfl (Nat.le_of_ble_eq_true rfl) ?_
  obtain ⟨I1, hI1, h⟩ := zk_lt_g h
  refine c_memI hI1 ?_
  refine c_aload_n rfl rfl ?_
  obtain ⟨I3, h2, h⟩ := zk_bd1_e h
  refine e_callV (As := []) (st := []) rfl lk_X5_22 rfl (Nat.le_of_ble_eq_true rfl) rfl rfl rfl (Nat.le_of_ble_eq_true rfl) rfl (k_X5_goToNextToken h2) ?_
  have h := zk_r1 h
  subst h
  exact c_return rfl rfl
def f_X5_isAtEnd (I : zk_I) : Int32 := (if (I 1 2) < (I 1 1) then (
  (0 : Int32)) else (
  (1 : Int32)))
set_option maxRecDepth 20000 in
theorem k_X5_isAtEnd {X : zk_X} {I : zk_I} {J : zk_J} {r : Int32} (h : f_X5_isAtEnd I = r) : zC X 1 m_X5_isAtEnd 0 (zk_ent [.ref 1] 1) [] (z_Z, I, J) 0 0 (some (.int r)) (z_Z, I, J) := by
  unfold f_X5_isAtEnd at h
  refine c_ent (L2 := [some (.ref 1)]) rfl ?_
  refine c_aload_n rfl rfl ?_
  refine c_getI rfl fk_X5_25 rfl (Nat.le_of_ble_eq_true rfl) ?_
  refine c_aload_n rfl rfl ?_
  refine c_getI rfl fk_X5_15 rfl (Nat.le_of_ble_eq_true rfl) ?_
  refine c_icmp_lt rfl (fun q1 => ?_) (fun q1 => ?_)
  · rw [if_pos q1] at h
    refine c_iconst rfl vi_0 ?_
    subst h
    exact c_ireturn rfl rfl zk_nb0
  · rw [if_neg q1] at h
    refine c_iconst rfl vi_1 ?_
    refine c_goto rfl ?_
    subst h
    exact c_ireturn rfl rfl zk_nb1
def f_X6_copyFrom (I : zk_I) (t : Nat) (o : Nat) : zk_I := zk_lt (zk_sc I t (upd (I t) 0 (I o 0))) (fun (I1 : zk_I) =>
  zk_lt (zk_sc I1 t (upd (I1 t) 1 (I1 o 1))) (fun (I2 : zk_I) =>
   zk_lt (zk_sc I2 (t + 1) (va_cpy (I2 (o + 1)) (I2 (t + 1)) 0 0 8)) (fun (I3 : zk_I) =>
    zk_lt (zk_sc I3 (t + 2) (va_cpy (I3 (o + 2)) (I3 (t + 2)) 0 0 8)) (fun (I4 : zk_I) =>
     zk_lt (zk_sc I4 (t + 3) (va_cpy (I4 (o + 3)) (I4 (t + 3)) 0 0 8)) (fun (I5 : zk_I) =>
      zk_lt (zk_sc I5 (t + 4) (va_cpy (I5 (o + 4)) (I5 (t + 4)) 0 0 8)) (fun (I6 : zk_I) =>
       zk_lt (zk_sc I6 (t + 5) (va_cpy (I6 (o + 5)) (I6 (t + 5)) 0 0 4)) (fun (I7 : zk_I) =>
        I7)))))))
set_option maxRecDepth 20000 in
theorem k_X6_copyFrom {X : zk_X} {I : zk_I} {J : zk_J} {t : Nat} {o : Nat} {IR : zk_I} (h_t : z_isT t = true) (h_o : z_isT o = true) (h : f_X6_copyFrom I t o = IR) : zC X 1 m_X6_copyFrom 0 (zk_ent [.ref t, .ref o] 2) [] (z_Z, I, J) 0 0 none (z_Z, IR, J) := by
  unfold f_X6_copyFrom at h
  refine c_ent (L2 := [some (.ref t), some (.ref o)]) rfl ?_
  refine c_aload_n rfl rfl ?_
  refine c_aload_n rfl rfl ?_
  refine c_getI rfl fk_X6_27 (zT_S h_o) (zT_z h_o) ?_
  refine c_putI rfl fk_X6_27 rfl (zT_S h_t) (zT_z h_t) ?_
  obtain ⟨I1, hI1, h⟩ := zk_lt_g h
  refine c_memI hI1 ?_
  refine c_aload_n rfl rfl ?_
  refine c_aload_n rfl rfl ?_
  refine c_getI rfl fk_X6_31 (zT_S h_o) (zT_z h_o) ?_
  refine c_putI rfl fk_X6_31 rfl (zT_S h_t) (zT_z h_t) ?_
  obtain ⟨I2, hI2, h⟩ := zk_lt_g h
  refine c_memI hI2 ?_
  refine c_aload_n rfl rfl ?_
  refine c_getR rfl fk_X6_9 (zT_S h_o) (zT_z h_o) (zT_r2 h_o) ?_
  refine c_iconst rfl vi_0 ?_
  refine c_aload_n rfl rfl ?_
  refine c_getR rfl fk_X6_9 (zT_S h_t) (zT_z h_t) (zT_r2 h_t) ?_
  refine c_iconst rfl vi_0 ?_
  refine c_bipush rfl vb_8 ?_
  refine e_copy (k0 := 8) rfl lk_X6_34 lk_ac1 lk_ac2 lk_ac3 (zT_a1 h_o) (zT_a1 h_t) (zT_z1 h_o) (zT_z1 h_t) (by decide) (by decide) (by decide) (by decide) (Nat.le_of_ble_eq_true rfl) (Nat.le_of_ble_eq_true rfl) ?_
  obtain ⟨I3, hI3, h⟩ := zk_lt_g h
  refine c_memI hI3 ?_
  refine c_aload_n rfl rfl ?_
  refine c_getR rfl fk_X6_15 (zT_S h_o) (zT_z h_o) (zT_r3 h_o) ?_
  refine c_iconst rfl vi_0 ?_
  refine c_aload_n rfl rfl ?_
  refine c_getR rfl fk_X6_15 (zT_S h_t) (zT_z h_t) (zT_r3 h_t) ?_
  refine c_iconst rfl vi_0 ?_
  refine c_bipush rfl vb_8 ?_
  refine e_copy (k0 := 8) rfl lk_X6_34 lk_ac1 lk_ac2 lk_ac3 (zT_a2 h_o) (zT_a2 h_t) (zT_z2 h_o) (zT_z2 h_t) (by decide) (by decide) (by decide) (by decide) (Nat.le_of_ble_eq_true rfl) (Nat.le_of_ble_eq_true rfl) ?_
  obtain ⟨I4, hI4, h⟩ := zk_lt_g h
  refine c_memI hI4 ?_
  refine c_aload_n rfl rfl ?_
  refine c_getR rfl fk_X6_18 (zT_S h_o) (zT_z h_o) (zT_r4 h_o) ?_
  refine c_iconst rfl vi_0 ?_
  refine c_aload_n rfl rfl ?_
  refine c_getR rfl fk_X6_18 (zT_S h_t) (zT_z h_t) (zT_r4 h_t) ?_
  refine c_iconst rfl vi_0 ?_
  refine c_bipush rfl vb_8 ?_
  refine e_copy (k0 := 8) rfl lk_X6_34 lk_ac1 lk_ac2 lk_ac3 (zT_a3 h_o) (zT_a3 h_t) (zT_z3 h_o) (zT_z3 h_t) (by decide) (by decide) (by decide) (by decide) (Nat.le_of_ble_eq_true rfl) (Nat.le_of_ble_eq_true rfl) ?_
  obtain ⟨I5, hI5, h⟩ := zk_lt_g h
  refine c_memI hI5 ?_
  refine c_aload_n rfl rfl ?_
  refine c_getR rfl fk_X6_21 (zT_S h_o) (zT_z h_o) (zT_r5 h_o) ?_
  refine c_iconst rfl vi_0 ?_
  refine c_aload_n rfl rfl ?_
  refine c_getR rfl fk_X6_21 (zT_S h_t) (zT_z h_t) (zT_r5 h_t) ?_
  refine c_iconst rfl vi_0 ?_
  refine c_bipush rfl vb_8 ?_
  refine e_copy (k0 := 8) rfl lk_X6_34 lk_ac1 lk_ac2 lk_ac3 (zT_a4 h_o) (zT_a4 h_t) (zT_z4 h_o) (zT_z4 h_t) (by decide) (by decide) (by decide) (by decide) (Nat.le_of_ble_eq_true rfl) (Nat.le_of_ble_eq_true rfl) ?_
  obtain ⟨I6, hI6, h⟩ := zk_lt_g h
  refine c_memI hI6 ?_
  refine c_aload_n rfl rfl ?_
  refine c_getR rfl fk_X6_24 (zT_S h_o) (zT_z h_o) (zT_r6 h_o) ?_
  refine c_iconst rfl vi_0 ?_
  refine c_aload_n rfl rfl ?_
  refine c_getR rfl fk_X6_24 (zT_S h_t) (zT_z h_t) (zT_r6 h_t) ?_
  refine c_iconst rfl vi_0 ?_
  refine c_iconst rfl vi_4 ?_
  refine e_copy (k0 := 4) rfl lk_X6_34 lk_ac1 lk_ac2 lk_ac3 (zT_a5 h_o) (zT_a5 h_t) (zT_z5 h_o) (zT_z5 h_t) (by decide) (by decide) (by decide) (by decide) (Nat.le_of_ble_eq_true rfl) (Nat.le_of_ble_eq_true rfl) ?_
  obtain ⟨I7, hI7, h⟩ := zk_lt_g h
  refine c_memI hI7 ?_
  subst h
  exact c_return rfl rfl
def l_X0_firstFault_22  (K : zk_I → Option (Int32 × zk_I)) : Nat → Int32 → zk_I → Option (Int32 × zk_I)
  | 0, _, _ => none
  | n + 1, y2, Iy => (if (14 : Int32) ≤ y2 then (
    K Iy) else (
    zk_bd2 (f_X0_doClause Iy) (fun (r8 : Int32) (I9 : zk_I) =>
     (if r8 = 0 then (
      some ((I9 1 2), I9)) else (
      zk_lt (zk_sc I9 9 (upd (I9 9) 1 ((I9 9 1) + (1 : Int32)))) (fun (I11 : zk_I) =>
       zk_lt (f_X5_isAtEnd I11) (fun (r13 : Int32) =>
        (if r13 = 0 then (
         zk_bd1 (f_X5_tokenIs I11 9) (fun (r16 : Int32) =>
          zk_jp0 (some ((I11 1 2), I11)) (fun (K18 : Option (Int32 × zk_I)) =>
           (if r16 = 0 then (
            K18) else (
            (if (I11 9 1) = (14 : Int32) then (
             K18) else (
             zk_bd1 (f_X5_goToNextToken I11) (fun (I21 : zk_I) =>
              l_X0_firstFault_22 K n (y2 + (1 : Int32)) I21)))))))) else (
         some ((-1 : Int32), I11))))))))))
def f_X0_firstFault (I : zk_I) : Option (Int32 × zk_I) := zk_lt (f_X6_copyFrom I 10 3) (fun (I2 : zk_I) =>
  zk_lt (zk_sc I2 9 (upd (I2 9) 1 (0 : Int32))) (fun (I3 : zk_I) =>
   zk_bd1 (f_X5_goToFirstToken I3) (fun (I5 : zk_I) =>
    l_X0_firstFault_22 (fun (I22 : zk_I) =>
     some ((I22 1 2), I22)) 3000 (0 : Int32) I5)))
set_option maxRecDepth 20000 in
theorem kl_X0_firstFault_22 {X : zk_X} {J : zk_J} {K : zk_I → Option (Int32 × zk_I)} {r : Int32} {IR : zk_I} (jK : ∀ (Iz : zk_I), K Iz = some (r, IR) → zC X 9 m_X0_firstFault 107 [some (.ref 9), none, none] [] (z_Z, Iz, J) 0 0 (some (.int r)) (z_Z, IR, J)) : ∀ (n : Nat) (y2 : Int32) (Iy : zk_I), l_X0_firstFault_22 K n y2 Iy = some (r, IR) → zC X 9 m_X0_firstFault 22 [some (.ref 9), none, some (.int y2)] [] (z_Z, Iy, J) 0 0 (some (.int r)) (z_Z, IR, J) := by
  intro n
  induction n with
  | zero =>
    intro y2 Iy h
    cases h
  | succ n ih =>
    intro y2 Iy h
    rw [l_X0_firstFault_22] at h
    refine c_iload_n rfl rfl ?_
    refine c_bipush rfl vb_14 ?_
    refine c_icmp_ge rfl (fun q6 => ?_) (fun q6 => ?_)
    · rw [if_pos q6] at h
      refine c_drop [true, true, false] (L2 := [some (.ref 9), none, none]) rfl ?_
      exact jK _ h
    · rw [if_neg q6] at h
      refine c_aload_n rfl rfl ?_
      obtain ⟨r8, I9, h7, h⟩ := zk_bd2_e h
      refine e_callV (As := []) (st := []) rfl lk_X0_35 rfl (Nat.le_of_ble_eq_true rfl) rfl rfl rfl (Nat.le_of_ble_eq_true rfl) rfl (k_X0_doClause h7) ?_
      refine c_if_ne rfl (fun q10 => ?_) (fun q10 => ?_)
      · rw [if_neg q10] at h
        refine c_aload_n rfl rfl ?_
        refine c_dup rfl rfl ?_
        refine c_getI rfl fk_X0_26 rfl (Nat.le_of_ble_eq_true rfl) ?_
        refine c_iconst rfl vi_1 ?_
        refine c_iadd rfl ?_
        refine c_putI rfl fk_X0_26 rfl rfl (Nat.le_of_ble_eq_true rfl) ?_
        obtain ⟨I11, hI11, h⟩ := zk_lt_g h
        refine c_memI hI11 ?_
        refine c_aload_n rfl rfl ?_
        refine c_getR rfl fk_X0_18 rfl (Nat.le_of_ble_eq_true rfl) rfl ?_
        obtain ⟨r13, h12, h⟩ := zk_lt_g h
        refine e_callV (As := []) (st := []) rfl lk_X0_42 rfl (Nat.le_of_ble_eq_true rfl) rfl rfl rfl (Nat.le_of_ble_eq_true rfl) rfl (k_X5_isAtEnd h12.symm) ?_
        refine c_if_eq rfl (fun q14 => ?_) (fun q14 => ?_)
        · rw [if_pos q14] at h
          refine c_aload_n rfl rfl ?_
          refine c_getR rfl fk_X0_18 rfl (Nat.le_of_ble_eq_true rfl) rfl ?_
          refine c_ldcS (i := 9) rfl rfl (by decide) rfl ?_
          obtain ⟨r16, h15, h⟩ := zk_bd1_e h
          refine e_callV (As := [.ref (1010 + 9)]) (st := []) rfl lk_X0_47 rfl (Nat.le_of_ble_eq_true rfl) rfl rfl rfl (Nat.le_of_ble_eq_true rfl) rfl (k_X5_tokenIs (by decide) h15) ?_
          refine zk_jp0_e (Z := zC X 9 m_X0_firstFault 86 [some (.ref 9), none, none] [] (z_Z, I11, J) 0 0 (some (.int r)) (z_Z, IR, J)) h (fun h => ?_) (fun K18 jK18 h => ?_)
          · refine c_aload_n rfl rfl ?_
            refine c_getR rfl fk_X0_18 rfl (Nat.le_of_ble_eq_true rfl) rfl ?_
            refine c_getI rfl fk_X0_39 rfl (Nat.le_of_ble_eq_true rfl) ?_
            obtain ⟨rfl, rfl⟩ := zk_r2 h
            exact c_ireturn rfl rfl rfl
          · refine c_if_eq rfl (fun q17 => ?_) (fun q17 => ?_)
            · rw [if_pos q17] at h
              refine c_drop [true, true, false] (L2 := [some (.ref 9), none, none]) rfl ?_
              exact jK18 h
            · rw [if_neg q17] at h
              refine c_aload_n rfl rfl ?_
              refine c_getI rfl fk_X0_26 rfl (Nat.le_of_ble_eq_true rfl) ?_
              refine c_bipush rfl vb_14 ?_
              refine c_icmp_ne rfl (fun q19 => ?_) (fun q19 => ?_)
              · rw [if_neg q19] at h
                refine c_aload_n rfl rfl ?_
                refine c_getR rfl fk_X0_18 rfl (Nat.le_of_ble_eq_true rfl) rfl ?_
                obtain ⟨I21, h20, h⟩ := zk_bd1_e h
                refine e_callV (As := []) (st := []) rfl lk_X0_51 rfl (Nat.le_of_ble_eq_true rfl) rfl rfl rfl (Nat.le_of_ble_eq_true rfl) rfl (k_X5_goToNextToken h20) ?_
                refine e_iinc (L2 := [some (.ref 9), none, some (.int (y2 + (1 : Int32)))]) rfl rfl vi_1 rfl rfl rfl ?_
                refine c_goto rfl ?_
                exact ih _ _ h
              · rw [if_pos q19] at h
                refine c_drop [true, true, false] (L2 := [some (.ref 9), none, none]) rfl ?_
                exact jK18 h
        · rw [if_neg q14] at h
          refine c_iconst rfl vi_m1 ?_
          obtain ⟨rfl, rfl⟩ := zk_r2 h
          exact c_ireturn rfl rfl rfl
      · rw [if_pos q10] at h
        refine c_aload_n rfl rfl ?_
        refine c_getR rfl fk_X0_18 rfl (Nat.le_of_ble_eq_true rfl) rfl ?_
        refine c_getI rfl fk_X0_39 rfl (Nat.le_of_ble_eq_true rfl) ?_
        obtain ⟨rfl, rfl⟩ := zk_r2 h
        exact c_ireturn rfl rfl rfl
set_option maxRecDepth 20000 in
theorem k_X0_firstFault {X : zk_X} {I : zk_I} {J : zk_J} {r : Int32} {IR : zk_I} (h : f_X0_firstFault I = some (r, IR)) : zC X 9 m_X0_firstFault 0 (zk_ent [.ref 9, .ref 3] 3) [] (z_Z, I, J) 0 0 (some (.int r)) (z_Z, IR, J) := by
  unfold f_X0_firstFault at h
  refine c_ent (L2 := [some (.ref 9), some (.ref 3), none]) rfl ?_
  refine c_aload_n rfl rfl ?_
  refine c_getR rfl fk_X0_12 rfl (Nat.le_of_ble_eq_true rfl) rfl ?_
  refine c_aload_n rfl rfl ?_
  obtain ⟨I2, h1, h⟩ := zk_lt_g h
  refine e_callV (As := [.ref 3]) (st := []) rfl lk_X0_22 rfl (Nat.le_of_ble_eq_true rfl) rfl rfl rfl (Nat.le_of_ble_eq_true rfl) rfl (k_X6_copyFrom (rfl : z_isT 10 = true) (rfl : z_isT 3 = true) h1.symm) ?_
  refine c_aload_n rfl rfl ?_
  refine c_iconst rfl vi_0 ?_
  refine c_putI rfl fk_X0_26 rfl rfl (Nat.le_of_ble_eq_true rfl) ?_
  obtain ⟨I3, hI3, h⟩ := zk_lt_g h
  refine c_memI hI3 ?_
  refine c_aload_n rfl rfl ?_
  refine c_getR rfl fk_X0_18 rfl (Nat.le_of_ble_eq_true rfl) rfl ?_
  obtain ⟨I5, h4, h⟩ := zk_bd1_e h
  refine e_callV (As := []) (st := []) rfl lk_X0_30 rfl (Nat.le_of_ble_eq_true rfl) rfl rfl rfl (Nat.le_of_ble_eq_true rfl) rfl (k_X5_goToFirstToken h4) ?_
  refine c_iconst rfl vi_0 ?_
  refine e_istore_n (L2 := [some (.ref 9), some (.ref 3), some (.int (0 : Int32))]) rfl rfl rfl rfl ?_
  refine c_drop [true, false, true] (L2 := [some (.ref 9), none, some (.int (0 : Int32))]) rfl ?_
  refine kl_X0_firstFault_22 (fun I22 h => ?_) _ _ _ h
  refine c_aload_n rfl rfl ?_
  refine c_getR rfl fk_X0_18 rfl (Nat.le_of_ble_eq_true rfl) rfl ?_
  refine c_getI rfl fk_X0_39 rfl (Nat.le_of_ble_eq_true rfl) ?_
  obtain ⟨rfl, rfl⟩ := zk_r2 h
  exact c_ireturn rfl rfl rfl

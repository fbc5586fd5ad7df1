def l_X1_beginAnew_7 (t : Nat) (K : zk_I → Option (zk_I)) : Nat → Int32 → zk_I → Option (zk_I)
  | 0, _, _ => none
  | n + 1, y2, Iy => (if (Iy 3 1) ≤ y2 then (
    K Iy) else (
    zk_ck (zk_in y2 4) (
     zk_ck (zk_in y2 4) (
      zk_lt (zk_sc Iy (t + 1) (upd (Iy (t + 1)) y2.toNatClampNeg (Iy 8 y2.toNatClampNeg))) (fun (I5 : zk_I) =>
       zk_ck (zk_in y2 4) (
        zk_ck (zk_in y2 4) (
         zk_lt (zk_sc I5 (t + 2) (upd (I5 (t + 2)) y2.toNatClampNeg ((1 : Int32) <<< ((I5 8 y2.toNatClampNeg) &&& 31)))) (fun (I8 : zk_I) =>
          zk_ck (zk_in y2 4) (
           zk_lt (zk_sc I8 (t + 3) (upd (I8 (t + 3)) y2.toNatClampNeg (0 : Int32))) (fun (I10 : zk_I) =>
            l_X1_beginAnew_7 t K n (y2 + (1 : Int32)) I10))))))))))
def f_X1_beginAnew (I : zk_I) (t : Nat) : Option (zk_I) := zk_lt (zk_sc I t (upd (I t) 0 (0 : Int32))) (fun (I1 : zk_I) =>
  l_X1_beginAnew_7 t (fun (I11 : zk_I) =>
   some I11) 3000 (0 : Int32) I1)
set_option maxRecDepth 20000 in
theorem kl_X1_beginAnew_7 {X : zk_X} {t : Nat} {J : zk_J} {K : zk_I → Option (zk_I)} {IR : zk_I} (h_t : z_isD t = true) (jK : ∀ (Iz : zk_I), K Iz = some IR → zC X 1 m_X1_beginAnew 54 [none, none, none] [] (z_Z, Iz, J) 0 0 none (z_Z, IR, J)) : ∀ (n : Nat) (y2 : Int32) (Iy : zk_I), l_X1_beginAnew_7 t K n y2 Iy = some IR → zC X 1 m_X1_beginAnew 7 [some (.ref t), some (.ref 3), some (.int y2)] [] (z_Z, Iy, J) 0 0 none (z_Z, IR, J) := by
  intro n
  induction n with
  | zero =>
    intro y2 Iy h
    cases h
  | succ n ih =>
    intro y2 Iy h
    rw [l_X1_beginAnew_7] at h
    refine c_iload_n rfl rfl ?_
    refine c_aload_n rfl rfl ?_
    refine c_getI rfl fk_X1_25 rfl (Nat.le_of_ble_eq_true rfl) ?_
    refine c_icmp_ge rfl (fun q2 => ?_) (fun q2 => ?_)
    · rw [if_pos q2] at h
      refine c_drop [false, false, false] (L2 := [none, none, none]) rfl ?_
      exact jK _ h
    · rw [if_neg q2] at h
      refine c_aload_n rfl rfl ?_
      refine c_getR rfl fk_X1_9 (zD_S h_t) (zD_z h_t) (zD_r1 h_t) ?_
      refine c_iload_n rfl rfl ?_
      refine c_aload_n rfl rfl ?_
      refine c_getR rfl fk_X1_30 rfl (Nat.le_of_ble_eq_true rfl) rfl ?_
      refine c_iload_n rfl rfl ?_
      obtain ⟨q3, h⟩ := zk_ck_e h
      refine e_iald rfl rfl (Nat.le_of_ble_eq_true rfl) q3 rfl ?_
      obtain ⟨q4, h⟩ := zk_ck_e h
      refine e_iast rfl (zD_a1 h_t) (zD_z1 h_t) q4 rfl ?_
      obtain ⟨I5, hI5, h⟩ := zk_lt_g h
      refine c_memI hI5 ?_
      refine c_aload_n rfl rfl ?_
      refine c_getR rfl fk_X1_15 (zD_S h_t) (zD_z h_t) (zD_r2 h_t) ?_
      refine c_iload_n rfl rfl ?_
      refine c_iconst rfl vi_1 ?_
      refine c_aload_n rfl rfl ?_
      refine c_getR rfl fk_X1_30 rfl (Nat.le_of_ble_eq_true rfl) rfl ?_
      refine c_iload_n rfl rfl ?_
      obtain ⟨q6, h⟩ := zk_ck_e h
      refine e_iald rfl rfl (Nat.le_of_ble_eq_true rfl) q6 rfl ?_
      refine c_ishl rfl ?_
      obtain ⟨q7, h⟩ := zk_ck_e h
      refine e_iast rfl (zD_a2 h_t) (zD_z2 h_t) q7 rfl ?_
      obtain ⟨I8, hI8, h⟩ := zk_lt_g h
      refine c_memI hI8 ?_
      refine c_aload_n rfl rfl ?_
      refine c_getR rfl fk_X1_18 (zD_S h_t) (zD_z h_t) (zD_r3 h_t) ?_
      refine c_iload_n rfl rfl ?_
      refine c_iconst rfl vi_0 ?_
      obtain ⟨q9, h⟩ := zk_ck_e h
      refine e_iast rfl (zD_a3 h_t) (zD_z3 h_t) q9 rfl ?_
      obtain ⟨I10, hI10, h⟩ := zk_lt_g h
      refine c_memI hI10 ?_
      refine e_iinc (L2 := [some (.ref t), some (.ref 3), some (.int (y2 + (1 : Int32)))]) rfl rfl vi_1 rfl rfl rfl ?_
      refine c_goto rfl ?_
      exact ih _ _ h
set_option maxRecDepth 20000 in
theorem k_X1_beginAnew {X : zk_X} {I : zk_I} {J : zk_J} {t : Nat} {IR : zk_I} (h_t : z_isD t = true) (h : f_X1_beginAnew I t = some IR) : zC X 1 m_X1_beginAnew 0 (zk_ent [.ref t, .ref 3] 3) [] (z_Z, I, J) 0 0 none (z_Z, IR, J) := by
  unfold f_X1_beginAnew at h
  refine c_ent (L2 := [some (.ref t), some (.ref 3), none]) rfl ?_
  refine c_aload_n rfl rfl ?_
  refine c_iconst rfl vi_0 ?_
  refine c_putI rfl fk_X1_21 rfl (zD_S h_t) (zD_z h_t) ?_
  obtain ⟨I1, hI1, h⟩ := zk_lt_g h
  refine c_memI hI1 ?_
  refine c_iconst rfl vi_0 ?_
  refine e_istore_n (L2 := [some (.ref t), some (.ref 3), some (.int (0 : Int32))]) rfl rfl rfl rfl ?_
  refine kl_X1_beginAnew_7 h_t (fun I11 h => ?_) _ _ _ h
  have h := zk_r1 h
  subst h
  exact c_return rfl rfl
def f_X1_copyFrom (I : zk_I) (t : Nat) (o : Nat) : zk_I := zk_lt (zk_sc I t (upd (I t) 0 (I o 0))) (fun (I1 : zk_I) =>
  zk_lt (zk_sc I1 (t + 1) (va_cpy (I1 (o + 1)) (I1 (t + 1)) 0 0 4)) (fun (I2 : zk_I) =>
   zk_lt (zk_sc I2 (t + 2) (va_cpy (I2 (o + 2)) (I2 (t + 2)) 0 0 4)) (fun (I3 : zk_I) =>
    zk_lt (zk_sc I3 (t + 3) (va_cpy (I3 (o + 3)) (I3 (t + 3)) 0 0 4)) (fun (I4 : zk_I) =>
     I4))))
set_option maxRecDepth 20000 in
theorem k_X1_copyFrom {X : zk_X} {I : zk_I} {J : zk_J} {t : Nat} {o : Nat} {IR : zk_I} (h_t : z_isD t = true) (h_o : z_isD o = true) (h : f_X1_copyFrom I t o = IR) : zC X 1 m_X1_copyFrom 0 (zk_ent [.ref t, .ref o] 2) [] (z_Z, I, J) 0 0 none (z_Z, IR, J) := by
  unfold f_X1_copyFrom at h
  refine c_ent (L2 := [some (.ref t), some (.ref o)]) rfl ?_
  refine c_aload_n rfl rfl ?_
  refine c_aload_n rfl rfl ?_
  refine c_getI rfl fk_X1_21 (zD_S h_o) (zD_z h_o) ?_
  refine c_putI rfl fk_X1_21 rfl (zD_S h_t) (zD_z h_t) ?_
  obtain ⟨I1, hI1, h⟩ := zk_lt_g h
  refine c_memI hI1 ?_
  refine c_aload_n rfl rfl ?_
  refine c_getR rfl fk_X1_9 (zD_S h_o) (zD_z h_o) (zD_r1 h_o) ?_
  refine c_iconst rfl vi_0 ?_
  refine c_aload_n rfl rfl ?_
  refine c_getR rfl fk_X1_9 (zD_S h_t) (zD_z h_t) (zD_r1 h_t) ?_
  refine c_iconst rfl vi_0 ?_
  refine c_iconst rfl vi_4 ?_
  refine e_copy (k0 := 4) rfl lk_X1_33 lk_ac1 lk_ac2 lk_ac3 (zD_a1 h_o) (zD_a1 h_t) (zD_z1 h_o) (zD_z1 h_t) (by decide) (by decide) (by decide) (by decide) (Nat.le_of_ble_eq_true rfl) (Nat.le_of_ble_eq_true rfl) ?_
  obtain ⟨I2, hI2, h⟩ := zk_lt_g h
  refine c_memI hI2 ?_
  refine c_aload_n rfl rfl ?_
  refine c_getR rfl fk_X1_15 (zD_S h_o) (zD_z h_o) (zD_r2 h_o) ?_
  refine c_iconst rfl vi_0 ?_
  refine c_aload_n rfl rfl ?_
  refine c_getR rfl fk_X1_15 (zD_S h_t) (zD_z h_t) (zD_r2 h_t) ?_
  refine c_iconst rfl vi_0 ?_
  refine c_iconst rfl vi_4 ?_
  refine e_copy (k0 := 4) rfl lk_X1_33 lk_ac1 lk_ac2 lk_ac3 (zD_a2 h_o) (zD_a2 h_t) (zD_z2 h_o) (zD_z2 h_t) (by decide) (by decide) (by decide) (by decide) (Nat.le_of_ble_eq_true rfl) (Nat.le_of_ble_eq_true rfl) ?_
  obtain ⟨I3, hI3, h⟩ := zk_lt_g h
  refine c_memI hI3 ?_
  refine c_aload_n rfl rfl ?_
  refine c_getR rfl fk_X1_18 (zD_S h_o) (zD_z h_o) (zD_r3 h_o) ?_
  refine c_iconst rfl vi_0 ?_
  refine c_aload_n rfl rfl ?_
  refine c_getR rfl fk_X1_18 (zD_S h_t) (zD_z h_t) (zD_r3 h_t) ?_
  refine c_iconst rfl vi_0 ?_
  refine c_iconst rfl vi_4 ?_
  refine e_copy (k0 := 4) rfl lk_X1_33 lk_ac1 lk_ac2 lk_ac3 (zD_a3 h_o) (zD_a3 h_t) (zD_z3 h_o) (zD_z3 h_t) (by decide) (by decide) (by decide) (by decide) (Nat.le_of_ble_eq_true rfl) (Nat.le_of_ble_eq_true rfl) ?_
  obtain ⟨I4, hI4, h⟩ := zk_lt_g h
  refine c_memI hI4 ?_
  subst h
  exact c_return rfl rfl
def f_X1_passOn (I : zk_I) (t : Nat) (a1 : Int32) (a2 : Int32) : Option (zk_I) := zk_ck (zk_in a1 4) (
  zk_lt (zk_sc I (t + 1) (upd (I (t + 1)) a1.toNatClampNeg a2)) (fun (I2 : zk_I) =>
   zk_ck (zk_in a1 4) (
    zk_ck (zk_in a1 4) (
     zk_lt (zk_sc I2 (t + 2) (upd (I2 (t + 2)) a1.toNatClampNeg ((I2 (t + 2) a1.toNatClampNeg) ||| ((1 : Int32) <<< (a2 &&& 31))))) (fun (I5 : zk_I) =>
      zk_ck (zk_in a1 4) (
       zk_lt (zk_sc I5 (t + 3) (upd (I5 (t + 3)) a1.toNatClampNeg (I5 t 0))) (fun (I7 : zk_I) =>
        zk_lt (zk_sc I7 t (upd (I7 t) 0 ((I7 t 0) + (1 : Int32)))) (fun (I8 : zk_I) =>
         some I8))))))))
set_option maxRecDepth 20000 in
theorem k_X1_passOn {X : zk_X} {I : zk_I} {J : zk_J} {t : Nat} {a1 : Int32} {a2 : Int32} {IR : zk_I} (h_t : z_isD t = true) (h : f_X1_passOn I t a1 a2 = some IR) : zC X 1 m_X1_passOn 0 (zk_ent [.ref t, .int a1, .int a2] 3) [] (z_Z, I, J) 0 0 none (z_Z, IR, J) := by
  unfold f_X1_passOn at h
  refine c_ent (L2 := [some (.ref t), some (.int a1), some (.int a2)]) rfl ?_
  refine c_aload_n rfl rfl ?_
  refine c_getR rfl fk_X1_9 (zD_S h_t) (zD_z h_t) (zD_r1 h_t) ?_
  refine c_iload_n rfl rfl ?_
  refine c_iload_n rfl rfl ?_
  obtain ⟨q1, h⟩ := zk_ck_e h
  refine e_iast rfl (zD_a1 h_t) (zD_z1 h_t) q1 rfl ?_
  obtain ⟨I2, hI2, h⟩ := zk_lt_g h
  refine c_memI hI2 ?_
  refine c_aload_n rfl rfl ?_
  refine c_getR rfl fk_X1_15 (zD_S h_t) (zD_z h_t) (zD_r2 h_t) ?_
  refine c_iload_n rfl rfl ?_
  refine c_dup2 rfl rfl rfl ?_
  obtain ⟨q3, h⟩ := zk_ck_e h
  refine e_iald rfl (zD_a2 h_t) (zD_z2 h_t) q3 rfl ?_
  refine c_iconst rfl vi_1 ?_
  refine c_iload_n rfl rfl ?_
  refine c_ishl rfl ?_
  refine c_ior rfl ?_
  obtain ⟨q4, h⟩ := zk_ck_e h
  refine e_iast rfl (zD_a2 h_t) (zD_z2 h_t) q4 rfl ?_
  obtain ⟨I5, hI5, h⟩ := zk_lt_g h
  refine c_memI hI5 ?_
  refine c_aload_n rfl rfl ?_
  refine c_getR rfl fk_X1_18 (zD_S h_t) (zD_z h_t) (zD_r3 h_t) ?_
  refine c_iload_n rfl rfl ?_
  refine c_aload_n rfl rfl ?_
  refine c_getI rfl fk_X1_21 (zD_S h_t) (zD_z h_t) ?_
  obtain ⟨q6, h⟩ := zk_ck_e h
  refine e_iast rfl (zD_a3 h_t) (zD_z3 h_t) q6 rfl ?_
  obtain ⟨I7, hI7, h⟩ := zk_lt_g h
  refine c_memI hI7 ?_
  refine c_aload_n rfl rfl ?_
  refine c_dup rfl rfl ?_
  refine c_getI rfl fk_X1_21 (zD_S h_t) (zD_z h_t) ?_
  refine c_iconst rfl vi_1 ?_
  refine c_iadd rfl ?_
  refine c_putI rfl fk_X1_21 rfl (zD_S h_t) (zD_z h_t) ?_
  obtain ⟨I8, hI8, h⟩ := zk_lt_g h
  refine c_memI hI8 ?_
  have h := zk_r1 h
  subst h
  exact c_return rfl rfl
def f_X2_forget (I : zk_I) : zk_I := zk_lt (zk_sc I 20 (upd (I 20) 0 (0 : Int32))) (fun (I1 : zk_I) =>
  I1)
set_option maxRecDepth 20000 in
theorem k_X2_forget {X : zk_X} {I : zk_I} {J : zk_J} {IR : zk_I} (h : f_X2_forget I = IR) : zC X 1 m_X2_forget 0 (zk_ent [.ref 20] 1) [] (z_Z, I, J) 0 0 none (z_Z, IR, J) := by
  unfold f_X2_forget at h
  refine c_ent (L2 := [some (.ref 20)]) rfl ?_
  refine c_aload_n rfl rfl ?_
  refine c_iconst rfl vi_0 ?_
  refine c_putI rfl fk_X2_18 rfl rfl (Nat.le_of_ble_eq_true rfl) ?_
  obtain ⟨I1, hI1, h⟩ := zk_lt_g h
  refine c_memI hI1 ?_
  subst h
  exact c_return rfl rfl
def f_X2_remember (I : zk_I) : Option (zk_I) := zk_ck (zk_in (I 20 1) 8) (
  zk_lt (f_X1_copyFrom I (22 + 4 * (I 20 1).toNatClampNeg) 16) (fun (I3 : zk_I) =>
   zk_lt (zk_sc I3 20 (upd (I3 20) 1 (((I3 20 1) + (1 : Int32)) - ((I3 20 1) + (1 : Int32)) / (8 : Int32) * (8 : Int32)))) (fun (I4 : zk_I) =>
    zk_lt (zk_sc I4 20 (upd (I4 20) 0 (if (8 : Int32) < ((I4 20 0) + (1 : Int32)) then (8 : Int32) else ((I4 20 0) + (1 : Int32))))) (fun (I5 : zk_I) =>
     some I5))))
set_option maxRecDepth 20000 in
theorem k_X2_remember {X : zk_X} {I : zk_I} {J : zk_J} {IR : zk_I} (h : f_X2_remember I = some IR) : zC X 2 m_X2_remember 0 (zk_ent [.ref 20, .ref 16] 2) [] (z_Z, I, J) 0 0 none (z_Z, IR, J) := by
  unfold f_X2_remember at h
  refine c_ent (L2 := [some (.ref 20), some (.ref 16)]) rfl ?_
  refine c_aload_n rfl rfl ?_
  refine c_getR rfl fk_X2_11 rfl (Nat.le_of_ble_eq_true rfl) rfl ?_
  refine c_aload_n rfl rfl ?_
  refine c_getI rfl fk_X2_22 rfl (Nat.le_of_ble_eq_true rfl) ?_
  obtain ⟨q1, h⟩ := zk_ck_e h
  refine c_aald rfl rfl (Nat.le_of_ble_eq_true rfl) q1 (z_ring _ (z_in_lt q1)).1 ?_
  refine c_aload_n rfl rfl ?_
  obtain ⟨I3, h2, h⟩ := zk_lt_g h
  refine e_callV (As := [.ref 16]) (st := []) rfl lk_X2_25 (zD_S (z_ring _ (z_in_lt q1)).2) (zD_z (z_ring _ (z_in_lt q1)).2) rfl rfl rfl (Nat.le_of_ble_eq_true rfl) rfl (k_X1_copyFrom (z_ring _ (z_in_lt q1)).2 (rfl : z_isD 16 = true) h2.symm) ?_
  refine c_aload_n rfl rfl ?_
  refine c_aload_n rfl rfl ?_
  refine c_getI rfl fk_X2_22 rfl (Nat.le_of_ble_eq_true rfl) ?_
  refine c_iconst rfl vi_1 ?_
  refine c_iadd rfl ?_
  refine c_bipush rfl vb_8 ?_
  refine c_irem rfl (by decide) ?_
  refine c_putI rfl fk_X2_22 rfl rfl (Nat.le_of_ble_eq_true rfl) ?_
  obtain ⟨I4, hI4, h⟩ := zk_lt_g h
  refine c_memI hI4 ?_
  refine c_aload_n rfl rfl ?_
  refine c_aload_n rfl rfl ?_
  refine c_getI rfl fk_X2_18 rfl (Nat.le_of_ble_eq_true rfl) ?_
  refine c_iconst rfl vi_1 ?_
  refine c_iadd rfl ?_
  refine c_bipush rfl vb_8 ?_
  refine c_mmin rfl lk_X2_29 (Nat.le_of_ble_eq_true rfl) (Nat.le_of_ble_eq_true rfl) ?_
  refine c_putI rfl fk_X2_18 rfl rfl (Nat.le_of_ble_eq_true rfl) ?_
  obtain ⟨I5, hI5, h⟩ := zk_lt_g h
  refine c_memI hI5 ?_
  have h := zk_r1 h
  subst h
  exact c_return rfl rfl
def f_X2_takeBack (I : zk_I) : Option (zk_I) := zk_lt (zk_sc I 20 (upd (I 20) 1 ((((I 20 1) + (8 : Int32)) - (1 : Int32)) - (((I 20 1) + (8 : Int32)) - (1 : Int32)) / (8 : Int32) * (8 : Int32)))) (fun (I1 : zk_I) =>
  zk_lt (zk_sc I1 20 (upd (I1 20) 0 ((I1 20 0) - (1 : Int32)))) (fun (I2 : zk_I) =>
   zk_ck (zk_in (I2 20 1) 8) (
    zk_lt (f_X1_copyFrom I2 16 (22 + 4 * (I2 20 1).toNatClampNeg)) (fun (I5 : zk_I) =>
     some I5))))
set_option maxRecDepth 20000 in
theorem k_X2_takeBack {X : zk_X} {I : zk_I} {J : zk_J} {IR : zk_I} (h : f_X2_takeBack I = some IR) : zC X 2 m_X2_takeBack 0 (zk_ent [.ref 20, .ref 16] 2) [] (z_Z, I, J) 0 0 none (z_Z, IR, J) := by
  unfold f_X2_takeBack at h
  refine c_ent (L2 := [some (.ref 20), some (.ref 16)]) rfl ?_
  refine c_aload_n rfl rfl ?_
  refine c_aload_n rfl rfl ?_
  refine c_getI rfl fk_X2_22 rfl (Nat.le_of_ble_eq_true rfl) ?_
  refine c_bipush rfl vb_8 ?_
  refine c_iadd rfl ?_
  refine c_iconst rfl vi_1 ?_
  refine c_isub rfl ?_
  refine c_bipush rfl vb_8 ?_
  refine c_irem rfl (by decide) ?_
  refine c_putI rfl fk_X2_22 rfl rfl (Nat.le_of_ble_eq_true rfl) ?_
  obtain ⟨I1, hI1, h⟩ := zk_lt_g h
  refine c_memI hI1 ?_
  refine c_aload_n rfl rfl ?_
  refine c_dup rfl rfl ?_
  refine c_getI rfl fk_X2_18 rfl (Nat.le_of_ble_eq_true rfl) ?_
  refine c_iconst rfl vi_1 ?_
  refine c_isub rfl ?_
  refine c_putI rfl fk_X2_18 rfl rfl (Nat.le_of_ble_eq_true rfl) ?_
  obtain ⟨I2, hI2, h⟩ := zk_lt_g h
  refine c_memI hI2 ?_
  refine c_aload_n rfl rfl ?_
  refine c_aload_n rfl rfl ?_
  refine c_getR rfl fk_X2_11 rfl (Nat.le_of_ble_eq_true rfl) rfl ?_
  refine c_aload_n rfl rfl ?_
  refine c_getI rfl fk_X2_22 rfl (Nat.le_of_ble_eq_true rfl) ?_
  obtain ⟨q3, h⟩ := zk_ck_e h
  refine c_aald rfl rfl (Nat.le_of_ble_eq_true rfl) q3 (z_ring _ (z_in_lt q3)).1 ?_
  obtain ⟨I5, h4, h⟩ := zk_lt_g h
  refine e_callV (As := [.ref (22 + 4 * (I2 20 1).toNatClampNeg)]) (st := []) rfl lk_X2_25 rfl (Nat.le_of_ble_eq_true rfl) rfl rfl rfl (Nat.le_of_ble_eq_true rfl) rfl (k_X1_copyFrom (rfl : z_isD 16 = true) (z_ring _ (z_in_lt q3)).2 h4.symm) ?_
  have h := zk_r1 h
  subst h
  exact c_return rfl rfl
def f_X3_everybody (I : zk_I) : Int32 := (((1 : Int32) <<< ((I 3 0) &&& 31)) - (1 : Int32))
set_option maxRecDepth 20000 in
theorem k_X3_everybody {X : zk_X} {I : zk_I} {J : zk_J} {r : Int32} (h : f_X3_everybody I = r) : zC X 1 m_X3_everybody 0 (zk_ent [.ref 63] 1) [] (z_Z, I, J) 0 0 (some (.int r)) (z_Z, I, J) := by
  unfold f_X3_everybody at h
  refine c_ent (L2 := [some (.ref 63)]) rfl ?_
  refine c_iconst rfl vi_1 ?_
  refine c_aload_n rfl rfl ?_
  refine c_getR rfl fk_X3_31 rfl (Nat.le_of_ble_eq_true rfl) rfl ?_
  refine c_getI rfl fk_X3_65 rfl (Nat.le_of_ble_eq_true rfl) ?_
  refine c_ishl rfl ?_
  refine c_iconst rfl vi_1 ?_
  refine c_isub rfl ?_
  subst h
  exact c_ireturn rfl rfl rfl
def f_X7_hasBit (a1 : Int32) (a2 : Int32) : Int32 := (if ((a1 >>> (a2 &&& 31)) &&& (1 : Int32)) = (1 : Int32) then (
  (1 : Int32)) else (
  (0 : Int32)))
set_option maxRecDepth 20000 in
theorem k_X7_hasBit {X : zk_X} {I : zk_I} {J : zk_J} {a1 : Int32} {a2 : Int32} {r : Int32} (h : f_X7_hasBit a1 a2 = r) : zC X 1 m_X7_hasBit 0 (zk_ent [.int a1, .int a2] 2) [] (z_Z, I, J) 0 0 (some (.int r)) (z_Z, I, J) := by
  unfold f_X7_hasBit at h
  refine c_ent (L2 := [some (.int a1), some (.int a2)]) rfl ?_
  refine c_iload_n rfl rfl ?_
  refine c_iload_n rfl rfl ?_
  refine c_ishr rfl ?_
  refine c_iconst rfl vi_1 ?_
  refine c_iand rfl ?_
  refine c_iconst rfl vi_1 ?_
  refine c_icmp_ne rfl (fun q1 => ?_) (fun q1 => ?_)
  · rw [if_neg q1] at h
    refine c_iconst rfl vi_0 ?_
    subst h
    exact c_ireturn rfl rfl zk_nb0
  · rw [if_pos q1] at h
    refine c_iconst rfl vi_1 ?_
    refine c_goto rfl ?_
    subst h
    exact c_ireturn rfl rfl zk_nb1
def f_X6_likes (I : zk_I) (t : Nat) (a1 : Int32) (a2 : Int32) : Option (Int32) := zk_ck (zk_in a1 8) (
  zk_lt (I (t + 1) a1.toNatClampNeg) (fun (x2 : Int32) =>
   (if x2 = (2 : Int32) then (
    some (1 : Int32)) else (
    zk_ck (zk_in a1 8) (
     zk_lt (f_X7_hasBit (I (t + 3) a1.toNatClampNeg) a2) (fun (r6 : Int32) =>
      (if r6 = 0 then (
       (if x2 = (1 : Int32) then (
        zk_ck (zk_in a2 8) (
         zk_ck (zk_in a1 8) (
          (if (I (t + 2) a2.toNatClampNeg) < (I (t + 2) a1.toNatClampNeg) then (
           some (0 : Int32)) else (
           some (1 : Int32)))))) else (
        zk_jp0 (some (1 : Int32)) (fun (K10 : Option (Int32)) =>
         (if x2 = (3 : Int32) then (
          zk_ck (zk_in a2 8) (
           zk_ck (zk_in a1 8) (
            (if (I (t + 2) a1.toNatClampNeg) < (I (t + 2) a2.toNatClampNeg) then (
             some (0 : Int32)) else (
             K10))))) else (
          K10)))))) else (
       some (0 : Int32)))))))))
set_option maxRecDepth 20000 in
theorem k_X6_likes {X : zk_X} {I : zk_I} {J : zk_J} {t : Nat} {a1 : Int32} {a2 : Int32} {r : Int32} (h_t : z_isT t = true) (h : f_X6_likes I t a1 a2 = some r) : zC X 2 m_X6_likes 0 (zk_ent [.ref t, .int a1, .int a2] 4) [] (z_Z, I, J) 0 0 (some (.int r)) (z_Z, I, J) := by
  unfold f_X6_likes at h
  refine c_ent (L2 := [some (.ref t), some (.int a1), some (.int a2), none]) rfl ?_
  refine c_aload_n rfl rfl ?_
  refine c_getR rfl fk_X6_9 (zT_S h_t) (zT_z h_t) (zT_r2 h_t) ?_
  refine c_iload_n rfl rfl ?_
  obtain ⟨q1, h⟩ := zk_ck_e h
  refine e_iald rfl (zT_a1 h_t) (zT_z1 h_t) q1 rfl ?_
  obtain ⟨x2, hx2, h⟩ := zk_lt_g h
  refine c_topi hx2 ?_
  refine e_istore_n (L2 := [some (.ref t), some (.int a1), some (.int a2), some (.int x2)]) rfl rfl rfl rfl ?_
  refine c_iload_n rfl rfl ?_
  refine c_iconst rfl vi_2 ?_
  refine c_icmp_ne rfl (fun q3 => ?_) (fun q3 => ?_)
  · rw [if_neg q3] at h
    refine c_aload_n rfl rfl ?_
    refine c_getR rfl fk_X6_18 (zT_S h_t) (zT_z h_t) (zT_r4 h_t) ?_
    refine c_iload_n rfl rfl ?_
    obtain ⟨q4, h⟩ := zk_ck_e h
    refine e_iald rfl (zT_a3 h_t) (zT_z3 h_t) q4 rfl ?_
    refine c_iload_n rfl rfl ?_
    obtain ⟨r6, h5, h⟩ := zk_lt_g h
    refine e_callSN (As := [.int (I (t + 3) a1.toNatClampNeg), .int a2]) (st := []) rfl lk_X6_62 rfl rfl rfl (Nat.le_of_ble_eq_true rfl) rfl (k_X7_hasBit h5.symm) ?_
    refine c_if_eq rfl (fun q7 => ?_) (fun q7 => ?_)
    · rw [if_pos q7] at h
      refine c_iload_n rfl rfl ?_
      refine c_iconst rfl vi_1 ?_
      refine c_icmp_ne rfl (fun q8 => ?_) (fun q8 => ?_)
      · rw [if_neg q8] at h
        refine c_iload_n rfl rfl ?_
        refine c_iconst rfl vi_3 ?_
        refine zk_jp0_e (Z := zC X 2 m_X6_likes 75 [none, none, none, none] [] (z_Z, I, J) 0 0 (some (.int r)) (z_Z, I, J)) h (fun h => ?_) (fun K10 jK10 h => ?_)
        · refine c_iconst rfl vi_1 ?_
          refine c_goto rfl ?_
          have h := zk_r1 h
          subst h
          exact c_ireturn rfl rfl zk_nb1
        · refine c_icmp_ne rfl (fun q9 => ?_) (fun q9 => ?_)
          · rw [if_neg q9] at h
            refine c_drop [false, false, false, false] (L2 := [none, none, none, none]) rfl ?_
            exact jK10 h
          · rw [if_pos q9] at h
            refine c_aload_n rfl rfl ?_
            refine c_getR rfl fk_X6_15 (zT_S h_t) (zT_z h_t) (zT_r3 h_t) ?_
            refine c_iload_n rfl rfl ?_
            obtain ⟨q11, h⟩ := zk_ck_e h
            refine e_iald rfl (zT_a2 h_t) (zT_z2 h_t) q11 rfl ?_
            refine c_aload_n rfl rfl ?_
            refine c_getR rfl fk_X6_15 (zT_S h_t) (zT_z h_t) (zT_r3 h_t) ?_
            refine c_iload_n rfl rfl ?_
            obtain ⟨q12, h⟩ := zk_ck_e h
            refine e_iald rfl (zT_a2 h_t) (zT_z2 h_t) q12 rfl ?_
            refine c_icmp_gt rfl (fun q13 => ?_) (fun q13 => ?_)
            · rw [if_pos q13] at h
              refine c_iconst rfl vi_0 ?_
              have h := zk_r1 h
              subst h
              exact c_ireturn rfl rfl zk_nb0
            · rw [if_neg q13] at h
              refine c_drop [false, false, false, false] (L2 := [none, none, none, none]) rfl ?_
              exact jK10 h
      · rw [if_pos q8] at h
        refine c_aload_n rfl rfl ?_
        refine c_getR rfl fk_X6_15 (zT_S h_t) (zT_z h_t) (zT_r3 h_t) ?_
        refine c_iload_n rfl rfl ?_
        obtain ⟨q14, h⟩ := zk_ck_e h
        refine e_iald rfl (zT_a2 h_t) (zT_z2 h_t) q14 rfl ?_
        refine c_aload_n rfl rfl ?_
        refine c_getR rfl fk_X6_15 (zT_S h_t) (zT_z h_t) (zT_r3 h_t) ?_
        refine c_iload_n rfl rfl ?_
        obtain ⟨q15, h⟩ := zk_ck_e h
        refine e_iald rfl (zT_a2 h_t) (zT_z2 h_t) q15 rfl ?_
        refine c_icmp_lt rfl (fun q16 => ?_) (fun q16 => ?_)
        · rw [if_pos q16] at h
          refine c_iconst rfl vi_0 ?_
          have h := zk_r1 h
          subst h
          exact c_ireturn rfl rfl zk_nb0
        · rw [if_neg q16] at h
          refine c_iconst rfl vi_1 ?_
          refine c_goto rfl ?_
          have h := zk_r1 h
          subst h
          exact c_ireturn rfl rfl zk_nb1
    · rw [if_neg q7] at h
      refine c_iconst rfl vi_0 ?_
      have h := zk_r1 h
      subst h
      exact c_ireturn rfl rfl zk_nb0
  · rw [if_pos q3] at h
    refine c_iconst rfl vi_1 ?_
    have h := zk_r1 h
    subst h
    exact c_ireturn rfl rfl zk_nb1
def l_X6_liked_4 (I : zk_I) (t : Nat) (p1 : Int32) (K : Int32 → Option (Int32)) : Nat → Int32 → Int32 → Option (Int32)
  | 0, _, _ => none
  | n + 1, y2, y3 => (if (I t 0) ≤ y3 then (
    K y2) else (
    zk_jp1 (fun (v3 : Int32) =>
     l_X6_liked_4 I t p1 K n v3 (y3 + (1 : Int32))) (fun (K4 : Int32 → Option (Int32)) =>
     (if y3 = p1 then (
      K4 y2) else (
      zk_bd1 (f_X6_likes I t p1 y3) (fun (r6 : Int32) =>
       (if r6 = 0 then (
        K4 y2) else (
        zk_lt (y2 ||| ((1 : Int32) <<< (y3 &&& 31))) (fun (x8 : Int32) =>
         K4 x8)))))))))
def f_X6_liked (I : zk_I) (t : Nat) (a1 : Int32) : Option (Int32) := l_X6_liked_4 I t a1 (fun (z9 : Int32) =>
  some z9) 3000 (0 : Int32) (0 : Int32)
set_option maxRecDepth 20000 in
theorem kl_X6_liked_4 {X : zk_X} {I : zk_I} {t : Nat} {p1 : Int32} {J : zk_J} {K : Int32 → Option (Int32)} {r : Int32} (h_t : z_isT t = true) (jK : ∀ (z2 : Int32), K z2 = some r → zC X 3 m_X6_liked 38 [none, none, some (.int z2), none] [] (z_Z, I, J) 0 0 (some (.int r)) (z_Z, I, J)) : ∀ (n : Nat) (y2 : Int32) (y3 : Int32), l_X6_liked_4 I t p1 K n y2 y3 = some r → zC X 3 m_X6_liked 4 [some (.ref t), some (.int p1), some (.int y2), some (.int y3)] [] (z_Z, I, J) 0 0 (some (.int r)) (z_Z, I, J) := by
  intro n
  induction n with
  | zero =>
    intro y2 y3 h
    cases h
  | succ n ih =>
    intro y2 y3 h
    rw [l_X6_liked_4] at h
    refine c_iload_n rfl rfl ?_
    refine c_aload_n rfl rfl ?_
    refine c_getI rfl fk_X6_27 (zT_S h_t) (zT_z h_t) ?_
    refine c_icmp_ge rfl (fun q1 => ?_) (fun q1 => ?_)
    · rw [if_pos q1] at h
      refine c_drop [false, false, true, false] (L2 := [none, none, some (.int y2), none]) rfl ?_
      exact jK _ h
    · rw [if_neg q1] at h
      refine c_iload_n rfl rfl ?_
      refine c_iload_n rfl rfl ?_
      refine zk_jp1_e (Z := fun (v3 : Int32) => zC X 3 m_X6_liked 32 [some (.ref t), some (.int p1), some (.int v3), some (.int y3)] [] (z_Z, I, J) 0 0 (some (.int r)) (z_Z, I, J)) h (fun v3 h => ?_) (fun K4 jK4 h => ?_)
      · refine e_iinc (L2 := [some (.ref t), some (.int p1), some (.int v3), some (.int (y3 + (1 : Int32)))]) rfl rfl vi_1 rfl rfl rfl ?_
        refine c_goto rfl ?_
        exact ih _ _ h
      · refine c_icmp_eq rfl (fun q2 => ?_) (fun q2 => ?_)
        · rw [if_pos q2] at h
          exact jK4 _ h
        · rw [if_neg q2] at h
          refine c_aload_n rfl rfl ?_
          refine c_iload_n rfl rfl ?_
          refine c_iload_n rfl rfl ?_
          obtain ⟨r6, h5, h⟩ := zk_bd1_e h
          refine e_callV (As := [.int p1, .int y3]) (st := []) rfl lk_X6_58 (zT_S h_t) (zT_z h_t) rfl rfl rfl (Nat.le_of_ble_eq_true rfl) rfl (k_X6_likes h_t h5) ?_
          refine c_if_eq rfl (fun q7 => ?_) (fun q7 => ?_)
          · rw [if_pos q7] at h
            exact jK4 _ h
          · rw [if_neg q7] at h
            refine c_iload_n rfl rfl ?_
            refine c_iconst rfl vi_1 ?_
            refine c_iload_n rfl rfl ?_
            refine c_ishl rfl ?_
            refine c_ior rfl ?_
            obtain ⟨x8, hx8, h⟩ := zk_lt_g h
            refine c_topi hx8 ?_
            refine e_istore_n (L2 := [some (.ref t), some (.int p1), some (.int x8), some (.int y3)]) rfl rfl rfl rfl ?_
            exact jK4 _ h
set_option maxRecDepth 20000 in
theorem k_X6_liked {X : zk_X} {I : zk_I} {J : zk_J} {t : Nat} {a1 : Int32} {r : Int32} (h_t : z_isT t = true) (h : f_X6_liked I t a1 = some r) : zC X 3 m_X6_liked 0 (zk_ent [.ref t, .int a1] 4) [] (z_Z, I, J) 0 0 (some (.int r)) (z_Z, I, J) := by
  unfold f_X6_liked at h
  refine c_ent (L2 := [some (.ref t), some (.int a1), none, none]) rfl ?_
  refine c_iconst rfl vi_0 ?_
  refine e_istore_n (L2 := [some (.ref t), some (.int a1), some (.int (0 : Int32)), none]) rfl rfl rfl rfl ?_
  refine c_iconst rfl vi_0 ?_
  refine e_istore_n (L2 := [some (.ref t), some (.int a1), some (.int (0 : Int32)), some (.int (0 : Int32))]) rfl rfl rfl rfl ?_
  refine kl_X6_liked_4 h_t (fun z9 h => ?_) _ _ _ h
  refine c_iload_n rfl rfl ?_
  have h := zk_r1 h
  subst h
  exact c_ireturn rfl rfl rfl
def l_X3_findLiked_2  (K : zk_I → Option (zk_I)) : Nat → Int32 → zk_I → Option (zk_I)
  | 0, _, _ => none
  | n + 1, y1, Iy => (if (Iy 3 0) ≤ y1 then (
    K Iy) else (
    zk_bd1 (f_X6_liked Iy 3 y1) (fun (r3 : Int32) =>
     zk_ck (zk_in y1 8) (
      zk_lt (zk_sc Iy 64 (upd (Iy 64) y1.toNatClampNeg r3)) (fun (I5 : zk_I) =>
       l_X3_findLiked_2 K n (y1 + (1 : Int32)) I5)))))
def f_X3_findLiked (I : zk_I) : Option (zk_I) := l_X3_findLiked_2 (fun (I6 : zk_I) =>
  some I6) 3000 (0 : Int32) I
set_option maxRecDepth 20000 in
theorem kl_X3_findLiked_2 {X : zk_X} {J : zk_J} {K : zk_I → Option (zk_I)} {IR : zk_I} (jK : ∀ (Iz : zk_I), K Iz = some IR → zC X 4 m_X3_findLiked 33 [none, none] [] (z_Z, Iz, J) 0 0 none (z_Z, IR, J)) : ∀ (n : Nat) (y1 : Int32) (Iy : zk_I), l_X3_findLiked_2 K n y1 Iy = some IR → zC X 4 m_X3_findLiked 2 [some (.ref 63), some (.int y1)] [] (z_Z, Iy, J) 0 0 none (z_Z, IR, J) := by
  intro n
  induction n with
  | zero =>
    intro y1 Iy h
    cases h
  | succ n ih =>
    intro y1 Iy h
    rw [l_X3_findLiked_2] at h
    refine c_iload_n rfl rfl ?_
    refine c_aload_n rfl rfl ?_
    refine c_getR rfl fk_X3_31 rfl (Nat.le_of_ble_eq_true rfl) rfl ?_
    refine c_getI rfl fk_X3_65 rfl (Nat.le_of_ble_eq_true rfl) ?_
    refine c_icmp_ge rfl (fun q1 => ?_) (fun q1 => ?_)
    · rw [if_pos q1] at h
      refine c_drop [false, false] (L2 := [none, none]) rfl ?_
      exact jK _ h
    · rw [if_neg q1] at h
      refine c_aload_n rfl rfl ?_
      refine c_getR rfl fk_X3_9 rfl (Nat.le_of_ble_eq_true rfl) rfl ?_
      refine c_iload_n rfl rfl ?_
      refine c_aload_n rfl rfl ?_
      refine c_getR rfl fk_X3_31 rfl (Nat.le_of_ble_eq_true rfl) rfl ?_
      refine c_iload_n rfl rfl ?_
      obtain ⟨r3, h2, h⟩ := zk_bd1_e h
      refine e_callV (As := [.int y1]) (st := [.int y1, .ref 64]) rfl lk_X3_120 rfl (Nat.le_of_ble_eq_true rfl) rfl rfl rfl (Nat.le_of_ble_eq_true rfl) rfl (k_X6_liked (rfl : z_isT 3 = true) h2) ?_
      obtain ⟨q4, h⟩ := zk_ck_e h
      refine e_iast rfl rfl (Nat.le_of_ble_eq_true rfl) q4 rfl ?_
      obtain ⟨I5, hI5, h⟩ := zk_lt_g h
      refine c_memI hI5 ?_
      refine e_iinc (L2 := [some (.ref 63), some (.int (y1 + (1 : Int32)))]) rfl rfl vi_1 rfl rfl rfl ?_
      refine c_goto rfl ?_
      exact ih _ _ h
set_option maxRecDepth 20000 in
theorem k_X3_findLiked {X : zk_X} {I : zk_I} {J : zk_J} {IR : zk_I} (h : f_X3_findLiked I = some IR) : zC X 4 m_X3_findLiked 0 (zk_ent [.ref 63] 2) [] (z_Z, I, J) 0 0 none (z_Z, IR, J) := by
  unfold f_X3_findLiked at h
  refine c_ent (L2 := [some (.ref 63), none]) rfl ?_
  refine c_iconst rfl vi_0 ?_
  refine e_istore_n (L2 := [some (.ref 63), some (.int (0 : Int32))]) rfl rfl rfl rfl ?_
  refine kl_X3_findLiked_2 (fun I6 h => ?_) _ _ _ h
  have h := zk_r1 h
  subst h
  exact c_return rfl rfl
def f_J6_bitCount_0f7a4 (a1 : Int32) : Int32 := zk_lt (a1 - ((a1.toUInt32 >>> ((1 : Int32).toUInt32 &&& Int32.toUInt32 31)).toInt32 &&& (1431655765 : Int32))) (fun (x1 : Int32) =>
  zk_lt ((x1 &&& (858993459 : Int32)) + ((x1.toUInt32 >>> ((2 : Int32).toUInt32 &&& Int32.toUInt32 31)).toInt32 &&& (858993459 : Int32))) (fun (x2 : Int32) =>
   zk_lt ((x2 + (x2.toUInt32 >>> ((4 : Int32).toUInt32 &&& Int32.toUInt32 31)).toInt32) &&& (252645135 : Int32)) (fun (x3 : Int32) =>
    zk_lt (x3 + (x3.toUInt32 >>> ((8 : Int32).toUInt32 &&& Int32.toUInt32 31)).toInt32) (fun (x4 : Int32) =>
     zk_lt (x4 + (x4.toUInt32 >>> ((16 : Int32).toUInt32 &&& Int32.toUInt32 31)).toInt32) (fun (x5 : Int32) =>
      (x5 &&& (63 : Int32)))))))
set_option maxRecDepth 20000 in
theorem k_J6_bitCount_0f7a4 {X : zk_X} {I : zk_I} {J : zk_J} {a1 : Int32} {r : Int32} (h : f_J6_bitCount_0f7a4 a1 = r) : zC X 1 m_J6_bitCount_0f7a4 0 (zk_ent [.int a1] 1) [] (z_Z, I, J) 0 0 (some (.int r)) (z_Z, I, J) := by
  unfold f_J6_bitCount_0f7a4 at h
  refine c_ent (L2 := [some (.int a1)]) rfl ?_
  refine c_iload_n rfl rfl ?_
  refine c_iload_n rfl rfl ?_
  refine c_iconst rfl vi_1 ?_
  refine c_iushr rfl ?_
  refine c_ldcw rfl vc_J6_265 ?_
  refine c_iand rfl ?_
  refine c_isub rfl ?_
  obtain ⟨x1, hx1, h⟩ := zk_lt_g h
  refine c_topi hx1 ?_
  refine e_istore_n (L2 := [some (.int x1)]) rfl rfl rfl rfl ?_
  refine c_iload_n rfl rfl ?_
  refine c_ldcw rfl vc_J6_266 ?_
  refine c_iand rfl ?_
  refine c_iload_n rfl rfl ?_
  refine c_iconst rfl vi_2 ?_
  refine c_iushr rfl ?_
  refine c_ldcw rfl vc_J6_266 ?_
  refine c_iand rfl ?_
  refine c_iadd rfl ?_
  obtain ⟨x2, hx2, h⟩ := zk_lt_g h
  refine c_topi hx2 ?_
  refine e_istore_n (L2 := [some (.int x2)]) rfl rfl rfl rfl ?_
  refine c_iload_n rfl rfl ?_
  refine c_iload_n rfl rfl ?_
  refine c_iconst rfl vi_4 ?_
  refine c_iushr rfl ?_
  refine c_iadd rfl ?_
  refine c_ldcw rfl vc_J6_267 ?_
  refine c_iand rfl ?_
  obtain ⟨x3, hx3, h⟩ := zk_lt_g h
  refine c_topi hx3 ?_
  refine e_istore_n (L2 := [some (.int x3)]) rfl rfl rfl rfl ?_
  refine c_iload_n rfl rfl ?_
  refine c_iload_n rfl rfl ?_
  refine c_bipush rfl vb_8 ?_
  refine c_iushr rfl ?_
  refine c_iadd rfl ?_
  obtain ⟨x4, hx4, h⟩ := zk_lt_g h
  refine c_topi hx4 ?_
  refine e_istore_n (L2 := [some (.int x4)]) rfl rfl rfl rfl ?_
  refine c_iload_n rfl rfl ?_
  refine c_iload_n rfl rfl ?_
  refine c_bipush rfl vb_16 ?_
  refine c_iushr rfl ?_
  refine c_iadd rfl ?_
  obtain ⟨x5, hx5, h⟩ := zk_lt_g h
  refine c_topi hx5 ?_
  refine e_istore_n (L2 := [some (.int x5)]) rfl rfl rfl rfl ?_
  refine c_iload_n rfl rfl ?_
  refine c_bipush rfl vb_63 ?_
  refine c_iand rfl ?_
  subst h
  exact c_ireturn rfl rfl rfl
def f_X3_namingsTo (I : zk_I) (a1 : Int32) : Int32 := zk_lt (f_J6_bitCount_0f7a4 a1) (fun (r2 : Int32) =>
  zk_lt (f_J6_bitCount_0f7a4 (I 63 8)) (fun (r4 : Int32) =>
   (r2 - r4)))
set_option maxRecDepth 20000 in
theorem k_X3_namingsTo {X : zk_X} {I : zk_I} {J : zk_J} {a1 : Int32} {r : Int32} (h : f_X3_namingsTo I a1 = r) : zC X 2 m_X3_namingsTo 0 (zk_ent [.ref 63, .int a1] 2) [] (z_Z, I, J) 0 0 (some (.int r)) (z_Z, I, J) := by
  unfold f_X3_namingsTo at h
  refine c_ent (L2 := [some (.ref 63), some (.int a1)]) rfl ?_
  refine c_iload_n rfl rfl ?_
  obtain ⟨r2, h1, h⟩ := zk_lt_g h
  refine e_callS (As := [.int a1]) (st := []) rfl lk_X3_136 rfl rfl rfl (Nat.le_of_ble_eq_true rfl) rfl (k_J6_bitCount_0f7a4 h1.symm) ?_
  refine c_aload_n rfl rfl ?_
  refine c_getI rfl fk_X3_43 rfl (Nat.le_of_ble_eq_true rfl) ?_
  obtain ⟨r4, h3, h⟩ := zk_lt_g h
  refine e_callS (As := [.int (I 63 8)]) (st := [.int r2]) rfl lk_X3_136 rfl rfl rfl (Nat.le_of_ble_eq_true rfl) rfl (k_J6_bitCount_0f7a4 h3.symm) ?_
  refine c_isub rfl ?_
  subst h
  exact c_ireturn rfl rfl rfl
def l_X6_stillHere_4 (I : zk_I) (t : Nat) (p1 : Int32) (K : Int32 → Option (Int32)) : Nat → Int32 → Int32 → Option (Int32)
  | 0, _, _ => none
  | n + 1, y2, y3 => (if (I t 0) ≤ y3 then (
    K y2) else (
    zk_ck (zk_in y3 8) (
     zk_jp1 (fun (v4 : Int32) =>
      l_X6_stillHere_4 I t p1 K n v4 (y3 + (1 : Int32))) (fun (K5 : Int32 → Option (Int32)) =>
      zk_jp0 (zk_lt (y2 ||| ((1 : Int32) <<< (y3 &&& 31))) (fun (x7 : Int32) =>
        K5 x7)) (fun (K6 : Option (Int32)) =>
       (if (I (t + 4) y3.toNatClampNeg) = (99 : Int32) then (
        K6) else (
        zk_ck (zk_in y3 8) (
         (if (I (t + 4) y3.toNatClampNeg) ≤ p1 then (
          K5 y2) else (
          K6))))))))))
def f_X6_stillHere (I : zk_I) (t : Nat) (a1 : Int32) : Option (Int32) := l_X6_stillHere_4 I t a1 (fun (z10 : Int32) =>
  some z10) 3000 (0 : Int32) (0 : Int32)
set_option maxRecDepth 20000 in
theorem kl_X6_stillHere_4 {X : zk_X} {I : zk_I} {t : Nat} {p1 : Int32} {J : zk_J} {K : Int32 → Option (Int32)} {r : Int32} (h_t : z_isT t = true) (jK : ∀ (z2 : Int32), K z2 = some r → zC X 1 m_X6_stillHere 45 [none, none, some (.int z2), none] [] (z_Z, I, J) 0 0 (some (.int r)) (z_Z, I, J)) : ∀ (n : Nat) (y2 : Int32) (y3 : Int32), l_X6_stillHere_4 I t p1 K n y2 y3 = some r → zC X 1 m_X6_stillHere 4 [some (.ref t), some (.int p1), some (.int y2), some (.int y3)] [] (z_Z, I, J) 0 0 (some (.int r)) (z_Z, I, J) := by
  intro n
  induction n with
  | zero =>
    intro y2 y3 h
    cases h
  | succ n ih =>
    intro y2 y3 h
    rw [l_X6_stillHere_4] at h
    refine c_iload_n rfl rfl ?_
    refine c_aload_n rfl rfl ?_
    refine c_getI rfl fk_X6_27 (zT_S h_t) (zT_z h_t) ?_
    refine c_icmp_ge rfl (fun q1 => ?_) (fun q1 => ?_)
    · rw [if_pos q1] at h
      refine c_drop [false, false, true, false] (L2 := [none, none, some (.int y2), none]) rfl ?_
      exact jK _ h
    · rw [if_neg q1] at h
      refine c_aload_n rfl rfl ?_
      refine c_getR rfl fk_X6_21 (zT_S h_t) (zT_z h_t) (zT_r5 h_t) ?_
      refine c_iload_n rfl rfl ?_
      obtain ⟨q2, h⟩ := zk_ck_e h
      refine e_iald rfl (zT_a4 h_t) (zT_z4 h_t) q2 rfl ?_
      refine c_bipush rfl vb_99 ?_
      refine zk_jp1_e (Z := fun (v4 : Int32) => zC X 1 m_X6_stillHere 39 [some (.ref t), some (.int p1), some (.int v4), some (.int y3)] [] (z_Z, I, J) 0 0 (some (.int r)) (z_Z, I, J)) h (fun v4 h => ?_) (fun K5 jK5 h => ?_)
      · refine e_iinc (L2 := [some (.ref t), some (.int p1), some (.int v4), some (.int (y3 + (1 : Int32)))]) rfl rfl vi_1 rfl rfl rfl ?_
        refine c_goto rfl ?_
        exact ih _ _ h
      · refine zk_jp0_e (Z := zC X 1 m_X6_stillHere 33 [some (.ref t), some (.int p1), some (.int y2), some (.int y3)] [] (z_Z, I, J) 0 0 (some (.int r)) (z_Z, I, J)) h (fun h => ?_) (fun K6 jK6 h => ?_)
        · refine c_iload_n rfl rfl ?_
          refine c_iconst rfl vi_1 ?_
          refine c_iload_n rfl rfl ?_
          refine c_ishl rfl ?_
          refine c_ior rfl ?_
          obtain ⟨x7, hx7, h⟩ := zk_lt_g h
          refine c_topi hx7 ?_
          refine e_istore_n (L2 := [some (.ref t), some (.int p1), some (.int x7), some (.int y3)]) rfl rfl rfl rfl ?_
          exact jK5 _ h
        · refine c_icmp_eq rfl (fun q3 => ?_) (fun q3 => ?_)
          · rw [if_pos q3] at h
            exact jK6 h
          · rw [if_neg q3] at h
            refine c_aload_n rfl rfl ?_
            refine c_getR rfl fk_X6_21 (zT_S h_t) (zT_z h_t) (zT_r5 h_t) ?_
            refine c_iload_n rfl rfl ?_
            obtain ⟨q8, h⟩ := zk_ck_e h
            refine e_iald rfl (zT_a4 h_t) (zT_z4 h_t) q8 rfl ?_
            refine c_iload_n rfl rfl ?_
            refine c_icmp_le rfl (fun q9 => ?_) (fun q9 => ?_)
            · rw [if_pos q9] at h
              exact jK5 _ h
            · rw [if_neg q9] at h
              exact jK6 h
set_option maxRecDepth 20000 in
theorem k_X6_stillHere {X : zk_X} {I : zk_I} {J : zk_J} {t : Nat} {a1 : Int32} {r : Int32} (h_t : z_isT t = true) (h : f_X6_stillHere I t a1 = some r) : zC X 1 m_X6_stillHere 0 (zk_ent [.ref t, .int a1] 4) [] (z_Z, I, J) 0 0 (some (.int r)) (z_Z, I, J) := by
  unfold f_X6_stillHere at h
  refine c_ent (L2 := [some (.ref t), some (.int a1), none, none]) rfl ?_
  refine c_iconst rfl vi_0 ?_
  refine e_istore_n (L2 := [some (.ref t), some (.int a1), some (.int (0 : Int32)), none]) rfl rfl rfl rfl ?_
  refine c_iconst rfl vi_0 ?_
  refine e_istore_n (L2 := [some (.ref t), some (.int a1), some (.int (0 : Int32)), some (.int (0 : Int32))]) rfl rfl rfl rfl ?_
  refine kl_X6_stillHere_4 h_t (fun z10 h => ?_) _ _ _ h
  refine c_iload_n rfl rfl ?_
  have h := zk_r1 h
  subst h
  exact c_ireturn rfl rfl rfl
def l_X3_begin_26  (K : zk_I → Option (zk_I)) : Nat → Int32 → zk_I → Option (zk_I)
  | 0, _, _ => none
  | n + 1, y3, Iy => (if (8 : Int32) ≤ y3 then (
    K Iy) else (
    zk_bd1 (f_X6_stillHere Iy 3 ((Iy 16 0) + y3)) (fun (r9 : Int32) =>
     zk_ck (zk_in y3 8) (
      zk_lt (zk_sc Iy 65 (upd (Iy 65) y3.toNatClampNeg r9)) (fun (I11 : zk_I) =>
       l_X3_begin_26 K n (y3 + (1 : Int32)) I11)))))
def l_X3_begin_62  (K : zk_I → Option (zk_I)) : Nat → Int32 → zk_I → Option (zk_I)
  | 0, _, _ => none
  | n + 1, y3, Iy => zk_lt (f_X3_everybody Iy) (fun (r14 : Int32) =>
    (if r14 < y3 then (
     K Iy) else (
     zk_lt (f_X3_namingsTo Iy y3) (fun (r17 : Int32) =>
      zk_jp1 (fun (v19 : Int32) =>
       zk_jp1 (fun (v22 : Int32) =>
        zk_ck (zk_in y3 256) (
         zk_lt (zk_sc Iy 66 (upd (Iy 66) y3.toNatClampNeg v22)) (fun (I25 : zk_I) =>
          l_X3_begin_62 K n (y3 + (1 : Int32)) I25))) (fun (K23 : Int32 → Option (zk_I)) =>
        (if v19 = 0 then (
         K23 (0 : Int32)) else (
         zk_ck (zk_in r17 8) (
          K23 ((Iy 65 r17.toNatClampNeg) &&& (y3 ^^^ (-1 : Int32)))))))) (fun (K20 : Int32 → Option (zk_I)) =>
       zk_jp0 (K20 (0 : Int32)) (fun (K27 : Option (zk_I)) =>
        (if (y3 &&& (Iy 63 8)) = (Iy 63 8) then (
         (if (8 : Int32) ≤ r17 then (
          K27) else (
          K20 (1 : Int32)))) else (
         K27))))))))
def f_X3_begin (I : zk_I) (a2 : Int32) : Option (zk_I) := zk_ck (zk_in a2 4) (
  zk_lt (zk_sc I 63 (upd (I 63) 8 (I 18 a2.toNatClampNeg))) (fun (I2 : zk_I) =>
   zk_ck (zk_in a2 4) (
    zk_lt (zk_sc I2 63 (upd (I2 63) 9 (I2 17 a2.toNatClampNeg))) (fun (I4 : zk_I) =>
     zk_bd1 (f_X3_findLiked I4) (fun (I6 : zk_I) =>
      l_X3_begin_26 (fun (I12 : zk_I) =>
       l_X3_begin_62 (fun (I29 : zk_I) =>
        some I29) 3000 (I12 63 8) I12) 3000 (0 : Int32) I6)))))
set_option maxRecDepth 20000 in
theorem kl_X3_begin_26 {X : zk_X} {J : zk_J} {K : zk_I → Option (zk_I)} {IR : zk_I} (jK : ∀ (Iz : zk_I), K Iz = some IR → zC X 5 m_X3_begin 57 [some (.ref 63), none, none, none, none, none] [] (z_Z, Iz, J) 0 0 none (z_Z, IR, J)) : ∀ (n : Nat) (y3 : Int32) (Iy : zk_I), l_X3_begin_26 K n y3 Iy = some IR → zC X 5 m_X3_begin 26 [some (.ref 63), some (.ref 16), none, some (.int y3), none, none] [] (z_Z, Iy, J) 0 0 none (z_Z, IR, J) := by
  intro n
  induction n with
  | zero =>
    intro y3 Iy h
    cases h
  | succ n ih =>
    intro y3 Iy h
    rw [l_X3_begin_26] at h
    refine c_iload_n rfl rfl ?_
    refine c_bipush rfl vb_8 ?_
    refine c_icmp_ge rfl (fun q7 => ?_) (fun q7 => ?_)
    · rw [if_pos q7] at h
      refine c_drop [true, false, true, false, true, true] (L2 := [some (.ref 63), none, none, none, none, none]) rfl ?_
      exact jK _ h
    · rw [if_neg q7] at h
      refine c_aload_n rfl rfl ?_
      refine c_getR rfl fk_X3_15 rfl (Nat.le_of_ble_eq_true rfl) rfl ?_
      refine c_iload_n rfl rfl ?_
      refine c_aload_n rfl rfl ?_
      refine c_getR rfl fk_X3_31 rfl (Nat.le_of_ble_eq_true rfl) rfl ?_
      refine c_aload_n rfl rfl ?_
      refine c_getI rfl fk_X3_117 rfl (Nat.le_of_ble_eq_true rfl) ?_
      refine c_iload_n rfl rfl ?_
      refine c_iadd rfl ?_
      obtain ⟨r9, h8, h⟩ := zk_bd1_e h
      refine e_callV (As := [.int ((Iy 16 0) + y3)]) (st := [.int y3, .ref 65]) rfl lk_X3_102 rfl (Nat.le_of_ble_eq_true rfl) rfl rfl rfl (Nat.le_of_ble_eq_true rfl) rfl (k_X6_stillHere (rfl : z_isT 3 = true) h8) ?_
      obtain ⟨q10, h⟩ := zk_ck_e h
      refine e_iast rfl rfl (Nat.le_of_ble_eq_true rfl) q10 rfl ?_
      obtain ⟨I11, hI11, h⟩ := zk_lt_g h
      refine c_memI hI11 ?_
      refine e_iinc (L2 := [some (.ref 63), some (.ref 16), none, some (.int (y3 + (1 : Int32))), none, none]) rfl rfl vi_1 rfl rfl rfl ?_
      refine c_goto rfl ?_
      exact ih _ _ h
set_option maxRecDepth 20000 in
theorem kl_X3_begin_62 {X : zk_X} {J : zk_J} {K : zk_I → Option (zk_I)} {IR : zk_I} (jK : ∀ (Iz : zk_I), K Iz = some IR → zC X 5 m_X3_begin 136 [none, none, none, none, none, none] [] (z_Z, Iz, J) 0 0 none (z_Z, IR, J)) : ∀ (n : Nat) (y3 : Int32) (Iy : zk_I), l_X3_begin_62 K n y3 Iy = some IR → zC X 5 m_X3_begin 62 [some (.ref 63), none, none, some (.int y3), none, none] [] (z_Z, Iy, J) 0 0 none (z_Z, IR, J) := by
  intro n
  induction n with
  | zero =>
    intro y3 Iy h
    cases h
  | succ n ih =>
    intro y3 Iy h
    rw [l_X3_begin_62] at h
    refine c_iload_n rfl rfl ?_
    refine c_aload_n rfl rfl ?_
    obtain ⟨r14, h13, h⟩ := zk_lt_g h
    refine e_callV (As := []) (st := [.int y3]) rfl lk_X3_88 rfl (Nat.le_of_ble_eq_true rfl) rfl rfl rfl (Nat.le_of_ble_eq_true rfl) rfl (k_X3_everybody h13.symm) ?_
    refine c_icmp_gt rfl (fun q15 => ?_) (fun q15 => ?_)
    · rw [if_pos q15] at h
      refine c_drop [false, true, true, false, true, true] (L2 := [none, none, none, none, none, none]) rfl ?_
      exact jK _ h
    · rw [if_neg q15] at h
      refine c_aload_n rfl rfl ?_
      refine c_iload_n rfl rfl ?_
      obtain ⟨r17, h16, h⟩ := zk_lt_g h
      refine e_callV (As := [.int y3]) (st := []) rfl lk_X3_92 rfl (Nat.le_of_ble_eq_true rfl) rfl rfl rfl (Nat.le_of_ble_eq_true rfl) rfl (k_X3_namingsTo h16.symm) ?_
      refine e_istore (L2 := [some (.ref 63), none, none, some (.int y3), some (.int r17), none]) rfl rfl rfl rfl ?_
      refine c_iload_n rfl rfl ?_
      refine c_aload_n rfl rfl ?_
      refine c_getI rfl fk_X3_43 rfl (Nat.le_of_ble_eq_true rfl) ?_
      refine c_iand rfl ?_
      refine c_aload_n rfl rfl ?_
      refine c_getI rfl fk_X3_43 rfl (Nat.le_of_ble_eq_true rfl) ?_
      refine zk_jp1_e (Z := fun (v19 : Int32) => zC X 5 m_X3_begin 102 [some (.ref 63), none, none, some (.int y3), some (.int r17), none] [.int v19] (z_Z, Iy, J) 0 0 none (z_Z, IR, J)) h (fun v19 h => ?_) (fun K20 jK20 h => ?_)
      · refine e_istore (L2 := [some (.ref 63), none, none, some (.int y3), some (.int r17), some (.int v19)]) rfl rfl rfl rfl ?_
        refine c_aload_n rfl rfl ?_
        refine c_getR rfl fk_X3_18 rfl (Nat.le_of_ble_eq_true rfl) rfl ?_
        refine c_iload_n rfl rfl ?_
        refine c_iload rfl rfl ?_
        refine zk_jp1_e (Z := fun (v22 : Int32) => zC X 5 m_X3_begin 129 [some (.ref 63), none, none, some (.int y3), none, none] [.int v22, .int y3, .ref 66] (z_Z, Iy, J) 0 0 none (z_Z, IR, J)) h (fun v22 h => ?_) (fun K23 jK23 h => ?_)
        · obtain ⟨q24, h⟩ := zk_ck_e h
          refine e_iast rfl rfl (Nat.le_of_ble_eq_true rfl) q24 rfl ?_
          obtain ⟨I25, hI25, h⟩ := zk_lt_g h
          refine c_memI hI25 ?_
          refine e_iinc (L2 := [some (.ref 63), none, none, some (.int (y3 + (1 : Int32))), none, none]) rfl rfl vi_1 rfl rfl rfl ?_
          refine c_goto rfl ?_
          exact ih _ _ h
        · refine c_if_eq rfl (fun q21 => ?_) (fun q21 => ?_)
          · rw [if_pos q21] at h
            refine c_iconst rfl vi_0 ?_
            refine c_drop [true, true, true, true, false, false] (L2 := [some (.ref 63), none, none, some (.int y3), none, none]) rfl ?_
            exact jK23 _ h
          · rw [if_neg q21] at h
            refine c_aload_n rfl rfl ?_
            refine c_getR rfl fk_X3_15 rfl (Nat.le_of_ble_eq_true rfl) rfl ?_
            refine c_iload rfl rfl ?_
            obtain ⟨q26, h⟩ := zk_ck_e h
            refine e_iald rfl rfl (Nat.le_of_ble_eq_true rfl) q26 rfl ?_
            refine c_iload_n rfl rfl ?_
            refine c_iconst rfl vi_m1 ?_
            refine c_ixor rfl ?_
            refine c_iand rfl ?_
            refine c_goto rfl ?_
            refine c_drop [true, true, true, true, false, false] (L2 := [some (.ref 63), none, none, some (.int y3), none, none]) rfl ?_
            exact jK23 _ h
      · refine zk_jp0_e (Z := zC X 5 m_X3_begin 101 [some (.ref 63), none, none, some (.int y3), some (.int r17), none] [] (z_Z, Iy, J) 0 0 none (z_Z, IR, J)) h (fun h => ?_) (fun K27 jK27 h => ?_)
        · refine c_iconst rfl vi_0 ?_
          exact jK20 _ h
        · refine c_icmp_ne rfl (fun q18 => ?_) (fun q18 => ?_)
          · rw [if_neg q18] at h
            exact jK27 h
          · rw [if_pos q18] at h
            refine c_iload rfl rfl ?_
            refine c_bipush rfl vb_8 ?_
            refine c_icmp_ge rfl (fun q28 => ?_) (fun q28 => ?_)
            · rw [if_pos q28] at h
              exact jK27 h
            · rw [if_neg q28] at h
              refine c_iconst rfl vi_1 ?_
              refine c_goto rfl ?_
              exact jK20 _ h
set_option maxRecDepth 20000 in
theorem k_X3_begin {X : zk_X} {I : zk_I} {J : zk_J} {a2 : Int32} {IR : zk_I} (h : f_X3_begin I a2 = some IR) : zC X 5 m_X3_begin 0 (zk_ent [.ref 63, .ref 16, .int a2] 6) [] (z_Z, I, J) 0 0 none (z_Z, IR, J) := by
  unfold f_X3_begin at h
  refine c_ent (L2 := [some (.ref 63), some (.ref 16), some (.int a2), none, none, none]) rfl ?_
  refine c_aload_n rfl rfl ?_
  refine c_aload_n rfl rfl ?_
  refine c_getR rfl fk_X3_109 rfl (Nat.le_of_ble_eq_true rfl) rfl ?_
  refine c_iload_n rfl rfl ?_
  obtain ⟨q1, h⟩ := zk_ck_e h
  refine e_iald rfl rfl (Nat.le_of_ble_eq_true rfl) q1 rfl ?_
  refine c_putI rfl fk_X3_43 rfl rfl (Nat.le_of_ble_eq_true rfl) ?_
  obtain ⟨I2, hI2, h⟩ := zk_lt_g h
  refine c_memI hI2 ?_
  refine c_aload_n rfl rfl ?_
  refine c_aload_n rfl rfl ?_
  refine c_getR rfl fk_X3_114 rfl (Nat.le_of_ble_eq_true rfl) rfl ?_
  refine c_iload_n rfl rfl ?_
  obtain ⟨q3, h⟩ := zk_ck_e h
  refine e_iald rfl rfl (Nat.le_of_ble_eq_true rfl) q3 rfl ?_
  refine c_putI rfl fk_X3_47 rfl rfl (Nat.le_of_ble_eq_true rfl) ?_
  obtain ⟨I4, hI4, h⟩ := zk_lt_g h
  refine c_memI hI4 ?_
  refine c_aload_n rfl rfl ?_
  obtain ⟨I6, h5, h⟩ := zk_bd1_e h
  refine e_callV (As := []) (st := []) rfl lk_X3_99 rfl (Nat.le_of_ble_eq_true rfl) rfl rfl rfl (Nat.le_of_ble_eq_true rfl) rfl (k_X3_findLiked h5) ?_
  refine c_iconst rfl vi_0 ?_
  refine e_istore_n (L2 := [some (.ref 63), some (.ref 16), some (.int a2), some (.int (0 : Int32)), none, none]) rfl rfl rfl rfl ?_
  refine c_drop [true, true, false, true, true, true] (L2 := [some (.ref 63), some (.ref 16), none, some (.int (0 : Int32)), none, none]) rfl ?_
  refine kl_X3_begin_26 (fun I12 h => ?_) _ _ _ h
  refine c_aload_n rfl rfl ?_
  refine c_getI rfl fk_X3_43 rfl (Nat.le_of_ble_eq_true rfl) ?_
  refine e_istore_n (L2 := [some (.ref 63), none, none, some (.int (I12 63 8)), none, none]) rfl rfl rfl rfl ?_
  refine kl_X3_begin_62 (fun I29 h => ?_) _ _ _ h
  have h := zk_r1 h
  subst h
  exact c_return rfl rfl
def f_X3_choicesOf (I : zk_I) (a1 : Int32) (a2 : Int32) : Option (Int32) := zk_ck (zk_in a2 8) (
  zk_ck (zk_in a1 256) (
   some ((I 64 a2.toNatClampNeg) &&& (I 66 a1.toNatClampNeg))))
set_option maxRecDepth 20000 in
theorem k_X3_choicesOf {X : zk_X} {I : zk_I} {J : zk_J} {a1 : Int32} {a2 : Int32} {r : Int32} (h : f_X3_choicesOf I a1 a2 = some r) : zC X 1 m_X3_choicesOf 0 (zk_ent [.ref 63, .int a1, .int a2] 3) [] (z_Z, I, J) 0 0 (some (.int r)) (z_Z, I, J) := by
  unfold f_X3_choicesOf at h
  refine c_ent (L2 := [some (.ref 63), some (.int a1), some (.int a2)]) rfl ?_
  refine c_aload_n rfl rfl ?_
  refine c_getR rfl fk_X3_9 rfl (Nat.le_of_ble_eq_true rfl) rfl ?_
  refine c_iload_n rfl rfl ?_
  obtain ⟨q1, h⟩ := zk_ck_e h
  refine e_iald rfl rfl (Nat.le_of_ble_eq_true rfl) q1 rfl ?_
  refine c_aload_n rfl rfl ?_
  refine c_getR rfl fk_X3_18 rfl (Nat.le_of_ble_eq_true rfl) rfl ?_
  refine c_iload_n rfl rfl ?_
  obtain ⟨q2, h⟩ := zk_ck_e h
  refine e_iald rfl rfl (Nat.le_of_ble_eq_true rfl) q2 rfl ?_
  refine c_iand rfl ?_
  have h := zk_r1 h
  subst h
  exact c_ireturn rfl rfl rfl
def f_X3_stateOf (a1 : Int32) (a2 : Int32) : Int32 := ((a1 * (8 : Int32)) + a2)
set_option maxRecDepth 20000 in
theorem k_X3_stateOf {X : zk_X} {I : zk_I} {J : zk_J} {a1 : Int32} {a2 : Int32} {r : Int32} (h : f_X3_stateOf a1 a2 = r) : zC X 1 m_X3_stateOf 0 (zk_ent [.int a1, .int a2] 2) [] (z_Z, I, J) 0 0 (some (.int r)) (z_Z, I, J) := by
  unfold f_X3_stateOf at h
  refine c_ent (L2 := [some (.int a1), some (.int a2)]) rfl ?_
  refine c_iload_n rfl rfl ?_
  refine c_bipush rfl vb_8 ?_
  refine c_imul rfl ?_
  refine c_iload_n rfl rfl ?_
  refine c_iadd rfl ?_
  subst h
  exact c_ireturn rfl rfl rfl
def f_X3_stateBehind (a1 : Int32) (a2 : Int32) : Int32 := zk_lt (f_X3_stateOf (a1 ||| ((1 : Int32) <<< (a2 &&& 31))) a2) (fun (r2 : Int32) =>
  r2)
set_option maxRecDepth 20000 in
theorem k_X3_stateBehind {X : zk_X} {I : zk_I} {J : zk_J} {a1 : Int32} {a2 : Int32} {r : Int32} (h : f_X3_stateBehind a1 a2 = r) : zC X 2 m_X3_stateBehind 0 (zk_ent [.int a1, .int a2] 2) [] (z_Z, I, J) 0 0 (some (.int r)) (z_Z, I, J) := by
  unfold f_X3_stateBehind at h
  refine c_ent (L2 := [some (.int a1), some (.int a2)]) rfl ?_
  refine c_iload_n rfl rfl ?_
  refine c_iconst rfl vi_1 ?_
  refine c_iload_n rfl rfl ?_
  refine c_ishl rfl ?_
  refine c_ior rfl ?_
  refine c_iload_n rfl rfl ?_
  obtain ⟨r2, h1, h⟩ := zk_lt_g h
  refine e_callS (As := [.int (a1 ||| ((1 : Int32) <<< (a2 &&& 31))), .int a2]) (st := []) rfl lk_X3_50 rfl rfl rfl (Nat.le_of_ble_eq_true rfl) rfl (k_X3_stateOf h1.symm) ?_
  subst h
  exact c_ireturn rfl rfl rfl
def l_X3_choicesOfLongest_22 (I : zk_I) (J : zk_J) (p1 : Int32) (p4 : Int64) (K : Int32 → Option (Int32)) : Nat → Int32 → Int32 → Option (Int32)
  | 0, _, _ => none
  | n + 1, y3, y6 => (if (I 3 0) ≤ y6 then (
    K y3) else (
    zk_lt (f_X7_hasBit y3 y6) (fun (r9 : Int32) =>
     zk_jp1 (fun (v11 : Int32) =>
      l_X3_choicesOfLongest_22 I J p1 p4 K n v11 (y6 + (1 : Int32))) (fun (K12 : Int32 → Option (Int32)) =>
      (if r9 = 0 then (
       K12 y3) else (
       zk_lt (f_X3_stateBehind p1 y6) (fun (r14 : Int32) =>
        zk_ck (zk_in r14 2048) (
         (if (lg_cmp ((J 68 r14.toNatClampNeg) + (1 : Int64)) p4) = 0 then (
          K12 y3) else (
          zk_lt (y3 &&& (((1 : Int32) <<< (y6 &&& 31)) ^^^ (-1 : Int32))) (fun (x17 : Int32) =>
           K12 x17)))))))))))
def f_X3_choicesOfLongest (I : zk_I) (J : zk_J) (a1 : Int32) (a2 : Int32) : Option (Int32) := zk_bd1 (f_X3_choicesOf I a1 a2) (fun (r2 : Int32) =>
  zk_lt (f_X3_stateOf a1 a2) (fun (r4 : Int32) =>
   zk_ck (zk_in r4 2048) (
    zk_lt (J 68 r4.toNatClampNeg) (fun (x6 : Int64) =>
     l_X3_choicesOfLongest_22 I J a1 x6 (fun (z18 : Int32) =>
      some z18) 3000 r2 (0 : Int32)))))
set_option maxRecDepth 20000 in
theorem kl_X3_choicesOfLongest_22 {X : zk_X} {I : zk_I} {J : zk_J} {p1 : Int32} {p4 : Int64} {K : Int32 → Option (Int32)} {r : Int32} (jK : ∀ (z3 : Int32), K z3 = some r → zC X 3 m_X3_choicesOfLongest 77 [none, none, none, some (.int z3), none, none, none] [] (z_Z, I, J) 0 0 (some (.int r)) (z_Z, I, J)) : ∀ (n : Nat) (y3 : Int32) (y6 : Int32), l_X3_choicesOfLongest_22 I J p1 p4 K n y3 y6 = some r → zC X 3 m_X3_choicesOfLongest 22 [some (.ref 63), some (.int p1), none, some (.int y3), some (.long p4), none, some (.int y6)] [] (z_Z, I, J) 0 0 (some (.int r)) (z_Z, I, J) := by
  intro n
  induction n with
  | zero =>
    intro y3 y6 h
    cases h
  | succ n ih =>
    intro y3 y6 h
    rw [l_X3_choicesOfLongest_22] at h
    refine c_iload rfl rfl ?_
    refine c_aload_n rfl rfl ?_
    refine c_getR rfl fk_X3_31 rfl (Nat.le_of_ble_eq_true rfl) rfl ?_
    refine c_getI rfl fk_X3_65 rfl (Nat.le_of_ble_eq_true rfl) ?_
    refine c_icmp_ge rfl (fun q7 => ?_) (fun q7 => ?_)
    · rw [if_pos q7] at h
      refine c_drop [false, false, true, true, false, true, false] (L2 := [none, none, none, some (.int y3), none, none, none]) rfl ?_
      exact jK _ h
    · rw [if_neg q7] at h
      refine c_iload_n rfl rfl ?_
      refine c_iload rfl rfl ?_
      obtain ⟨r9, h8, h⟩ := zk_lt_g h
      refine e_callSN (As := [.int y3, .int y6]) (st := []) rfl lk_X3_70 rfl rfl rfl (Nat.le_of_ble_eq_true rfl) rfl (k_X7_hasBit h8.symm) ?_
      refine zk_jp1_e (Z := fun (v11 : Int32) => zC X 3 m_X3_choicesOfLongest 71 [some (.ref 63), some (.int p1), none, some (.int v11), some (.long p4), none, some (.int y6)] [] (z_Z, I, J) 0 0 (some (.int r)) (z_Z, I, J)) h (fun v11 h => ?_) (fun K12 jK12 h => ?_)
      · refine e_iinc (L2 := [some (.ref 63), some (.int p1), none, some (.int v11), some (.long p4), none, some (.int (y6 + (1 : Int32)))]) rfl rfl vi_1 rfl rfl rfl ?_
        refine c_goto rfl ?_
        exact ih _ _ h
      · refine c_if_eq rfl (fun q10 => ?_) (fun q10 => ?_)
        · rw [if_pos q10] at h
          exact jK12 _ h
        · rw [if_neg q10] at h
          refine c_aload_n rfl rfl ?_
          refine c_getR rfl fk_X3_24 rfl (Nat.le_of_ble_eq_true rfl) rfl ?_
          refine c_iload_n rfl rfl ?_
          refine c_iload rfl rfl ?_
          obtain ⟨r14, h13, h⟩ := zk_lt_g h
          refine e_callS (As := [.int p1, .int y6]) (st := [.ref 68]) rfl lk_X3_74 rfl rfl rfl (Nat.le_of_ble_eq_true rfl) rfl (k_X3_stateBehind h13.symm) ?_
          obtain ⟨q15, h⟩ := zk_ck_e h
          refine e_lald rfl rfl (Nat.le_of_ble_eq_true rfl) q15 rfl ?_
          refine c_lconst rfl vl_1 ?_
          refine c_ladd rfl ?_
          refine c_lload rfl rfl ?_
          refine c_lcmp rfl ?_
          refine c_if_eq rfl (fun q16 => ?_) (fun q16 => ?_)
          · rw [if_pos q16] at h
            exact jK12 _ h
          · rw [if_neg q16] at h
            refine c_iload_n rfl rfl ?_
            refine c_iconst rfl vi_1 ?_
            refine c_iload rfl rfl ?_
            refine c_ishl rfl ?_
            refine c_iconst rfl vi_m1 ?_
            refine c_ixor rfl ?_
            refine c_iand rfl ?_
            obtain ⟨x17, hx17, h⟩ := zk_lt_g h
            refine c_topi hx17 ?_
            refine e_istore_n (L2 := [some (.ref 63), some (.int p1), none, some (.int x17), some (.long p4), none, some (.int y6)]) rfl rfl rfl rfl ?_
            exact jK12 _ h
set_option maxRecDepth 20000 in
theorem k_X3_choicesOfLongest {X : zk_X} {I : zk_I} {J : zk_J} {a1 : Int32} {a2 : Int32} {r : Int32} (h : f_X3_choicesOfLongest I J a1 a2 = some r) : zC X 3 m_X3_choicesOfLongest 0 (zk_ent [.ref 63, .int a1, .int a2] 7) [] (z_Z, I, J) 0 0 (some (.int r)) (z_Z, I, J) := by
  unfold f_X3_choicesOfLongest at h
  refine c_ent (L2 := [some (.ref 63), some (.int a1), some (.int a2), none, none, none, none]) rfl ?_
  refine c_aload_n rfl rfl ?_
  refine c_iload_n rfl rfl ?_
  refine c_iload_n rfl rfl ?_
  obtain ⟨r2, h1, h⟩ := zk_bd1_e h
  refine e_callV (As := [.int a1, .int a2]) (st := []) rfl lk_X3_62 rfl (Nat.le_of_ble_eq_true rfl) rfl rfl rfl (Nat.le_of_ble_eq_true rfl) rfl (k_X3_choicesOf h1) ?_
  refine e_istore_n (L2 := [some (.ref 63), some (.int a1), some (.int a2), some (.int r2), none, none, none]) rfl rfl rfl rfl ?_
  refine c_aload_n rfl rfl ?_
  refine c_getR rfl fk_X3_24 rfl (Nat.le_of_ble_eq_true rfl) rfl ?_
  refine c_iload_n rfl rfl ?_
  refine c_iload_n rfl rfl ?_
  obtain ⟨r4, h3, h⟩ := zk_lt_g h
  refine e_callS (As := [.int a1, .int a2]) (st := [.ref 68]) rfl lk_X3_50 rfl rfl rfl (Nat.le_of_ble_eq_true rfl) rfl (k_X3_stateOf h3.symm) ?_
  obtain ⟨q5, h⟩ := zk_ck_e h
  refine e_lald rfl rfl (Nat.le_of_ble_eq_true rfl) q5 rfl ?_
  obtain ⟨x6, hx6, h⟩ := zk_lt_g h
  refine c_topl hx6 ?_
  refine e_lstore (L2 := [some (.ref 63), some (.int a1), some (.int a2), some (.int r2), some (.long x6), none, none]) rfl rfl rfl rfl ?_
  refine c_iconst rfl vi_0 ?_
  refine e_istore (L2 := [some (.ref 63), some (.int a1), some (.int a2), some (.int r2), some (.long x6), none, some (.int (0 : Int32))]) rfl rfl rfl rfl ?_
  refine c_drop [true, true, false, true, true, true, true] (L2 := [some (.ref 63), some (.int a1), none, some (.int r2), some (.long x6), none, some (.int (0 : Int32))]) rfl ?_
  refine kl_X3_choicesOfLongest_22 (fun z18 h => ?_) _ _ _ h
  refine c_iload_n rfl rfl ?_
  have h := zk_r1 h
  subst h
  exact c_ireturn rfl rfl rfl
def f_X3_join (a1 : Int32) (a2 : Int64) (a3 : Int64) : Int64 := (if a1 = (1 : Int32) then (
  (a2 + a3)) else if a1 = (2 : Int32) then (
  (if a3 < a2 then a3 else a2)) else if a1 = (3 : Int32) then (
  (a2 ||| a3)) else if a1 = (4 : Int32) then (
  (a2 &&& a3)) else if a1 = (5 : Int32) then (
  (if a3 < a2 then a2 else a3)) else if a1 = (6 : Int32) then (
  (a2 + a3)) else if a1 = (7 : Int32) then (
  (a2 + a3)) else (
  (if a3 < a2 then a2 else a3)))
set_option maxRecDepth 20000 in
theorem k_X3_join {X : zk_X} {I : zk_I} {J : zk_J} {a1 : Int32} {a2 : Int64} {a3 : Int64} {r : Int64} (h : f_X3_join a1 a2 a3 = r) : zC X 1 m_X3_join 0 (zk_ent [.int a1, .long a2, .long a3] 5) [] (z_Z, I, J) 0 0 (some (.long r)) (z_Z, I, J) := by
  unfold f_X3_join at h
  refine c_ent (L2 := [some (.int a1), some (.long a2), none, some (.long a3), none]) rfl ?_
  refine c_iload_n rfl rfl ?_
  by_cases q1_1 : a1 = (1 : Int32)
  · rw [if_pos q1_1] at h
    refine c_topi q1_1.symm ?_
    refine c_swIn (off := 43) (tgt := 44) rfl (by decide) (by decide) (by decide +kernel) (by decide) ?_
    refine c_lload_n rfl rfl ?_
    refine c_lload_n rfl rfl ?_
    refine c_ladd rfl ?_
    subst h
    exact c_lreturn rfl rfl
  · rw [if_neg q1_1] at h
    by_cases q1_2 : a1 = (2 : Int32)
    · rw [if_pos q1_2] at h
      refine c_topi q1_2.symm ?_
      refine c_swIn (off := 55) (tgt := 56) rfl (by decide) (by decide) (by decide +kernel) (by decide) ?_
      refine c_lload_n rfl rfl ?_
      refine c_lload_n rfl rfl ?_
      refine c_mminl rfl lk_X3_151 (Nat.le_of_ble_eq_true rfl) (Nat.le_of_ble_eq_true rfl) ?_
      subst h
      exact c_lreturn rfl rfl
    · rw [if_neg q1_2] at h
      by_cases q1_3 : a1 = (3 : Int32)
      · rw [if_pos q1_3] at h
        refine c_topi q1_3.symm ?_
        refine c_swIn (off := 61) (tgt := 62) rfl (by decide) (by decide) (by decide +kernel) (by decide) ?_
        refine c_lload_n rfl rfl ?_
        refine c_lload_n rfl rfl ?_
        refine c_lor rfl ?_
        subst h
        exact c_lreturn rfl rfl
      · rw [if_neg q1_3] at h
        by_cases q1_4 : a1 = (4 : Int32)
        · rw [if_pos q1_4] at h
          refine c_topi q1_4.symm ?_
          refine c_swIn (off := 65) (tgt := 66) rfl (by decide) (by decide) (by decide +kernel) (by decide) ?_
          refine c_lload_n rfl rfl ?_
          refine c_lload_n rfl rfl ?_
          refine c_land rfl ?_
          subst h
          exact c_lreturn rfl rfl
        · rw [if_neg q1_4] at h
          by_cases q1_5 : a1 = (5 : Int32)
          · rw [if_pos q1_5] at h
            refine c_topi q1_5.symm ?_
            refine c_swIn (off := 69) (tgt := 70) rfl (by decide) (by decide) (by decide +kernel) (by decide) ?_
            refine c_lload_n rfl rfl ?_
            refine c_lload_n rfl rfl ?_
            refine c_mmaxl rfl lk_X3_157 (Nat.le_of_ble_eq_true rfl) (Nat.le_of_ble_eq_true rfl) ?_
            subst h
            exact c_lreturn rfl rfl
          · rw [if_neg q1_5] at h
            by_cases q1_6 : a1 = (6 : Int32)
            · rw [if_pos q1_6] at h
              refine c_topi q1_6.symm ?_
              refine c_swIn (off := 47) (tgt := 48) rfl (by decide) (by decide) (by decide +kernel) (by decide) ?_
              refine c_lload_n rfl rfl ?_
              refine c_lload_n rfl rfl ?_
              refine c_ladd rfl ?_
              subst h
              exact c_lreturn rfl rfl
            · rw [if_neg q1_6] at h
              by_cases q1_7 : a1 = (7 : Int32)
              · rw [if_pos q1_7] at h
                refine c_topi q1_7.symm ?_
                refine c_swIn (off := 51) (tgt := 52) rfl (by decide) (by decide) (by decide +kernel) (by decide) ?_
                refine c_lload_n rfl rfl ?_
                refine c_lload_n rfl rfl ?_
                refine c_ladd rfl ?_
                subst h
                exact c_lreturn rfl rfl
              · rw [if_neg q1_7] at h
                refine c_swOut (tgt := 70) rfl (by
                  have := lv_neT (a := 1) q1_1 (by decide)
                  have := lv_neT (a := 2) q1_2 (by decide)
                  have := lv_neT (a := 3) q1_3 (by decide)
                  have := lv_neT (a := 4) q1_4 (by decide)
                  have := lv_neT (a := 5) q1_5 (by decide)
                  have := lv_neT (a := 6) q1_6 (by decide)
                  have := lv_neT (a := 7) q1_7 (by decide)
                  omega) (by decide) ?_
                refine c_lload_n rfl rfl ?_
                refine c_lload_n rfl rfl ?_
                refine c_mmaxl rfl lk_X3_157 (Nat.le_of_ble_eq_true rfl) (Nat.le_of_ble_eq_true rfl) ?_
                subst h
                exact c_lreturn rfl rfl
def f_X3_lotsOf (a1 : Int32) : Option (Int64) := zk_jp0 (some (1 : Int64)) (fun (K2 : Option (Int64)) =>
  (if a1 < 0 then (
   K2) else (
   (if (8 : Int32) ≤ a1 then (
    K2) else (
    zk_ck (zk_in a1 8) (
     some (zk_lots a1.toNatClampNeg)))))))
set_option maxRecDepth 20000 in
theorem k_X3_lotsOf {X : zk_X} {I : zk_I} {J : zk_J} {a1 : Int32} {r : Int64} (h : f_X3_lotsOf a1 = some r) : zC X 1 m_X3_lotsOf 0 (zk_ent [.int a1] 1) [] (z_Z, I, J) 0 0 (some (.long r)) (z_Z, I, J) := by
  unfold f_X3_lotsOf at h
  refine c_ent (L2 := [some (.int a1)]) rfl ?_
  refine c_iload_n rfl rfl ?_
  refine zk_jp0_e (Z := zC X 1 m_X3_lotsOf 20 [none] [] (z_Z, I, J) 0 0 (some (.long r)) (z_Z, I, J)) h (fun h => ?_) (fun K2 jK2 h => ?_)
  · refine c_lconst rfl vl_1 ?_
    have h := zk_r1 h
    subst h
    exact c_lreturn rfl rfl
  · refine c_if_lt rfl (fun q1 => ?_) (fun q1 => ?_)
    · rw [if_pos q1] at h
      refine c_drop [false] (L2 := [none]) rfl ?_
      exact jK2 h
    · rw [if_neg q1] at h
      refine c_iload_n rfl rfl ?_
      refine c_getsLO rfl fk_X3_160 ?_
      refine c_alenLO (v := (8 : Int32)) rfl (by decide) ?_
      refine c_icmp_ge rfl (fun q3 => ?_) (fun q3 => ?_)
      · rw [if_pos q3] at h
        refine c_drop [false] (L2 := [none]) rfl ?_
        exact jK2 h
      · rw [if_neg q3] at h
        refine c_getsLO rfl fk_X3_160 ?_
        refine c_iload_n rfl rfl ?_
        obtain ⟨q4, h⟩ := zk_ck_e h
        refine c_laldLO rfl q4 ?_
        refine c_goto rfl ?_
        have h := zk_r1 h
        subst h
        exact c_lreturn rfl rfl
def f_X3_unread (I : zk_I) (a1 : Int32) : Int32 := zk_lt (f_J6_bitCount_0f7a4 a1) (fun (r2 : Int32) =>
  ((I 3 0) - r2))
set_option maxRecDepth 20000 in
theorem k_X3_unread {X : zk_X} {I : zk_I} {J : zk_J} {a1 : Int32} {r : Int32} (h : f_X3_unread I a1 = r) : zC X 2 m_X3_unread 0 (zk_ent [.ref 63, .int a1] 2) [] (z_Z, I, J) 0 0 (some (.int r)) (z_Z, I, J) := by
  unfold f_X3_unread at h
  refine c_ent (L2 := [some (.ref 63), some (.int a1)]) rfl ?_
  refine c_aload_n rfl rfl ?_
  refine c_getR rfl fk_X3_31 rfl (Nat.le_of_ble_eq_true rfl) rfl ?_
  refine c_getI rfl fk_X3_65 rfl (Nat.le_of_ble_eq_true rfl) ?_
  refine c_iload_n rfl rfl ?_
  obtain ⟨r2, h1, h⟩ := zk_lt_g h
  refine e_callS (As := [.int a1]) (st := [.int (I 3 0)]) rfl lk_X3_136 rfl rfl rfl (Nat.le_of_ble_eq_true rfl) rfl (k_J6_bitCount_0f7a4 h1.symm) ?_
  refine c_isub rfl ?_
  subst h
  exact c_ireturn rfl rfl rfl
def f_X3_shareOfLot (I : zk_I) (a1 : Int32) (a2 : Int32) : Option (Int64) := zk_lt (f_X3_unread I a1) (fun (r2 : Int32) =>
  zk_bd1 (f_X3_lotsOf (r2 - (1 : Int32))) (fun (r4 : Int64) =>
   (if (lg_cmp (r4 * a2.toInt64) (0 : Int64)) = 0 then (
    some (0 : Int64)) else (
    zk_lt (f_X3_unread I a1) (fun (r7 : Int32) =>
     zk_bd1 (f_X3_lotsOf r7) (fun (r9 : Int64) =>
      zk_ck (zk_nzl (r4 * a2.toInt64)) (
       some (r9 / (r4 * a2.toInt64)))))))))
set_option maxRecDepth 20000 in
theorem k_X3_shareOfLot {X : zk_X} {I : zk_I} {J : zk_J} {a1 : Int32} {a2 : Int32} {r : Int64} (h : f_X3_shareOfLot I a1 a2 = some r) : zC X 3 m_X3_shareOfLot 0 (zk_ent [.ref 63, .int a1, .int a2] 5) [] (z_Z, I, J) 0 0 (some (.long r)) (z_Z, I, J) := by
  unfold f_X3_shareOfLot at h
  refine c_ent (L2 := [some (.ref 63), some (.int a1), some (.int a2), none, none]) rfl ?_
  refine c_aload_n rfl rfl ?_
  refine c_iload_n rfl rfl ?_
  obtain ⟨r2, h1, h⟩ := zk_lt_g h
  refine e_callV (As := [.int a1]) (st := []) rfl lk_X3_54 rfl (Nat.le_of_ble_eq_true rfl) rfl rfl rfl (Nat.le_of_ble_eq_true rfl) rfl (k_X3_unread h1.symm) ?_
  refine c_iconst rfl vi_1 ?_
  refine c_isub rfl ?_
  obtain ⟨r4, h3, h⟩ := zk_bd1_e h
  refine e_callS (As := [.int (r2 - (1 : Int32))]) (st := []) rfl lk_X3_58 rfl rfl rfl (Nat.le_of_ble_eq_true rfl) rfl (k_X3_lotsOf h3) ?_
  refine c_iload_n rfl rfl ?_
  refine c_i2l rfl ?_
  refine c_lmul rfl ?_
  refine e_lstore_n (L2 := [some (.ref 63), some (.int a1), some (.int a2), some (.long (r4 * a2.toInt64)), none]) rfl rfl rfl rfl ?_
  refine c_lload_n rfl rfl ?_
  refine c_lconst rfl vl_0 ?_
  refine c_lcmp rfl ?_
  refine c_if_ne rfl (fun q5 => ?_) (fun q5 => ?_)
  · rw [if_neg q5] at h
    refine c_aload_n rfl rfl ?_
    refine c_iload_n rfl rfl ?_
    obtain ⟨r7, h6, h⟩ := zk_lt_g h
    refine e_callV (As := [.int a1]) (st := []) rfl lk_X3_54 rfl (Nat.le_of_ble_eq_true rfl) rfl rfl rfl (Nat.le_of_ble_eq_true rfl) rfl (k_X3_unread h6.symm) ?_
    obtain ⟨r9, h8, h⟩ := zk_bd1_e h
    refine e_callS (As := [.int r7]) (st := []) rfl lk_X3_58 rfl rfl rfl (Nat.le_of_ble_eq_true rfl) rfl (k_X3_lotsOf h8) ?_
    refine c_lload_n rfl rfl ?_
    obtain ⟨q10, h⟩ := zk_ck_e h
    refine c_ldiv rfl (zk_nzl_n q10) ?_
    have h := zk_r1 h
    subst h
    exact c_lreturn rfl rfl
  · rw [if_pos q5] at h
    refine c_lconst rfl vl_0 ?_
    refine c_goto rfl ?_
    have h := zk_r1 h
    subst h
    exact c_lreturn rfl rfl

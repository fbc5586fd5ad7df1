def f_X8_name (I : zk_I) (a1 : Int32) (a2 : Int32) : Option (Int32 × zk_I) := zk_bd1 (f_X8_isBook I a1) (fun (r2 : Int32) =>
  (if r2 = 0 then (
   some ((-2 : Int32), I)) else (
   zk_bd1 (f_X8_isReader I a2) (fun (r5 : Int32) =>
    (if r5 = 0 then (
     some ((-2 : Int32), I)) else (
     zk_bd1 (f_X8_namedNow I a1) (fun (r8 : Int32) =>
      (if ((r8 >>> (a2 &&& 31)) &&& (1 : Int32)) = 0 then (
       some ((-4 : Int32), I)) else (
       (if (I 80 0) = (999 : Int32) then (
        some ((-5 : Int32), I)) else (
        zk_bd1 (f_X8_keeps I) (fun (I12 : zk_I) =>
         zk_ck (zk_in ((2 : Int32) + a1) 14) (
          zk_lt (zk_sc I12 80 (upd (I12 80) ((2 : Int32) + a1).toNatClampNeg a2)) (fun (I14 : zk_I) =>
           zk_ck (zk_in ((6 : Int32) + a1) 14) (
            zk_ck (zk_in ((6 : Int32) + a1) 14) (
             zk_lt (zk_sc I14 80 (upd (I14 80) ((6 : Int32) + a1).toNatClampNeg ((I14 80 ((6 : Int32) + a1).toNatClampNeg) ||| ((1 : Int32) <<< (a2 &&& 31))))) (fun (I17 : zk_I) =>
              zk_ck (zk_in ((10 : Int32) + a1) 14) (
               zk_lt (zk_sc I17 80 (upd (I17 80) ((10 : Int32) + a1).toNatClampNeg (I17 80 0))) (fun (I19 : zk_I) =>
                zk_lt (zk_sc I19 80 (upd (I19 80) 1 ((I19 80 1) + (1 : Int32)))) (fun (I20 : zk_I) =>
                 zk_lt (zk_sc I20 80 (upd (I20 80) 0 ((I20 80 0) + (1 : Int32)))) (fun (I21 : zk_I) =>
                  zk_ck (zk_in ((6 : Int32) + a1) 14) (
                   zk_bd1 (f_X8_ones (I21 80 ((6 : Int32) + a1).toNatClampNeg)) (fun (r24 : Int32) =>
                    some (r24, I21))))))))))))))))))))))))
set_option maxRecDepth 20000 in
theorem k_X8_name {X : zk_X} {I : zk_I} {J : zk_J} {a1 : Int32} {a2 : Int32} {r : Int32} {IR : zk_I} (h : f_X8_name I a1 a2 = some (r, IR)) : zC X 3 m_X8_name 0 (zk_ent [.ref 76, .int a1, .int a2] 3) [] (z_Z, I, J) 0 0 (some (.int r)) (z_Z, IR, J) := by
  unfold f_X8_name at h
  refine c_ent (L2 := [some (.ref 76), some (.int a1), some (.int a2)]) rfl ?_
  refine c_aload_n rfl rfl ?_
  refine c_iload_n rfl rfl ?_
  obtain ⟨r2, h1, h⟩ := zk_bd1_e h
  refine e_callV (As := [.int a1]) (st := []) rfl lk_X8_143 rfl (Nat.le_of_ble_eq_true rfl) rfl rfl rfl (Nat.le_of_ble_eq_true rfl) rfl (k_X8_isBook h1) ?_
  refine c_if_eq rfl (fun q3 => ?_) (fun q3 => ?_)
  · rw [if_pos q3] at h
    refine c_bipush rfl vb_m2 ?_
    obtain ⟨rfl, rfl⟩ := zk_r2 h
    exact c_ireturn rfl rfl rfl
  · rw [if_neg q3] at h
    refine c_aload_n rfl rfl ?_
    refine c_iload_n rfl rfl ?_
    obtain ⟨r5, h4, h⟩ := zk_bd1_e h
    refine e_callV (As := [.int a2]) (st := []) rfl lk_X8_140 rfl (Nat.le_of_ble_eq_true rfl) rfl rfl rfl (Nat.le_of_ble_eq_true rfl) rfl (k_X8_isReader h4) ?_
    refine c_if_ne rfl (fun q6 => ?_) (fun q6 => ?_)
    · rw [if_neg q6] at h
      refine c_aload_n rfl rfl ?_
      refine c_iload_n rfl rfl ?_
      obtain ⟨r8, h7, h⟩ := zk_bd1_e h
      refine e_callV (As := [.int a1]) (st := []) rfl lk_X8_146 rfl (Nat.le_of_ble_eq_true rfl) rfl rfl rfl (Nat.le_of_ble_eq_true rfl) rfl (k_X8_namedNow h7) ?_
      refine c_iload_n rfl rfl ?_
      refine c_ishr rfl ?_
      refine c_iconst rfl vi_1 ?_
      refine c_iand rfl ?_
      refine c_if_ne rfl (fun q9 => ?_) (fun q9 => ?_)
      · rw [if_neg q9] at h
        refine c_aload_n rfl rfl ?_
        refine c_getR rfl fk_X8_19 rfl (Nat.le_of_ble_eq_true rfl) rfl ?_
        refine c_iconst rfl vi_0 ?_
        refine e_iald rfl rfl (Nat.le_of_ble_eq_true rfl) (by decide) zt_0 ?_
        refine c_sipush rfl vs_999 ?_
        refine c_icmp_ne rfl (fun q10 => ?_) (fun q10 => ?_)
        · rw [if_neg q10] at h
          refine c_aload_n rfl rfl ?_
          obtain ⟨I12, h11, h⟩ := zk_bd1_e h
          refine e_callV (As := []) (st := []) rfl lk_X8_149 rfl (Nat.le_of_ble_eq_true rfl) rfl rfl rfl (Nat.le_of_ble_eq_true rfl) rfl (k_X8_keeps h11) ?_
          refine c_aload_n rfl rfl ?_
          refine c_getR rfl fk_X8_19 rfl (Nat.le_of_ble_eq_true rfl) rfl ?_
          refine c_iconst rfl vi_2 ?_
          refine c_iload_n rfl rfl ?_
          refine c_iadd rfl ?_
          refine c_iload_n rfl rfl ?_
          obtain ⟨q13, h⟩ := zk_ck_e h
          refine e_iast rfl rfl (Nat.le_of_ble_eq_true rfl) q13 rfl ?_
          obtain ⟨I14, hI14, h⟩ := zk_lt_g h
          refine c_memI hI14 ?_
          refine c_aload_n rfl rfl ?_
          refine c_getR rfl fk_X8_19 rfl (Nat.le_of_ble_eq_true rfl) rfl ?_
          refine c_bipush rfl vb_6 ?_
          refine c_iload_n rfl rfl ?_
          refine c_iadd rfl ?_
          refine c_dup2 rfl rfl rfl ?_
          obtain ⟨q15, h⟩ := zk_ck_e h
          refine e_iald rfl rfl (Nat.le_of_ble_eq_true rfl) q15 rfl ?_
          refine c_iconst rfl vi_1 ?_
          refine c_iload_n rfl rfl ?_
          refine c_ishl rfl ?_
          refine c_ior rfl ?_
          obtain ⟨q16, h⟩ := zk_ck_e h
          refine e_iast rfl rfl (Nat.le_of_ble_eq_true rfl) q16 rfl ?_
          obtain ⟨I17, hI17, h⟩ := zk_lt_g h
          refine c_memI hI17 ?_
          refine c_aload_n rfl rfl ?_
          refine c_getR rfl fk_X8_19 rfl (Nat.le_of_ble_eq_true rfl) rfl ?_
          refine c_bipush rfl vb_10 ?_
          refine c_iload_n rfl rfl ?_
          refine c_iadd rfl ?_
          refine c_aload_n rfl rfl ?_
          refine c_getR rfl fk_X8_19 rfl (Nat.le_of_ble_eq_true rfl) rfl ?_
          refine c_iconst rfl vi_0 ?_
          refine e_iald rfl rfl (Nat.le_of_ble_eq_true rfl) (by decide) zt_0 ?_
          obtain ⟨q18, h⟩ := zk_ck_e h
          refine e_iast rfl rfl (Nat.le_of_ble_eq_true rfl) q18 rfl ?_
          obtain ⟨I19, hI19, h⟩ := zk_lt_g h
          refine c_memI hI19 ?_
          refine c_aload_n rfl rfl ?_
          refine c_getR rfl fk_X8_19 rfl (Nat.le_of_ble_eq_true rfl) rfl ?_
          refine c_iconst rfl vi_1 ?_
          refine c_dup2 rfl rfl rfl ?_
          refine e_iald rfl rfl (Nat.le_of_ble_eq_true rfl) (by decide) zt_1 ?_
          refine c_iconst rfl vi_1 ?_
          refine c_iadd rfl ?_
          refine e_iast rfl rfl (Nat.le_of_ble_eq_true rfl) (by decide) zt_1 ?_
          obtain ⟨I20, hI20, h⟩ := zk_lt_g h
          refine c_memI hI20 ?_
          refine c_aload_n rfl rfl ?_
          refine c_getR rfl fk_X8_19 rfl (Nat.le_of_ble_eq_true rfl) rfl ?_
          refine c_iconst rfl vi_0 ?_
          refine c_dup2 rfl rfl rfl ?_
          refine e_iald rfl rfl (Nat.le_of_ble_eq_true rfl) (by decide) zt_0 ?_
          refine c_iconst rfl vi_1 ?_
          refine c_iadd rfl ?_
          refine e_iast rfl rfl (Nat.le_of_ble_eq_true rfl) (by decide) zt_0 ?_
          obtain ⟨I21, hI21, h⟩ := zk_lt_g h
          refine c_memI hI21 ?_
          refine c_aload_n rfl rfl ?_
          refine c_getR rfl fk_X8_19 rfl (Nat.le_of_ble_eq_true rfl) rfl ?_
          refine c_bipush rfl vb_6 ?_
          refine c_iload_n rfl rfl ?_
          refine c_iadd rfl ?_
          obtain ⟨q22, h⟩ := zk_ck_e h
          refine e_iald rfl rfl (Nat.le_of_ble_eq_true rfl) q22 rfl ?_
          obtain ⟨r24, h23, h⟩ := zk_bd1_e h
          refine e_callS (As := [.int (I21 80 ((6 : Int32) + a1).toNatClampNeg)]) (st := []) rfl lk_X8_152 rfl rfl rfl (Nat.le_of_ble_eq_true rfl) rfl (k_X8_ones h23) ?_
          obtain ⟨rfl, rfl⟩ := zk_r2 h
          exact c_ireturn rfl rfl rfl
        · rw [if_pos q10] at h
          refine c_bipush rfl vb_m5 ?_
          obtain ⟨rfl, rfl⟩ := zk_r2 h
          exact c_ireturn rfl rfl rfl
      · rw [if_pos q9] at h
        refine c_bipush rfl vb_m4 ?_
        obtain ⟨rfl, rfl⟩ := zk_r2 h
        exact c_ireturn rfl rfl rfl
    · rw [if_pos q6] at h
      refine c_bipush rfl vb_m2 ?_
      obtain ⟨rfl, rfl⟩ := zk_r2 h
      exact c_ireturn rfl rfl rfl
def f_X8_day (I : zk_I) : Option (Int32 × zk_I) := (if (I 80 0) = (999 : Int32) then (
  some ((-5 : Int32), I)) else (
  zk_bd1 (f_X8_keeps I) (fun (I3 : zk_I) =>
   zk_lt (zk_sc I3 80 (upd (I3 80) 0 ((I3 80 0) + (1 : Int32)))) (fun (I4 : zk_I) =>
    some ((I4 80 0), I4)))))
set_option maxRecDepth 20000 in
theorem k_X8_day {X : zk_X} {I : zk_I} {J : zk_J} {r : Int32} {IR : zk_I} (h : f_X8_day I = some (r, IR)) : zC X 2 m_X8_day 0 (zk_ent [.ref 76] 1) [] (z_Z, I, J) 0 0 (some (.int r)) (z_Z, IR, J) := by
  unfold f_X8_day at h
  refine c_ent (L2 := [some (.ref 76)]) rfl ?_
  refine c_aload_n rfl rfl ?_
  refine c_getR rfl fk_X8_19 rfl (Nat.le_of_ble_eq_true rfl) rfl ?_
  refine c_iconst rfl vi_0 ?_
  refine e_iald rfl rfl (Nat.le_of_ble_eq_true rfl) (by decide) zt_0 ?_
  refine c_sipush rfl vs_999 ?_
  refine c_icmp_ne rfl (fun q1 => ?_) (fun q1 => ?_)
  · rw [if_neg q1] at h
    refine c_aload_n rfl rfl ?_
    obtain ⟨I3, h2, h⟩ := zk_bd1_e h
    refine e_callV (As := []) (st := []) rfl lk_X8_149 rfl (Nat.le_of_ble_eq_true rfl) rfl rfl rfl (Nat.le_of_ble_eq_true rfl) rfl (k_X8_keeps h2) ?_
    refine c_aload_n rfl rfl ?_
    refine c_getR rfl fk_X8_19 rfl (Nat.le_of_ble_eq_true rfl) rfl ?_
    refine c_iconst rfl vi_0 ?_
    refine c_dup2 rfl rfl rfl ?_
    refine e_iald rfl rfl (Nat.le_of_ble_eq_true rfl) (by decide) zt_0 ?_
    refine c_iconst rfl vi_1 ?_
    refine c_iadd rfl ?_
    refine e_iast rfl rfl (Nat.le_of_ble_eq_true rfl) (by decide) zt_0 ?_
    obtain ⟨I4, hI4, h⟩ := zk_lt_g h
    refine c_memI hI4 ?_
    refine c_aload_n rfl rfl ?_
    refine c_getR rfl fk_X8_19 rfl (Nat.le_of_ble_eq_true rfl) rfl ?_
    refine c_iconst rfl vi_0 ?_
    refine e_iald rfl rfl (Nat.le_of_ble_eq_true rfl) (by decide) zt_0 ?_
    obtain ⟨rfl, rfl⟩ := zk_r2 h
    exact c_ireturn rfl rfl rfl
  · rw [if_pos q1] at h
    refine c_bipush rfl vb_m5 ?_
    obtain ⟨rfl, rfl⟩ := zk_r2 h
    exact c_ireturn rfl rfl rfl
def l_X8_undo_22  (K : zk_I → Option (Int32 × zk_I)) : Nat → Int32 → zk_I → Option (Int32 × zk_I)
  | 0, _, _ => none
  | n + 1, y1, Iy => (if (14 : Int32) ≤ y1 then (
    K Iy) else (
    zk_ck (zk_in (((14 : Int32) * (Iy 76 6)) + y1) 112) (
     zk_ck (zk_in y1 14) (
      zk_lt (zk_sc Iy 80 (upd (Iy 80) y1.toNatClampNeg (Iy 81 (((14 : Int32) * (Iy 76 6)) + y1).toNatClampNeg))) (fun (I6 : zk_I) =>
       l_X8_undo_22 K n (y1 + (1 : Int32)) I6)))))
def f_X8_undo (I : zk_I) : Option (Int32 × zk_I) := (if (I 76 6) = 0 then (
  some ((-4 : Int32), I)) else (
  zk_lt (zk_sc I 76 (upd (I 76) 6 ((I 76 6) - (1 : Int32)))) (fun (I2 : zk_I) =>
   l_X8_undo_22 (fun (I7 : zk_I) =>
    some ((I7 76 6), I7)) 3000 (0 : Int32) I2)))
set_option maxRecDepth 20000 in
theorem kl_X8_undo_22 {X : zk_X} {J : zk_J} {K : zk_I → Option (Int32 × zk_I)} {r : Int32} {IR : zk_I} (jK : ∀ (Iz : zk_I), K Iz = some (r, IR) → zC X 1 m_X8_undo 54 [some (.ref 76), none] [] (z_Z, Iz, J) 0 0 (some (.int r)) (z_Z, IR, J)) : ∀ (n : Nat) (y1 : Int32) (Iy : zk_I), l_X8_undo_22 K n y1 Iy = some (r, IR) → zC X 1 m_X8_undo 22 [some (.ref 76), some (.int y1)] [] (z_Z, Iy, J) 0 0 (some (.int r)) (z_Z, IR, J) := by
  intro n
  induction n with
  | zero =>
    intro y1 Iy h
    cases h
  | succ n ih =>
    intro y1 Iy h
    rw [l_X8_undo_22] at h
    refine c_iload_n rfl rfl ?_
    refine c_bipush rfl vb_14 ?_
    refine c_icmp_ge rfl (fun q3 => ?_) (fun q3 => ?_)
    · rw [if_pos q3] at h
      refine c_drop [true, false] (L2 := [some (.ref 76), none]) rfl ?_
      exact jK _ h
    · rw [if_neg q3] at h
      refine c_aload_n rfl rfl ?_
      refine c_getR rfl fk_X8_19 rfl (Nat.le_of_ble_eq_true rfl) rfl ?_
      refine c_iload_n rfl rfl ?_
      refine c_aload_n rfl rfl ?_
      refine c_getR rfl fk_X8_22 rfl (Nat.le_of_ble_eq_true rfl) rfl ?_
      refine c_bipush rfl vb_14 ?_
      refine c_aload_n rfl rfl ?_
      refine c_getI rfl fk_X8_130 rfl (Nat.le_of_ble_eq_true rfl) ?_
      refine c_imul rfl ?_
      refine c_iload_n rfl rfl ?_
      refine c_iadd rfl ?_
      obtain ⟨q4, h⟩ := zk_ck_e h
      refine e_iald rfl rfl (Nat.le_of_ble_eq_true rfl) q4 rfl ?_
      obtain ⟨q5, h⟩ := zk_ck_e h
      refine e_iast rfl rfl (Nat.le_of_ble_eq_true rfl) q5 rfl ?_
      obtain ⟨I6, hI6, h⟩ := zk_lt_g h
      refine c_memI hI6 ?_
      refine e_iinc (L2 := [some (.ref 76), some (.int (y1 + (1 : Int32)))]) rfl rfl vi_1 rfl rfl rfl ?_
      refine c_goto rfl ?_
      exact ih _ _ h
set_option maxRecDepth 20000 in
theorem k_X8_undo {X : zk_X} {I : zk_I} {J : zk_J} {r : Int32} {IR : zk_I} (h : f_X8_undo I = some (r, IR)) : zC X 1 m_X8_undo 0 (zk_ent [.ref 76] 2) [] (z_Z, I, J) 0 0 (some (.int r)) (z_Z, IR, J) := by
  unfold f_X8_undo at h
  refine c_ent (L2 := [some (.ref 76), none]) rfl ?_
  refine c_aload_n rfl rfl ?_
  refine c_getI rfl fk_X8_130 rfl (Nat.le_of_ble_eq_true rfl) ?_
  refine c_if_ne rfl (fun q1 => ?_) (fun q1 => ?_)
  · rw [if_neg q1] at h
    refine c_aload_n rfl rfl ?_
    refine c_dup rfl rfl ?_
    refine c_getI rfl fk_X8_130 rfl (Nat.le_of_ble_eq_true rfl) ?_
    refine c_iconst rfl vi_1 ?_
    refine c_isub rfl ?_
    refine c_putI rfl fk_X8_130 rfl rfl (Nat.le_of_ble_eq_true rfl) ?_
    obtain ⟨I2, hI2, h⟩ := zk_lt_g h
    refine c_memI hI2 ?_
    refine c_iconst rfl vi_0 ?_
    refine e_istore_n (L2 := [some (.ref 76), some (.int (0 : Int32))]) rfl rfl rfl rfl ?_
    refine kl_X8_undo_22 (fun I7 h => ?_) _ _ _ h
    refine c_aload_n rfl rfl ?_
    refine c_getI rfl fk_X8_130 rfl (Nat.le_of_ble_eq_true rfl) ?_
    obtain ⟨rfl, rfl⟩ := zk_r2 h
    exact c_ireturn rfl rfl rfl
  · rw [if_pos q1] at h
    refine c_bipush rfl vb_m4 ?_
    obtain ⟨rfl, rfl⟩ := zk_r2 h
    exact c_ireturn rfl rfl rfl
def l_X8_keep_14 (p1 : Int32) (K : zk_I → Option (Int32 × zk_I)) : Nat → Int32 → zk_I → Option (Int32 × zk_I)
  | 0, _, _ => none
  | n + 1, y2, Iy => (if (14 : Int32) ≤ y2 then (
    K Iy) else (
    zk_ck (zk_in y2 14) (
     zk_ck (zk_in (((14 : Int32) * p1) + y2) 28) (
      zk_lt (zk_sc Iy 82 (upd (Iy 82) (((14 : Int32) * p1) + y2).toNatClampNeg (Iy 80 y2.toNatClampNeg))) (fun (I7 : zk_I) =>
       l_X8_keep_14 p1 K n (y2 + (1 : Int32)) I7)))))
def f_X8_keep (I : zk_I) (a1 : Int32) : Option (Int32 × zk_I) := zk_lt (f_X8_in a1 (0 : Int32) (1 : Int32)) (fun (r2 : Int32) =>
  (if r2 = 0 then (
   some ((-2 : Int32), I)) else (
   l_X8_keep_14 a1 (fun (I8 : zk_I) =>
    zk_ck (zk_in a1 2) (
     zk_lt (zk_sc I8 83 (upd (I8 83) a1.toNatClampNeg (vp_nar .boolean (1 : Int32)))) (fun (I10 : zk_I) =>
      some ((I10 80 0), I10)))) 3000 (0 : Int32) I)))
set_option maxRecDepth 20000 in
theorem kl_X8_keep_14 {X : zk_X} {p1 : Int32} {J : zk_J} {K : zk_I → Option (Int32 × zk_I)} {r : Int32} {IR : zk_I} (jK : ∀ (Iz : zk_I), K Iz = some (r, IR) → zC X 2 m_X8_keep 43 [some (.ref 76), some (.int p1), none] [] (z_Z, Iz, J) 0 0 (some (.int r)) (z_Z, IR, J)) : ∀ (n : Nat) (y2 : Int32) (Iy : zk_I), l_X8_keep_14 p1 K n y2 Iy = some (r, IR) → zC X 2 m_X8_keep 14 [some (.ref 76), some (.int p1), some (.int y2)] [] (z_Z, Iy, J) 0 0 (some (.int r)) (z_Z, IR, J) := by
  intro n
  induction n with
  | zero =>
    intro y2 Iy h
    cases h
  | succ n ih =>
    intro y2 Iy h
    rw [l_X8_keep_14] at h
    refine c_iload_n rfl rfl ?_
    refine c_bipush rfl vb_14 ?_
    refine c_icmp_ge rfl (fun q4 => ?_) (fun q4 => ?_)
    · rw [if_pos q4] at h
      refine c_drop [true, true, false] (L2 := [some (.ref 76), some (.int p1), none]) rfl ?_
      exact jK _ h
    · rw [if_neg q4] at h
      refine c_aload_n rfl rfl ?_
      refine c_getR rfl fk_X8_25 rfl (Nat.le_of_ble_eq_true rfl) rfl ?_
      refine c_bipush rfl vb_14 ?_
      refine c_iload_n rfl rfl ?_
      refine c_imul rfl ?_
      refine c_iload_n rfl rfl ?_
      refine c_iadd rfl ?_
      refine c_aload_n rfl rfl ?_
      refine c_getR rfl fk_X8_19 rfl (Nat.le_of_ble_eq_true rfl) rfl ?_
      refine c_iload_n rfl rfl ?_
      obtain ⟨q5, h⟩ := zk_ck_e h
      refine e_iald rfl rfl (Nat.le_of_ble_eq_true rfl) q5 rfl ?_
      obtain ⟨q6, h⟩ := zk_ck_e h
      refine e_iast rfl rfl (Nat.le_of_ble_eq_true rfl) q6 rfl ?_
      obtain ⟨I7, hI7, h⟩ := zk_lt_g h
      refine c_memI hI7 ?_
      refine e_iinc (L2 := [some (.ref 76), some (.int p1), some (.int (y2 + (1 : Int32)))]) rfl rfl vi_1 rfl rfl rfl ?_
      refine c_goto rfl ?_
      exact ih _ _ h
set_option maxRecDepth 20000 in
theorem k_X8_keep {X : zk_X} {I : zk_I} {J : zk_J} {a1 : Int32} {r : Int32} {IR : zk_I} (h : f_X8_keep I a1 = some (r, IR)) : zC X 2 m_X8_keep 0 (zk_ent [.ref 76, .int a1] 3) [] (z_Z, I, J) 0 0 (some (.int r)) (z_Z, IR, J) := by
  unfold f_X8_keep at h
  refine c_ent (L2 := [some (.ref 76), some (.int a1), none]) rfl ?_
  refine c_iload_n rfl rfl ?_
  refine c_iconst rfl vi_0 ?_
  refine c_iconst rfl vi_1 ?_
  obtain ⟨r2, h1, h⟩ := zk_lt_g h
  refine e_callS (As := [.int a1, .int (0 : Int32), .int (1 : Int32)]) (st := []) rfl lk_X8_63 rfl rfl rfl (Nat.le_of_ble_eq_true rfl) rfl (k_X8_in h1.symm) ?_
  refine c_if_ne rfl (fun q3 => ?_) (fun q3 => ?_)
  · rw [if_neg q3] at h
    refine c_iconst rfl vi_0 ?_
    refine e_istore_n (L2 := [some (.ref 76), some (.int a1), some (.int (0 : Int32))]) rfl rfl rfl rfl ?_
    refine kl_X8_keep_14 (fun I8 h => ?_) _ _ _ h
    refine c_aload_n rfl rfl ?_
    refine c_getR rfl fk_X8_28 rfl (Nat.le_of_ble_eq_true rfl) rfl ?_
    refine c_iload_n rfl rfl ?_
    refine c_iconst rfl vi_1 ?_
    obtain ⟨q9, h⟩ := zk_ck_e h
    refine e_zast rfl rfl (Nat.le_of_ble_eq_true rfl) q9 rfl ?_
    obtain ⟨I10, hI10, h⟩ := zk_lt_g h
    refine c_memI hI10 ?_
    refine c_aload_n rfl rfl ?_
    refine c_getR rfl fk_X8_19 rfl (Nat.le_of_ble_eq_true rfl) rfl ?_
    refine c_iconst rfl vi_0 ?_
    refine e_iald rfl rfl (Nat.le_of_ble_eq_true rfl) (by decide) zt_0 ?_
    obtain ⟨rfl, rfl⟩ := zk_r2 h
    exact c_ireturn rfl rfl rfl
  · rw [if_pos q3] at h
    refine c_bipush rfl vb_m2 ?_
    obtain ⟨rfl, rfl⟩ := zk_r2 h
    exact c_ireturn rfl rfl rfl
def l_X8_back_26 (p1 : Int32) (K : zk_I → Option (Int32 × zk_I)) : Nat → Int32 → zk_I → Option (Int32 × zk_I)
  | 0, _, _ => none
  | n + 1, y2, Iy => (if (14 : Int32) ≤ y2 then (
    K Iy) else (
    zk_ck (zk_in (((14 : Int32) * p1) + y2) 28) (
     zk_ck (zk_in y2 14) (
      zk_lt (zk_sc Iy 80 (upd (Iy 80) y2.toNatClampNeg (Iy 82 (((14 : Int32) * p1) + y2).toNatClampNeg))) (fun (I9 : zk_I) =>
       l_X8_back_26 p1 K n (y2 + (1 : Int32)) I9)))))
def f_X8_back (I : zk_I) (a1 : Int32) : Option (Int32 × zk_I) := zk_lt (f_X8_in a1 (0 : Int32) (1 : Int32)) (fun (r2 : Int32) =>
  (if r2 = 0 then (
   some ((-2 : Int32), I)) else (
   zk_ck (zk_in a1 2) (
    (if (I 83 a1.toNatClampNeg) = 0 then (
     some ((-4 : Int32), I)) else (
     l_X8_back_26 a1 (fun (I10 : zk_I) =>
      zk_lt (zk_sc I10 76 (upd (I10 76) 6 (0 : Int32))) (fun (I11 : zk_I) =>
       some ((I11 80 0), I11))) 3000 (0 : Int32) I))))))
set_option maxRecDepth 20000 in
theorem kl_X8_back_26 {X : zk_X} {p1 : Int32} {J : zk_J} {K : zk_I → Option (Int32 × zk_I)} {r : Int32} {IR : zk_I} (jK : ∀ (Iz : zk_I), K Iz = some (r, IR) → zC X 2 m_X8_back 55 [some (.ref 76), none, none] [] (z_Z, Iz, J) 0 0 (some (.int r)) (z_Z, IR, J)) : ∀ (n : Nat) (y2 : Int32) (Iy : zk_I), l_X8_back_26 p1 K n y2 Iy = some (r, IR) → zC X 2 m_X8_back 26 [some (.ref 76), some (.int p1), some (.int y2)] [] (z_Z, Iy, J) 0 0 (some (.int r)) (z_Z, IR, J) := by
  intro n
  induction n with
  | zero =>
    intro y2 Iy h
    cases h
  | succ n ih =>
    intro y2 Iy h
    rw [l_X8_back_26] at h
    refine c_iload_n rfl rfl ?_
    refine c_bipush rfl vb_14 ?_
    refine c_icmp_ge rfl (fun q6 => ?_) (fun q6 => ?_)
    · rw [if_pos q6] at h
      refine c_drop [true, false, false] (L2 := [some (.ref 76), none, none]) rfl ?_
      exact jK _ h
    · rw [if_neg q6] at h
      refine c_aload_n rfl rfl ?_
      refine c_getR rfl fk_X8_19 rfl (Nat.le_of_ble_eq_true rfl) rfl ?_
      refine c_iload_n rfl rfl ?_
      refine c_aload_n rfl rfl ?_
      refine c_getR rfl fk_X8_25 rfl (Nat.le_of_ble_eq_true rfl) rfl ?_
      refine c_bipush rfl vb_14 ?_
      refine c_iload_n rfl rfl ?_
      refine c_imul rfl ?_
      refine c_iload_n rfl rfl ?_
      refine c_iadd rfl ?_
      obtain ⟨q7, h⟩ := zk_ck_e h
      refine e_iald rfl rfl (Nat.le_of_ble_eq_true rfl) q7 rfl ?_
      obtain ⟨q8, h⟩ := zk_ck_e h
      refine e_iast rfl rfl (Nat.le_of_ble_eq_true rfl) q8 rfl ?_
      obtain ⟨I9, hI9, h⟩ := zk_lt_g h
      refine c_memI hI9 ?_
      refine e_iinc (L2 := [some (.ref 76), some (.int p1), some (.int (y2 + (1 : Int32)))]) rfl rfl vi_1 rfl rfl rfl ?_
      refine c_goto rfl ?_
      exact ih _ _ h
set_option maxRecDepth 20000 in
theorem k_X8_back {X : zk_X} {I : zk_I} {J : zk_J} {a1 : Int32} {r : Int32} {IR : zk_I} (h : f_X8_back I a1 = some (r, IR)) : zC X 2 m_X8_back 0 (zk_ent [.ref 76, .int a1] 3) [] (z_Z, I, J) 0 0 (some (.int r)) (z_Z, IR, J) := by
  unfold f_X8_back at h
  refine c_ent (L2 := [some (.ref 76), some (.int a1), none]) rfl ?_
  refine c_iload_n rfl rfl ?_
  refine c_iconst rfl vi_0 ?_
  refine c_iconst rfl vi_1 ?_
  obtain ⟨r2, h1, h⟩ := zk_lt_g h
  refine e_callS (As := [.int a1, .int (0 : Int32), .int (1 : Int32)]) (st := []) rfl lk_X8_63 rfl rfl rfl (Nat.le_of_ble_eq_true rfl) rfl (k_X8_in h1.symm) ?_
  refine c_if_ne rfl (fun q3 => ?_) (fun q3 => ?_)
  · rw [if_neg q3] at h
    refine c_aload_n rfl rfl ?_
    refine c_getR rfl fk_X8_28 rfl (Nat.le_of_ble_eq_true rfl) rfl ?_
    refine c_iload_n rfl rfl ?_
    obtain ⟨q4, h⟩ := zk_ck_e h
    refine e_zald rfl rfl (Nat.le_of_ble_eq_true rfl) q4 rfl ?_
    refine c_if_ne rfl (fun q5 => ?_) (fun q5 => ?_)
    · rw [if_neg q5] at h
      refine c_iconst rfl vi_0 ?_
      refine e_istore_n (L2 := [some (.ref 76), some (.int a1), some (.int (0 : Int32))]) rfl rfl rfl rfl ?_
      refine kl_X8_back_26 (fun I10 h => ?_) _ _ _ h
      refine c_aload_n rfl rfl ?_
      refine c_iconst rfl vi_0 ?_
      refine c_putI rfl fk_X8_130 rfl rfl (Nat.le_of_ble_eq_true rfl) ?_
      obtain ⟨I11, hI11, h⟩ := zk_lt_g h
      refine c_memI hI11 ?_
      refine c_aload_n rfl rfl ?_
      refine c_getR rfl fk_X8_19 rfl (Nat.le_of_ble_eq_true rfl) rfl ?_
      refine c_iconst rfl vi_0 ?_
      refine e_iald rfl rfl (Nat.le_of_ble_eq_true rfl) (by decide) zt_0 ?_
      obtain ⟨rfl, rfl⟩ := zk_r2 h
      exact c_ireturn rfl rfl rfl
    · rw [if_pos q5] at h
      refine c_bipush rfl vb_m4 ?_
      obtain ⟨rfl, rfl⟩ := zk_r2 h
      exact c_ireturn rfl rfl rfl
  · rw [if_pos q3] at h
    refine c_bipush rfl vb_m2 ?_
    obtain ⟨rfl, rfl⟩ := zk_r2 h
    exact c_ireturn rfl rfl rfl
def f_X8_nexts (I : zk_I) (a1 : Int32) (a2 : Int32) (a3 : Int32) : Option (Int32) := zk_bd1 (f_X8_ones a2) (fun (r2 : Int32) =>
  zk_ck (zk_in ((6 : Int32) + a1) 14) (
   zk_bd1 (f_X8_ones (I 80 ((6 : Int32) + a1).toNatClampNeg)) (fun (r5 : Int32) =>
    zk_bd1 (f_X8_named I a3 (((I 80 0) + r2) - r5)) (fun (r7 : Int32) =>
     some (r7 &&& (a2 ^^^ (-1 : Int32)))))))
set_option maxRecDepth 20000 in
theorem k_X8_nexts {X : zk_X} {I : zk_I} {J : zk_J} {a1 : Int32} {a2 : Int32} {a3 : Int32} {r : Int32} (h : f_X8_nexts I a1 a2 a3 = some r) : zC X 2 m_X8_nexts 0 (zk_ent [.ref 76, .int a1, .int a2, .int a3] 4) [] (z_Z, I, J) 0 0 (some (.int r)) (z_Z, I, J) := by
  unfold f_X8_nexts at h
  refine c_ent (L2 := [some (.ref 76), some (.int a1), some (.int a2), some (.int a3)]) rfl ?_
  refine c_aload_n rfl rfl ?_
  refine c_iload_n rfl rfl ?_
  refine c_aload_n rfl rfl ?_
  refine c_getR rfl fk_X8_19 rfl (Nat.le_of_ble_eq_true rfl) rfl ?_
  refine c_iconst rfl vi_0 ?_
  refine e_iald rfl rfl (Nat.le_of_ble_eq_true rfl) (by decide) zt_0 ?_
  refine c_iload_n rfl rfl ?_
  obtain ⟨r2, h1, h⟩ := zk_bd1_e h
  refine e_callS (As := [.int a2]) (st := [.int (I 80 0), .int a3, .ref 76]) rfl lk_X8_152 rfl rfl rfl (Nat.le_of_ble_eq_true rfl) rfl (k_X8_ones h1) ?_
  refine c_iadd rfl ?_
  refine c_aload_n rfl rfl ?_
  refine c_getR rfl fk_X8_19 rfl (Nat.le_of_ble_eq_true rfl) rfl ?_
  refine c_bipush rfl vb_6 ?_
  refine c_iload_n rfl rfl ?_
  refine c_iadd rfl ?_
  obtain ⟨q3, h⟩ := zk_ck_e h
  refine e_iald rfl rfl (Nat.le_of_ble_eq_true rfl) q3 rfl ?_
  obtain ⟨r5, h4, h⟩ := zk_bd1_e h
  refine e_callS (As := [.int (I 80 ((6 : Int32) + a1).toNatClampNeg)]) (st := [.int ((I 80 0) + r2), .int a3, .ref 76]) rfl lk_X8_152 rfl rfl rfl (Nat.le_of_ble_eq_true rfl) rfl (k_X8_ones h4) ?_
  refine c_isub rfl ?_
  obtain ⟨r7, h6, h⟩ := zk_bd1_e h
  refine e_callV (As := [.int a3, .int (((I 80 0) + r2) - r5)]) (st := []) rfl lk_X8_136 rfl (Nat.le_of_ble_eq_true rfl) rfl rfl rfl (Nat.le_of_ble_eq_true rfl) rfl (k_X8_named h6) ?_
  refine c_iload_n rfl rfl ?_
  refine c_iconst rfl vi_m1 ?_
  refine c_ixor rfl ?_
  refine c_iand rfl ?_
  have h := zk_r1 h
  subst h
  exact c_ireturn rfl rfl rfl
def f_X8_isState (I : zk_I) (a1 : Int32) (a2 : Int32) (a3 : Int32) : Option (Int32) := zk_ck (zk_in ((6 : Int32) + a1) 14) (
  zk_lt (I 80 ((6 : Int32) + a1).toNatClampNeg) (fun (x2 : Int32) =>
   zk_jp1 (fun (v4 : Int32) =>
    zk_jp0 (some (0 : Int32)) (fun (K7 : Option (Int32)) =>
     (if v4 = 0 then (
      K7) else (
      zk_jp0 (some (1 : Int32)) (fun (K9 : Option (Int32)) =>
       (if a2 = x2 then (
        zk_ck (zk_in ((2 : Int32) + a1) 14) (
         (if a3 = (I 80 ((2 : Int32) + a1).toNatClampNeg) then (
          K9) else (
          K7)))) else (
        (if ((x2 >>> (a3 &&& 31)) &&& (1 : Int32)) = 0 then (
         K9) else (
         K7))))))))) (fun (K5 : Int32 → Option (Int32)) =>
    zk_jp0 (K5 (0 : Int32)) (fun (K13 : Option (Int32)) =>
     (if (a2 &&& x2) = x2 then (
      (if (a2 >>> ((I 78 0) &&& 31)) = 0 then (
       (if ((a2 >>> (a3 &&& 31)) &&& (1 : Int32)) = (1 : Int32) then (
        K5 (1 : Int32)) else (
        K13))) else (
       K13))) else (
      K13))))))
set_option maxRecDepth 20000 in
theorem k_X8_isState {X : zk_X} {I : zk_I} {J : zk_J} {a1 : Int32} {a2 : Int32} {a3 : Int32} {r : Int32} (h : f_X8_isState I a1 a2 a3 = some r) : zC X 1 m_X8_isState 0 (zk_ent [.ref 76, .int a1, .int a2, .int a3] 6) [] (z_Z, I, J) 0 0 (some (.int r)) (z_Z, I, J) := by
  unfold f_X8_isState at h
  refine c_ent (L2 := [some (.ref 76), some (.int a1), some (.int a2), some (.int a3), none, none]) rfl ?_
  refine c_aload_n rfl rfl ?_
  refine c_getR rfl fk_X8_19 rfl (Nat.le_of_ble_eq_true rfl) rfl ?_
  refine c_bipush rfl vb_6 ?_
  refine c_iload_n rfl rfl ?_
  refine c_iadd rfl ?_
  obtain ⟨q1, h⟩ := zk_ck_e h
  refine e_iald rfl rfl (Nat.le_of_ble_eq_true rfl) q1 rfl ?_
  obtain ⟨x2, hx2, h⟩ := zk_lt_g h
  refine c_topi hx2 ?_
  refine e_istore (L2 := [some (.ref 76), some (.int a1), some (.int a2), some (.int a3), some (.int x2), none]) rfl rfl rfl rfl ?_
  refine c_iload_n rfl rfl ?_
  refine c_iload rfl rfl ?_
  refine c_iand rfl ?_
  refine c_iload rfl rfl ?_
  refine zk_jp1_e (Z := fun (v4 : Int32) => zC X 1 m_X8_isState 45 [some (.ref 76), some (.int a1), some (.int a2), some (.int a3), some (.int x2), none] [.int v4] (z_Z, I, J) 0 0 (some (.int r)) (z_Z, I, J)) h (fun v4 h => ?_) (fun K5 jK5 h => ?_)
  · refine e_istore (L2 := [some (.ref 76), some (.int a1), some (.int a2), some (.int a3), some (.int x2), some (.int v4)]) rfl rfl rfl rfl ?_
    refine c_iload rfl rfl ?_
    refine zk_jp0_e (Z := zC X 1 m_X8_isState 86 [none, none, none, none, none, none] [] (z_Z, I, J) 0 0 (some (.int r)) (z_Z, I, J)) h (fun h => ?_) (fun K7 jK7 h => ?_)
    · refine c_iconst rfl vi_0 ?_
      have h := zk_r1 h
      subst h
      exact c_ireturn rfl rfl zk_nb0
    · refine c_if_eq rfl (fun q6 => ?_) (fun q6 => ?_)
      · rw [if_pos q6] at h
        refine c_drop [false, false, false, false, false, false] (L2 := [none, none, none, none, none, none]) rfl ?_
        exact jK7 h
      · rw [if_neg q6] at h
        refine c_iload_n rfl rfl ?_
        refine c_iload rfl rfl ?_
        refine zk_jp0_e (Z := zC X 1 m_X8_isState 82 [none, none, none, none, none, none] [] (z_Z, I, J) 0 0 (some (.int r)) (z_Z, I, J)) h (fun h => ?_) (fun K9 jK9 h => ?_)
        · refine c_iconst rfl vi_1 ?_
          refine c_goto rfl ?_
          have h := zk_r1 h
          subst h
          exact c_ireturn rfl rfl zk_nb1
        · refine c_icmp_ne rfl (fun q8 => ?_) (fun q8 => ?_)
          · rw [if_neg q8] at h
            refine c_iload rfl rfl ?_
            refine c_iload_n rfl rfl ?_
            refine c_ishr rfl ?_
            refine c_iconst rfl vi_1 ?_
            refine c_iand rfl ?_
            refine c_if_ne rfl (fun q10 => ?_) (fun q10 => ?_)
            · rw [if_neg q10] at h
              refine c_drop [false, false, false, false, false, false] (L2 := [none, none, none, none, none, none]) rfl ?_
              exact jK7 h
            · rw [if_pos q10] at h
              refine c_drop [false, false, false, false, false, false] (L2 := [none, none, none, none, none, none]) rfl ?_
              exact jK9 h
          · rw [if_pos q8] at h
            refine c_iload_n rfl rfl ?_
            refine c_aload_n rfl rfl ?_
            refine c_getR rfl fk_X8_19 rfl (Nat.le_of_ble_eq_true rfl) rfl ?_
            refine c_iconst rfl vi_2 ?_
            refine c_iload_n rfl rfl ?_
            refine c_iadd rfl ?_
            obtain ⟨q11, h⟩ := zk_ck_e h
            refine e_iald rfl rfl (Nat.le_of_ble_eq_true rfl) q11 rfl ?_
            refine c_icmp_ne rfl (fun q12 => ?_) (fun q12 => ?_)
            · rw [if_neg q12] at h
              refine c_drop [false, false, false, false, false, false] (L2 := [none, none, none, none, none, none]) rfl ?_
              exact jK7 h
            · rw [if_pos q12] at h
              refine c_goto rfl ?_
              refine c_drop [false, false, false, false, false, false] (L2 := [none, none, none, none, none, none]) rfl ?_
              exact jK9 h
  · refine zk_jp0_e (Z := zC X 1 m_X8_isState 44 [some (.ref 76), some (.int a1), some (.int a2), some (.int a3), some (.int x2), none] [] (z_Z, I, J) 0 0 (some (.int r)) (z_Z, I, J)) h (fun h => ?_) (fun K13 jK13 h => ?_)
    · refine c_iconst rfl vi_0 ?_
      exact jK5 _ h
    · refine c_icmp_ne rfl (fun q3 => ?_) (fun q3 => ?_)
      · rw [if_neg q3] at h
        exact jK13 h
      · rw [if_pos q3] at h
        refine c_iload_n rfl rfl ?_
        refine c_aload_n rfl rfl ?_
        refine c_getR rfl fk_X8_13 rfl (Nat.le_of_ble_eq_true rfl) rfl ?_
        refine c_iconst rfl vi_0 ?_
        refine e_iald rfl rfl (Nat.le_of_ble_eq_true rfl) (by decide) zt_0 ?_
        refine c_ishr rfl ?_
        refine c_if_ne rfl (fun q14 => ?_) (fun q14 => ?_)
        · rw [if_neg q14] at h
          exact jK13 h
        · rw [if_pos q14] at h
          refine c_iload_n rfl rfl ?_
          refine c_iload_n rfl rfl ?_
          refine c_ishr rfl ?_
          refine c_iconst rfl vi_1 ?_
          refine c_iand rfl ?_
          refine c_iconst rfl vi_1 ?_
          refine c_icmp_ne rfl (fun q15 => ?_) (fun q15 => ?_)
          · rw [if_neg q15] at h
            exact jK13 h
          · rw [if_pos q15] at h
            refine c_iconst rfl vi_1 ?_
            refine c_goto rfl ?_
            exact jK5 _ h
def l_X8_lays_95 (p2 : Int32) (p4 : Int32) (p5 : Int32) (K : zk_I → Option (zk_I)) : Nat → Int32 → zk_I → Option (zk_I)
  | 0, _, _ => none
  | n + 1, y6, Iy => (if (8 : Int32) ≤ y6 then (
    K Iy) else (
    zk_jp1 (fun (I26 : zk_I) =>
     l_X8_lays_95 p2 p4 p5 K n (y6 + (1 : Int32)) I26) (fun (K27 : zk_I → Option (zk_I)) =>
     (if ((p5 >>> (y6 &&& 31)) &&& (1 : Int32)) = (1 : Int32) then (
      zk_lt (((8 : Int32) * (p2 ||| ((1 : Int32) <<< (y6 &&& 31)))) + y6) (fun (x28 : Int32) =>
       zk_ck (zk_in x28 2048) (
        zk_lt ((Iy 85 x28.toNatClampNeg) + (1 : Int32)) (fun (x30 : Int32) =>
         zk_ck (zk_in x28 2048) (
          zk_lt ((Iy 87 x28.toNatClampNeg) ||| ((1 : Int32) <<< (y6 &&& 31))) (fun (x32 : Int32) =>
           zk_ck (zk_in p4 2048) (
            zk_jp1 (fun (v35 : Int32) =>
             zk_ck (zk_in p4 2048) (
              zk_lt (zk_sc Iy 87 (upd (Iy 87) p4.toNatClampNeg v35)) (fun (I38 : zk_I) =>
               zk_ck (zk_in p4 2048) (
                zk_jp1 (fun (v41 : Int32) =>
                 zk_ck (zk_in p4 2048) (
                  zk_lt (zk_sc I38 86 (upd (I38 86) p4.toNatClampNeg v41)) (fun (I44 : zk_I) =>
                   zk_ck (zk_in p4 2048) (
                    zk_jp1 (fun (v47 : Int32) =>
                     zk_ck (zk_in p4 2048) (
                      zk_lt (zk_sc I44 85 (upd (I44 85) p4.toNatClampNeg v47)) (fun (I50 : zk_I) =>
                       zk_ck (zk_in x28 2048) (
                        zk_ck (zk_in p4 2048) (
                         zk_jp1 (fun (v54 : Int32) =>
                          zk_ck (zk_in p4 2048) (
                           zk_lt (zk_sc I50 88 (upd (I50 88) p4.toNatClampNeg v54)) (fun (I57 : zk_I) =>
                            zk_ck (zk_in p4 2048) (
                             zk_ck (zk_in x28 2048) (
                              zk_ck (zk_in p4 2048) (
                               zk_lt (zk_sc I57 89 (upd (I57 89) p4.toNatClampNeg ((I57 89 p4.toNatClampNeg) ||| ((I57 89 x28.toNatClampNeg) ||| ((1 : Int32) <<< (y6 &&& 31)))))) (fun (I61 : zk_I) =>
                                zk_ck (zk_in x28 2048) (
                                 zk_ck (zk_in ((10 : Int32) + y6) 38) (
                                  zk_lt ((I61 90 x28.toNatClampNeg) + (I61 78 ((10 : Int32) + y6).toNatClampNeg)) (fun (x64 : Int32) =>
                                   zk_ck (zk_in p4 2048) (
                                    zk_jp1 (fun (v67 : Int32) =>
                                     zk_ck (zk_in p4 2048) (
                                      zk_lt (zk_sc I61 90 (upd (I61 90) p4.toNatClampNeg v67)) (fun (I70 : zk_I) =>
                                       zk_ck (zk_in p4 2048) (
                                        zk_jp1 (fun (v73 : Int32) =>
                                         zk_ck (zk_in p4 2048) (
                                          zk_lt (zk_sc I70 91 (upd (I70 91) p4.toNatClampNeg (vp_nar .boolean v73))) (fun (I76 : zk_I) =>
                                           K27 I76))) (fun (K74 : Int32 → Option (zk_I)) =>
                                         zk_jp0 (K74 (1 : Int32)) (fun (K77 : Option (zk_I)) =>
                                          (if (I70 91 p4.toNatClampNeg) = 0 then (
                                           zk_ck (zk_in x28 2048) (
                                            (if (I70 91 x28.toNatClampNeg) = 0 then (
                                             K77) else (
                                             K74 (0 : Int32))))) else (
                                           K77)))))))) (fun (K68 : Int32 → Option (zk_I)) =>
                                     (if x64 ≤ (I61 90 p4.toNatClampNeg) then (
                                      zk_ck (zk_in p4 2048) (
                                       K68 (I61 90 p4.toNatClampNeg))) else (
                                      K68 x64)))))))))))))) (fun (K55 : Int32 → Option (zk_I)) =>
                          (if (I50 88 p4.toNatClampNeg) ≤ ((I50 88 x28.toNatClampNeg) + (1 : Int32)) then (
                           zk_ck (zk_in p4 2048) (
                            K55 (I50 88 p4.toNatClampNeg))) else (
                           zk_ck (zk_in x28 2048) (
                            K55 ((I50 88 x28.toNatClampNeg) + (1 : Int32))))))))))) (fun (K48 : Int32 → Option (zk_I)) =>
                     (if x30 ≤ (I44 85 p4.toNatClampNeg) then (
                      zk_ck (zk_in p4 2048) (
                       K48 (I44 85 p4.toNatClampNeg))) else (
                      K48 x30))))))) (fun (K42 : Int32 → Option (zk_I)) =>
                 (if x30 ≤ (I38 85 p4.toNatClampNeg) then (
                  zk_ck (zk_in p4 2048) (
                   (if x30 = (I38 85 p4.toNatClampNeg) then (
                    zk_ck (zk_in p4 2048) (
                     zk_ck (zk_in x28 2048) (
                      K42 ((I38 86 p4.toNatClampNeg) + (I38 86 x28.toNatClampNeg))))) else (
                    zk_ck (zk_in p4 2048) (
                     K42 (I38 86 p4.toNatClampNeg)))))) else (
                  zk_ck (zk_in x28 2048) (
                   K42 (I38 86 x28.toNatClampNeg))))))))) (fun (K36 : Int32 → Option (zk_I)) =>
             (if x30 ≤ (Iy 85 p4.toNatClampNeg) then (
              zk_ck (zk_in p4 2048) (
               (if x30 = (Iy 85 p4.toNatClampNeg) then (
                zk_ck (zk_in p4 2048) (
                 K36 ((Iy 87 p4.toNatClampNeg) &&& x32))) else (
                zk_ck (zk_in p4 2048) (
                 K36 (Iy 87 p4.toNatClampNeg)))))) else (
              K36 x32)))))))))) else (
      K27 Iy)))))
def f_X8_lays (I : zk_I) (a1 : Int32) (a2 : Int32) (a3 : Int32) : Option (zk_I) := zk_lt (((8 : Int32) * a2) + a3) (fun (x1 : Int32) =>
  zk_bd1 (f_X8_nexts I a1 a2 a3) (fun (r3 : Int32) =>
   zk_ck (zk_in x1 2048) (
    zk_lt (zk_sc I 85 (upd (I 85) x1.toNatClampNeg (0 : Int32))) (fun (I5 : zk_I) =>
     zk_lt ((if r3 = 0 then (1 : Int32) else (0 : Int32))) (fun (v7 : Int32) =>
      zk_ck (zk_in x1 2048) (
       zk_lt (zk_sc I5 86 (upd (I5 86) x1.toNatClampNeg v7)) (fun (I10 : zk_I) =>
        zk_ck (zk_in x1 2048) (
         zk_lt (zk_sc I10 87 (upd (I10 87) x1.toNatClampNeg (0 : Int32))) (fun (I12 : zk_I) =>
          zk_lt ((if r3 = 0 then (0 : Int32) else (99 : Int32))) (fun (v14 : Int32) =>
           zk_ck (zk_in x1 2048) (
            zk_lt (zk_sc I12 88 (upd (I12 88) x1.toNatClampNeg v14)) (fun (I17 : zk_I) =>
             zk_ck (zk_in x1 2048) (
              zk_lt (zk_sc I17 89 (upd (I17 89) x1.toNatClampNeg (0 : Int32))) (fun (I19 : zk_I) =>
               zk_ck (zk_in x1 2048) (
                zk_lt (zk_sc I19 90 (upd (I19 90) x1.toNatClampNeg (0 : Int32))) (fun (I21 : zk_I) =>
                 zk_ck (zk_in x1 2048) (
                  zk_lt (zk_sc I21 91 (upd (I21 91) x1.toNatClampNeg (vp_nar .boolean (0 : Int32)))) (fun (I23 : zk_I) =>
                   l_X8_lays_95 a2 x1 r3 (fun (I94 : zk_I) =>
                    some I94) 3000 (0 : Int32) I23))))))))))))))))))
set_option maxRecDepth 20000 in
theorem kl_X8_lays_95 {X : zk_X} {p2 : Int32} {p4 : Int32} {p5 : Int32} {J : zk_J} {K : zk_I → Option (zk_I)} {IR : zk_I} (jK : ∀ (Iz : zk_I), K Iz = some IR → zC X 3 m_X8_lays 461 [none, none, none, none, none, none, none, none, none, none, none] [] (z_Z, Iz, J) 0 0 none (z_Z, IR, J)) : ∀ (n : Nat) (y6 : Int32) (Iy : zk_I), l_X8_lays_95 p2 p4 p5 K n y6 Iy = some IR → zC X 3 m_X8_lays 95 [some (.ref 76), none, some (.int p2), none, some (.int p4), some (.int p5), some (.int y6), none, none, none, none] [] (z_Z, Iy, J) 0 0 none (z_Z, IR, J) := by
  intro n
  induction n with
  | zero =>
    intro y6 Iy h
    cases h
  | succ n ih =>
    intro y6 Iy h
    rw [l_X8_lays_95] at h
    refine c_iload rfl rfl ?_
    refine c_bipush rfl vb_8 ?_
    refine c_icmp_ge rfl (fun q24 => ?_) (fun q24 => ?_)
    · rw [if_pos q24] at h
      refine c_drop [false, true, false, true, false, false, false, true, true, true, true] (L2 := [none, none, none, none, none, none, none, none, none, none, none]) rfl ?_
      exact jK _ h
    · rw [if_neg q24] at h
      refine c_iload rfl rfl ?_
      refine c_iload rfl rfl ?_
      refine c_ishr rfl ?_
      refine c_iconst rfl vi_1 ?_
      refine c_iand rfl ?_
      refine c_iconst rfl vi_1 ?_
      refine zk_jp1_e (Z := fun (I26 : zk_I) => zC X 3 m_X8_lays 455 [some (.ref 76), none, some (.int p2), none, some (.int p4), some (.int p5), some (.int y6), none, none, none, none] [] (z_Z, I26, J) 0 0 none (z_Z, IR, J)) h (fun I26 h => ?_) (fun K27 jK27 h => ?_)
      · refine e_iinc (L2 := [some (.ref 76), none, some (.int p2), none, some (.int p4), some (.int p5), some (.int (y6 + (1 : Int32))), none, none, none, none]) rfl rfl vi_1 rfl rfl rfl ?_
        refine c_goto rfl ?_
        exact ih _ _ h
      · refine c_icmp_ne rfl (fun q25 => ?_) (fun q25 => ?_)
        · rw [if_neg q25] at h
          exact jK27 _ h
        · rw [if_pos q25] at h
          refine c_bipush rfl vb_8 ?_
          refine c_iload_n rfl rfl ?_
          refine c_iconst rfl vi_1 ?_
          refine c_iload rfl rfl ?_
          refine c_ishl rfl ?_
          refine c_ior rfl ?_
          refine c_imul rfl ?_
          refine c_iload rfl rfl ?_
          refine c_iadd rfl ?_
          obtain ⟨x28, hx28, h⟩ := zk_lt_g h
          refine c_topi hx28 ?_
          refine e_istore (L2 := [some (.ref 76), none, some (.int p2), none, some (.int p4), some (.int p5), some (.int y6), some (.int x28), none, none, none]) rfl rfl rfl rfl ?_
          refine c_aload_n rfl rfl ?_
          refine c_getR rfl fk_X8_35 rfl (Nat.le_of_ble_eq_true rfl) rfl ?_
          refine c_iload rfl rfl ?_
          obtain ⟨q29, h⟩ := zk_ck_e h
          refine e_iald rfl rfl (Nat.le_of_ble_eq_true rfl) q29 rfl ?_
          refine c_iconst rfl vi_1 ?_
          refine c_iadd rfl ?_
          obtain ⟨x30, hx30, h⟩ := zk_lt_g h
          refine c_topi hx30 ?_
          refine e_istore (L2 := [some (.ref 76), none, some (.int p2), none, some (.int p4), some (.int p5), some (.int y6), some (.int x28), some (.int x30), none, none]) rfl rfl rfl rfl ?_
          refine c_aload_n rfl rfl ?_
          refine c_getR rfl fk_X8_41 rfl (Nat.le_of_ble_eq_true rfl) rfl ?_
          refine c_iload rfl rfl ?_
          obtain ⟨q31, h⟩ := zk_ck_e h
          refine e_iald rfl rfl (Nat.le_of_ble_eq_true rfl) q31 rfl ?_
          refine c_iconst rfl vi_1 ?_
          refine c_iload rfl rfl ?_
          refine c_ishl rfl ?_
          refine c_ior rfl ?_
          obtain ⟨x32, hx32, h⟩ := zk_lt_g h
          refine c_topi hx32 ?_
          refine e_istore (L2 := [some (.ref 76), none, some (.int p2), none, some (.int p4), some (.int p5), some (.int y6), some (.int x28), some (.int x30), some (.int x32), none]) rfl rfl rfl rfl ?_
          refine c_aload_n rfl rfl ?_
          refine c_getR rfl fk_X8_41 rfl (Nat.le_of_ble_eq_true rfl) rfl ?_
          refine c_iload rfl rfl ?_
          refine c_iload rfl rfl ?_
          refine c_aload_n rfl rfl ?_
          refine c_getR rfl fk_X8_35 rfl (Nat.le_of_ble_eq_true rfl) rfl ?_
          refine c_iload rfl rfl ?_
          obtain ⟨q33, h⟩ := zk_ck_e h
          refine e_iald rfl rfl (Nat.le_of_ble_eq_true rfl) q33 rfl ?_
          refine zk_jp1_e (Z := fun (v35 : Int32) => zC X 3 m_X8_lays 207 [some (.ref 76), none, some (.int p2), none, some (.int p4), some (.int p5), some (.int y6), some (.int x28), some (.int x30), none, none] [.int v35, .int p4, .ref 87] (z_Z, Iy, J) 0 0 none (z_Z, IR, J)) h (fun v35 h => ?_) (fun K36 jK36 h => ?_)
          · obtain ⟨q37, h⟩ := zk_ck_e h
            refine e_iast rfl rfl (Nat.le_of_ble_eq_true rfl) q37 rfl ?_
            obtain ⟨I38, hI38, h⟩ := zk_lt_g h
            refine c_memI hI38 ?_
            refine c_aload_n rfl rfl ?_
            refine c_getR rfl fk_X8_38 rfl (Nat.le_of_ble_eq_true rfl) rfl ?_
            refine c_iload rfl rfl ?_
            refine c_iload rfl rfl ?_
            refine c_aload_n rfl rfl ?_
            refine c_getR rfl fk_X8_35 rfl (Nat.le_of_ble_eq_true rfl) rfl ?_
            refine c_iload rfl rfl ?_
            obtain ⟨q39, h⟩ := zk_ck_e h
            refine e_iald rfl rfl (Nat.le_of_ble_eq_true rfl) q39 rfl ?_
            refine zk_jp1_e (Z := fun (v41 : Int32) => zC X 3 m_X8_lays 273 [some (.ref 76), none, some (.int p2), none, some (.int p4), some (.int p5), some (.int y6), some (.int x28), some (.int x30), none, none] [.int v41, .int p4, .ref 86] (z_Z, I38, J) 0 0 none (z_Z, IR, J)) h (fun v41 h => ?_) (fun K42 jK42 h => ?_)
            · obtain ⟨q43, h⟩ := zk_ck_e h
              refine e_iast rfl rfl (Nat.le_of_ble_eq_true rfl) q43 rfl ?_
              obtain ⟨I44, hI44, h⟩ := zk_lt_g h
              refine c_memI hI44 ?_
              refine c_aload_n rfl rfl ?_
              refine c_getR rfl fk_X8_35 rfl (Nat.le_of_ble_eq_true rfl) rfl ?_
              refine c_iload rfl rfl ?_
              refine c_iload rfl rfl ?_
              refine c_aload_n rfl rfl ?_
              refine c_getR rfl fk_X8_35 rfl (Nat.le_of_ble_eq_true rfl) rfl ?_
              refine c_iload rfl rfl ?_
              obtain ⟨q45, h⟩ := zk_ck_e h
              refine e_iald rfl rfl (Nat.le_of_ble_eq_true rfl) q45 rfl ?_
              refine zk_jp1_e (Z := fun (v47 : Int32) => zC X 3 m_X8_lays 304 [some (.ref 76), none, some (.int p2), none, some (.int p4), some (.int p5), some (.int y6), some (.int x28), none, none, none] [.int v47, .int p4, .ref 85] (z_Z, I44, J) 0 0 none (z_Z, IR, J)) h (fun v47 h => ?_) (fun K48 jK48 h => ?_)
              · obtain ⟨q49, h⟩ := zk_ck_e h
                refine e_iast rfl rfl (Nat.le_of_ble_eq_true rfl) q49 rfl ?_
                obtain ⟨I50, hI50, h⟩ := zk_lt_g h
                refine c_memI hI50 ?_
                refine c_aload_n rfl rfl ?_
                refine c_getR rfl fk_X8_44 rfl (Nat.le_of_ble_eq_true rfl) rfl ?_
                refine c_iload rfl rfl ?_
                refine c_aload_n rfl rfl ?_
                refine c_getR rfl fk_X8_44 rfl (Nat.le_of_ble_eq_true rfl) rfl ?_
                refine c_iload rfl rfl ?_
                obtain ⟨q51, h⟩ := zk_ck_e h
                refine e_iald rfl rfl (Nat.le_of_ble_eq_true rfl) q51 rfl ?_
                refine c_iconst rfl vi_1 ?_
                refine c_iadd rfl ?_
                refine c_aload_n rfl rfl ?_
                refine c_getR rfl fk_X8_44 rfl (Nat.le_of_ble_eq_true rfl) rfl ?_
                refine c_iload rfl rfl ?_
                obtain ⟨q52, h⟩ := zk_ck_e h
                refine e_iald rfl rfl (Nat.le_of_ble_eq_true rfl) q52 rfl ?_
                refine zk_jp1_e (Z := fun (v54 : Int32) => zC X 3 m_X8_lays 349 [some (.ref 76), none, some (.int p2), none, some (.int p4), some (.int p5), some (.int y6), some (.int x28), none, none, none] [.int v54, .int p4, .ref 88] (z_Z, I50, J) 0 0 none (z_Z, IR, J)) h (fun v54 h => ?_) (fun K55 jK55 h => ?_)
                · obtain ⟨q56, h⟩ := zk_ck_e h
                  refine e_iast rfl rfl (Nat.le_of_ble_eq_true rfl) q56 rfl ?_
                  obtain ⟨I57, hI57, h⟩ := zk_lt_g h
                  refine c_memI hI57 ?_
                  refine c_aload_n rfl rfl ?_
                  refine c_getR rfl fk_X8_47 rfl (Nat.le_of_ble_eq_true rfl) rfl ?_
                  refine c_iload rfl rfl ?_
                  refine c_dup2 rfl rfl rfl ?_
                  obtain ⟨q58, h⟩ := zk_ck_e h
                  refine e_iald rfl rfl (Nat.le_of_ble_eq_true rfl) q58 rfl ?_
                  refine c_aload_n rfl rfl ?_
                  refine c_getR rfl fk_X8_47 rfl (Nat.le_of_ble_eq_true rfl) rfl ?_
                  refine c_iload rfl rfl ?_
                  obtain ⟨q59, h⟩ := zk_ck_e h
                  refine e_iald rfl rfl (Nat.le_of_ble_eq_true rfl) q59 rfl ?_
                  refine c_iconst rfl vi_1 ?_
                  refine c_iload rfl rfl ?_
                  refine c_ishl rfl ?_
                  refine c_ior rfl ?_
                  refine c_ior rfl ?_
                  obtain ⟨q60, h⟩ := zk_ck_e h
                  refine e_iast rfl rfl (Nat.le_of_ble_eq_true rfl) q60 rfl ?_
                  obtain ⟨I61, hI61, h⟩ := zk_lt_g h
                  refine c_memI hI61 ?_
                  refine c_aload_n rfl rfl ?_
                  refine c_getR rfl fk_X8_50 rfl (Nat.le_of_ble_eq_true rfl) rfl ?_
                  refine c_iload rfl rfl ?_
                  obtain ⟨q62, h⟩ := zk_ck_e h
                  refine e_iald rfl rfl (Nat.le_of_ble_eq_true rfl) q62 rfl ?_
                  refine c_aload_n rfl rfl ?_
                  refine c_getR rfl fk_X8_13 rfl (Nat.le_of_ble_eq_true rfl) rfl ?_
                  refine c_bipush rfl vb_10 ?_
                  refine c_iload rfl rfl ?_
                  refine c_iadd rfl ?_
                  obtain ⟨q63, h⟩ := zk_ck_e h
                  refine e_iald rfl rfl (Nat.le_of_ble_eq_true rfl) q63 rfl ?_
                  refine c_iadd rfl ?_
                  obtain ⟨x64, hx64, h⟩ := zk_lt_g h
                  refine c_topi hx64 ?_
                  refine e_istore (L2 := [some (.ref 76), none, some (.int p2), none, some (.int p4), some (.int p5), some (.int y6), some (.int x28), none, none, some (.int x64)]) rfl rfl rfl rfl ?_
                  refine c_aload_n rfl rfl ?_
                  refine c_getR rfl fk_X8_50 rfl (Nat.le_of_ble_eq_true rfl) rfl ?_
                  refine c_iload rfl rfl ?_
                  refine c_iload rfl rfl ?_
                  refine c_aload_n rfl rfl ?_
                  refine c_getR rfl fk_X8_50 rfl (Nat.le_of_ble_eq_true rfl) rfl ?_
                  refine c_iload rfl rfl ?_
                  obtain ⟨q65, h⟩ := zk_ck_e h
                  refine e_iald rfl rfl (Nat.le_of_ble_eq_true rfl) q65 rfl ?_
                  refine zk_jp1_e (Z := fun (v67 : Int32) => zC X 3 m_X8_lays 422 [some (.ref 76), none, some (.int p2), none, some (.int p4), some (.int p5), some (.int y6), some (.int x28), none, none, none] [.int v67, .int p4, .ref 90] (z_Z, I61, J) 0 0 none (z_Z, IR, J)) h (fun v67 h => ?_) (fun K68 jK68 h => ?_)
                  · obtain ⟨q69, h⟩ := zk_ck_e h
                    refine e_iast rfl rfl (Nat.le_of_ble_eq_true rfl) q69 rfl ?_
                    obtain ⟨I70, hI70, h⟩ := zk_lt_g h
                    refine c_memI hI70 ?_
                    refine c_aload_n rfl rfl ?_
                    refine c_getR rfl fk_X8_53 rfl (Nat.le_of_ble_eq_true rfl) rfl ?_
                    refine c_iload rfl rfl ?_
                    refine c_aload_n rfl rfl ?_
                    refine c_getR rfl fk_X8_53 rfl (Nat.le_of_ble_eq_true rfl) rfl ?_
                    refine c_iload rfl rfl ?_
                    obtain ⟨q71, h⟩ := zk_ck_e h
                    refine e_zald rfl rfl (Nat.le_of_ble_eq_true rfl) q71 rfl ?_
                    refine zk_jp1_e (Z := fun (v73 : Int32) => zC X 3 m_X8_lays 454 [some (.ref 76), none, some (.int p2), none, some (.int p4), some (.int p5), some (.int y6), none, none, none, none] [.int v73, .int p4, .ref 91] (z_Z, I70, J) 0 0 none (z_Z, IR, J)) h (fun v73 h => ?_) (fun K74 jK74 h => ?_)
                    · obtain ⟨q75, h⟩ := zk_ck_e h
                      refine e_zast rfl rfl (Nat.le_of_ble_eq_true rfl) q75 rfl ?_
                      obtain ⟨I76, hI76, h⟩ := zk_lt_g h
                      refine c_memI hI76 ?_
                      exact jK27 _ h
                    · refine zk_jp0_e (Z := zC X 3 m_X8_lays 449 [some (.ref 76), none, some (.int p2), none, some (.int p4), some (.int p5), some (.int y6), none, none, none, none] [.int p4, .ref 91] (z_Z, I70, J) 0 0 none (z_Z, IR, J)) h (fun h => ?_) (fun K77 jK77 h => ?_)
                      · refine c_iconst rfl vi_1 ?_
                        refine c_goto rfl ?_
                        exact jK74 _ h
                      · refine c_if_ne rfl (fun q72 => ?_) (fun q72 => ?_)
                        · rw [if_neg q72] at h
                          refine c_drop [true, true, true, true, true, true, true, false, true, true, true] (L2 := [some (.ref 76), none, some (.int p2), none, some (.int p4), some (.int p5), some (.int y6), none, none, none, none]) rfl ?_
                          exact jK77 h
                        · rw [if_pos q72] at h
                          refine c_aload_n rfl rfl ?_
                          refine c_getR rfl fk_X8_53 rfl (Nat.le_of_ble_eq_true rfl) rfl ?_
                          refine c_iload rfl rfl ?_
                          obtain ⟨q78, h⟩ := zk_ck_e h
                          refine e_zald rfl rfl (Nat.le_of_ble_eq_true rfl) q78 rfl ?_
                          refine c_if_ne rfl (fun q79 => ?_) (fun q79 => ?_)
                          · rw [if_neg q79] at h
                            refine c_iconst rfl vi_0 ?_
                            refine c_drop [true, true, true, true, true, true, true, false, true, true, true] (L2 := [some (.ref 76), none, some (.int p2), none, some (.int p4), some (.int p5), some (.int y6), none, none, none, none]) rfl ?_
                            exact jK74 _ h
                          · rw [if_pos q79] at h
                            refine c_drop [true, true, true, true, true, true, true, false, true, true, true] (L2 := [some (.ref 76), none, some (.int p2), none, some (.int p4), some (.int p5), some (.int y6), none, none, none, none]) rfl ?_
                            exact jK77 h
                  · refine c_icmp_le rfl (fun q66 => ?_) (fun q66 => ?_)
                    · rw [if_pos q66] at h
                      refine c_aload_n rfl rfl ?_
                      refine c_getR rfl fk_X8_50 rfl (Nat.le_of_ble_eq_true rfl) rfl ?_
                      refine c_iload rfl rfl ?_
                      obtain ⟨q80, h⟩ := zk_ck_e h
                      refine e_iald rfl rfl (Nat.le_of_ble_eq_true rfl) q80 rfl ?_
                      refine c_drop [true, true, true, true, true, true, true, true, true, true, false] (L2 := [some (.ref 76), none, some (.int p2), none, some (.int p4), some (.int p5), some (.int y6), some (.int x28), none, none, none]) rfl ?_
                      exact jK68 _ h
                    · rw [if_neg q66] at h
                      refine c_iload rfl rfl ?_
                      refine c_goto rfl ?_
                      refine c_drop [true, true, true, true, true, true, true, true, true, true, false] (L2 := [some (.ref 76), none, some (.int p2), none, some (.int p4), some (.int p5), some (.int y6), some (.int x28), none, none, none]) rfl ?_
                      exact jK68 _ h
                · refine c_icmp_ge rfl (fun q53 => ?_) (fun q53 => ?_)
                  · rw [if_pos q53] at h
                    refine c_aload_n rfl rfl ?_
                    refine c_getR rfl fk_X8_44 rfl (Nat.le_of_ble_eq_true rfl) rfl ?_
                    refine c_iload rfl rfl ?_
                    obtain ⟨q81, h⟩ := zk_ck_e h
                    refine e_iald rfl rfl (Nat.le_of_ble_eq_true rfl) q81 rfl ?_
                    exact jK55 _ h
                  · rw [if_neg q53] at h
                    refine c_aload_n rfl rfl ?_
                    refine c_getR rfl fk_X8_44 rfl (Nat.le_of_ble_eq_true rfl) rfl ?_
                    refine c_iload rfl rfl ?_
                    obtain ⟨q82, h⟩ := zk_ck_e h
                    refine e_iald rfl rfl (Nat.le_of_ble_eq_true rfl) q82 rfl ?_
                    refine c_iconst rfl vi_1 ?_
                    refine c_iadd rfl ?_
                    refine c_goto rfl ?_
                    exact jK55 _ h
              · refine c_icmp_le rfl (fun q46 => ?_) (fun q46 => ?_)
                · rw [if_pos q46] at h
                  refine c_aload_n rfl rfl ?_
                  refine c_getR rfl fk_X8_35 rfl (Nat.le_of_ble_eq_true rfl) rfl ?_
                  refine c_iload rfl rfl ?_
                  obtain ⟨q83, h⟩ := zk_ck_e h
                  refine e_iald rfl rfl (Nat.le_of_ble_eq_true rfl) q83 rfl ?_
                  refine c_drop [true, true, true, true, true, true, true, true, false, true, true] (L2 := [some (.ref 76), none, some (.int p2), none, some (.int p4), some (.int p5), some (.int y6), some (.int x28), none, none, none]) rfl ?_
                  exact jK48 _ h
                · rw [if_neg q46] at h
                  refine c_iload rfl rfl ?_
                  refine c_goto rfl ?_
                  refine c_drop [true, true, true, true, true, true, true, true, false, true, true] (L2 := [some (.ref 76), none, some (.int p2), none, some (.int p4), some (.int p5), some (.int y6), some (.int x28), none, none, none]) rfl ?_
                  exact jK48 _ h
            · refine c_icmp_le rfl (fun q40 => ?_) (fun q40 => ?_)
              · rw [if_pos q40] at h
                refine c_iload rfl rfl ?_
                refine c_aload_n rfl rfl ?_
                refine c_getR rfl fk_X8_35 rfl (Nat.le_of_ble_eq_true rfl) rfl ?_
                refine c_iload rfl rfl ?_
                obtain ⟨q84, h⟩ := zk_ck_e h
                refine e_iald rfl rfl (Nat.le_of_ble_eq_true rfl) q84 rfl ?_
                refine c_icmp_ne rfl (fun q85 => ?_) (fun q85 => ?_)
                · rw [if_neg q85] at h
                  refine c_aload_n rfl rfl ?_
                  refine c_getR rfl fk_X8_38 rfl (Nat.le_of_ble_eq_true rfl) rfl ?_
                  refine c_iload rfl rfl ?_
                  obtain ⟨q86, h⟩ := zk_ck_e h
                  refine e_iald rfl rfl (Nat.le_of_ble_eq_true rfl) q86 rfl ?_
                  exact jK42 _ h
                · rw [if_pos q85] at h
                  refine c_aload_n rfl rfl ?_
                  refine c_getR rfl fk_X8_38 rfl (Nat.le_of_ble_eq_true rfl) rfl ?_
                  refine c_iload rfl rfl ?_
                  obtain ⟨q87, h⟩ := zk_ck_e h
                  refine e_iald rfl rfl (Nat.le_of_ble_eq_true rfl) q87 rfl ?_
                  refine c_aload_n rfl rfl ?_
                  refine c_getR rfl fk_X8_38 rfl (Nat.le_of_ble_eq_true rfl) rfl ?_
                  refine c_iload rfl rfl ?_
                  obtain ⟨q88, h⟩ := zk_ck_e h
                  refine e_iald rfl rfl (Nat.le_of_ble_eq_true rfl) q88 rfl ?_
                  refine c_iadd rfl ?_
                  refine c_goto rfl ?_
                  exact jK42 _ h
              · rw [if_neg q40] at h
                refine c_aload_n rfl rfl ?_
                refine c_getR rfl fk_X8_38 rfl (Nat.le_of_ble_eq_true rfl) rfl ?_
                refine c_iload rfl rfl ?_
                obtain ⟨q89, h⟩ := zk_ck_e h
                refine e_iald rfl rfl (Nat.le_of_ble_eq_true rfl) q89 rfl ?_
                refine c_goto rfl ?_
                exact jK42 _ h
          · refine c_icmp_le rfl (fun q34 => ?_) (fun q34 => ?_)
            · rw [if_pos q34] at h
              refine c_iload rfl rfl ?_
              refine c_aload_n rfl rfl ?_
              refine c_getR rfl fk_X8_35 rfl (Nat.le_of_ble_eq_true rfl) rfl ?_
              refine c_iload rfl rfl ?_
              obtain ⟨q90, h⟩ := zk_ck_e h
              refine e_iald rfl rfl (Nat.le_of_ble_eq_true rfl) q90 rfl ?_
              refine c_icmp_ne rfl (fun q91 => ?_) (fun q91 => ?_)
              · rw [if_neg q91] at h
                refine c_aload_n rfl rfl ?_
                refine c_getR rfl fk_X8_41 rfl (Nat.le_of_ble_eq_true rfl) rfl ?_
                refine c_iload rfl rfl ?_
                obtain ⟨q92, h⟩ := zk_ck_e h
                refine e_iald rfl rfl (Nat.le_of_ble_eq_true rfl) q92 rfl ?_
                refine c_drop [true, true, true, true, true, true, true, true, true, false, true] (L2 := [some (.ref 76), none, some (.int p2), none, some (.int p4), some (.int p5), some (.int y6), some (.int x28), some (.int x30), none, none]) rfl ?_
                exact jK36 _ h
              · rw [if_pos q91] at h
                refine c_aload_n rfl rfl ?_
                refine c_getR rfl fk_X8_41 rfl (Nat.le_of_ble_eq_true rfl) rfl ?_
                refine c_iload rfl rfl ?_
                obtain ⟨q93, h⟩ := zk_ck_e h
                refine e_iald rfl rfl (Nat.le_of_ble_eq_true rfl) q93 rfl ?_
                refine c_iload rfl rfl ?_
                refine c_iand rfl ?_
                refine c_goto rfl ?_
                refine c_drop [true, true, true, true, true, true, true, true, true, false, true] (L2 := [some (.ref 76), none, some (.int p2), none, some (.int p4), some (.int p5), some (.int y6), some (.int x28), some (.int x30), none, none]) rfl ?_
                exact jK36 _ h
            · rw [if_neg q34] at h
              refine c_iload rfl rfl ?_
              refine c_goto rfl ?_
              refine c_drop [true, true, true, true, true, true, true, true, true, false, true] (L2 := [some (.ref 76), none, some (.int p2), none, some (.int p4), some (.int p5), some (.int y6), some (.int x28), some (.int x30), none, none]) rfl ?_
              exact jK36 _ h
set_option maxRecDepth 20000 in
theorem k_X8_lays {X : zk_X} {I : zk_I} {J : zk_J} {a1 : Int32} {a2 : Int32} {a3 : Int32} {IR : zk_I} (h : f_X8_lays I a1 a2 a3 = some IR) : zC X 3 m_X8_lays 0 (zk_ent [.ref 76, .int a1, .int a2, .int a3] 11) [] (z_Z, I, J) 0 0 none (z_Z, IR, J) := by
  unfold f_X8_lays at h
  refine c_ent (L2 := [some (.ref 76), some (.int a1), some (.int a2), some (.int a3), none, none, none, none, none, none, none]) rfl ?_
  refine c_bipush rfl vb_8 ?_
  refine c_iload_n rfl rfl ?_
  refine c_imul rfl ?_
  refine c_iload_n rfl rfl ?_
  refine c_iadd rfl ?_
  obtain ⟨x1, hx1, h⟩ := zk_lt_g h
  refine c_topi hx1 ?_
  refine e_istore (L2 := [some (.ref 76), some (.int a1), some (.int a2), some (.int a3), some (.int x1), none, none, none, none, none, none]) rfl rfl rfl rfl ?_
  refine c_aload_n rfl rfl ?_
  refine c_iload_n rfl rfl ?_
  refine c_iload_n rfl rfl ?_
  refine c_iload_n rfl rfl ?_
  obtain ⟨r3, h2, h⟩ := zk_bd1_e h
  refine e_callV (As := [.int a1, .int a2, .int a3]) (st := []) rfl lk_X8_155 rfl (Nat.le_of_ble_eq_true rfl) rfl rfl rfl (Nat.le_of_ble_eq_true rfl) rfl (k_X8_nexts h2) ?_
  refine e_istore (L2 := [some (.ref 76), some (.int a1), some (.int a2), some (.int a3), some (.int x1), some (.int r3), none, none, none, none, none]) rfl rfl rfl rfl ?_
  refine c_aload_n rfl rfl ?_
  refine c_getR rfl fk_X8_35 rfl (Nat.le_of_ble_eq_true rfl) rfl ?_
  refine c_iload rfl rfl ?_
  refine c_iconst rfl vi_0 ?_
  obtain ⟨q4, h⟩ := zk_ck_e h
  refine e_iast rfl rfl (Nat.le_of_ble_eq_true rfl) q4 rfl ?_
  obtain ⟨I5, hI5, h⟩ := zk_lt_g h
  refine c_memI hI5 ?_
  refine c_aload_n rfl rfl ?_
  refine c_getR rfl fk_X8_38 rfl (Nat.le_of_ble_eq_true rfl) rfl ?_
  refine c_iload rfl rfl ?_
  refine c_iload rfl rfl ?_
  refine zk_lt1K (Z := fun (v7 : Int32) => zC X 3 m_X8_lays 41 [some (.ref 76), none, some (.int a2), none, some (.int x1), some (.int r3), none, none, none, none, none] [.int v7, .int x1, .ref 86] (z_Z, I5, J) 0 0 none (z_Z, IR, J)) h (fun v7 h => ?_) (fun hz => ?_)
  · obtain ⟨q9, h⟩ := zk_ck_e h
    refine e_iast rfl rfl (Nat.le_of_ble_eq_true rfl) q9 rfl ?_
    obtain ⟨I10, hI10, h⟩ := zk_lt_g h
    refine c_memI hI10 ?_
    refine c_aload_n rfl rfl ?_
    refine c_getR rfl fk_X8_41 rfl (Nat.le_of_ble_eq_true rfl) rfl ?_
    refine c_iload rfl rfl ?_
    refine c_iconst rfl vi_0 ?_
    obtain ⟨q11, h⟩ := zk_ck_e h
    refine e_iast rfl rfl (Nat.le_of_ble_eq_true rfl) q11 rfl ?_
    obtain ⟨I12, hI12, h⟩ := zk_lt_g h
    refine c_memI hI12 ?_
    refine c_aload_n rfl rfl ?_
    refine c_getR rfl fk_X8_44 rfl (Nat.le_of_ble_eq_true rfl) rfl ?_
    refine c_iload rfl rfl ?_
    refine c_iload rfl rfl ?_
    refine zk_lt1K (Z := fun (v14 : Int32) => zC X 3 m_X8_lays 67 [some (.ref 76), none, some (.int a2), none, some (.int x1), some (.int r3), none, none, none, none, none] [.int v14, .int x1, .ref 88] (z_Z, I12, J) 0 0 none (z_Z, IR, J)) h (fun v14 h => ?_) (fun hz => ?_)
    · obtain ⟨q16, h⟩ := zk_ck_e h
      refine e_iast rfl rfl (Nat.le_of_ble_eq_true rfl) q16 rfl ?_
      obtain ⟨I17, hI17, h⟩ := zk_lt_g h
      refine c_memI hI17 ?_
      refine c_aload_n rfl rfl ?_
      refine c_getR rfl fk_X8_47 rfl (Nat.le_of_ble_eq_true rfl) rfl ?_
      refine c_iload rfl rfl ?_
      refine c_iconst rfl vi_0 ?_
      obtain ⟨q18, h⟩ := zk_ck_e h
      refine e_iast rfl rfl (Nat.le_of_ble_eq_true rfl) q18 rfl ?_
      obtain ⟨I19, hI19, h⟩ := zk_lt_g h
      refine c_memI hI19 ?_
      refine c_aload_n rfl rfl ?_
      refine c_getR rfl fk_X8_50 rfl (Nat.le_of_ble_eq_true rfl) rfl ?_
      refine c_iload rfl rfl ?_
      refine c_iconst rfl vi_0 ?_
      obtain ⟨q20, h⟩ := zk_ck_e h
      refine e_iast rfl rfl (Nat.le_of_ble_eq_true rfl) q20 rfl ?_
      obtain ⟨I21, hI21, h⟩ := zk_lt_g h
      refine c_memI hI21 ?_
      refine c_aload_n rfl rfl ?_
      refine c_getR rfl fk_X8_53 rfl (Nat.le_of_ble_eq_true rfl) rfl ?_
      refine c_iload rfl rfl ?_
      refine c_iconst rfl vi_0 ?_
      obtain ⟨q22, h⟩ := zk_ck_e h
      refine e_zast rfl rfl (Nat.le_of_ble_eq_true rfl) q22 rfl ?_
      obtain ⟨I23, hI23, h⟩ := zk_lt_g h
      refine c_memI hI23 ?_
      refine c_iconst rfl vi_0 ?_
      refine e_istore (L2 := [some (.ref 76), none, some (.int a2), none, some (.int x1), some (.int r3), some (.int (0 : Int32)), none, none, none, none]) rfl rfl rfl rfl ?_
      refine kl_X8_lays_95 (fun I94 h => ?_) _ _ _ h
      have h := zk_r1 h
      subst h
      exact c_return rfl rfl
    · refine c_if_ne rfl (fun q13 => ?_) (fun q13 => ?_)
      · refine c_bipush rfl vb_99 ?_
        rw [if_neg q13] at hz
        exact hz
      · refine c_iconst rfl vi_0 ?_
        refine c_goto rfl ?_
        rw [if_pos q13] at hz
        exact hz
  · refine c_if_ne rfl (fun q6 => ?_) (fun q6 => ?_)
    · refine c_iconst rfl vi_0 ?_
      refine c_drop [true, false, true, false, true, true, true, true, true, true, true] (L2 := [some (.ref 76), none, some (.int a2), none, some (.int x1), some (.int r3), none, none, none, none, none]) rfl ?_
      rw [if_neg q6] at hz
      exact hz
    · refine c_iconst rfl vi_1 ?_
      refine c_goto rfl ?_
      refine c_drop [true, false, true, false, true, true, true, true, true, true, true] (L2 := [some (.ref 76), none, some (.int a2), none, some (.int x1), some (.int r3), none, none, none, none, none]) rfl ?_
      rw [if_pos q6] at hz
      exact hz

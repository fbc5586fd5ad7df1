def l_X8_library_15 (p1 : Int32) (K : zk_I → Option (Int32 × zk_I)) : Nat → Int32 → zk_I → Option (Int32 × zk_I)
  | 0, _, _ => none
  | n + 1, y2, Iy => (if (38 : Int32) ≤ y2 then (
    K Iy) else (
    zk_ck (zk_in y2 38) (
     zk_ck (zk_in y2 38) (
      zk_lt (zk_sc Iy 78 (upd (Iy 78) y2.toNatClampNeg (Iy 79 y2.toNatClampNeg))) (fun (I8 : zk_I) =>
       l_X8_library_15 p1 K n (y2 + (1 : Int32)) I8)))))
def l_X8_library_55 (p1 : Int32) (K : zk_I → Option (Int32 × zk_I)) : Nat → Int32 → zk_I → Option (Int32 × zk_I)
  | 0, _, _ => none
  | n + 1, y2, Iy => (if (4 : Int32) ≤ y2 then (
    K Iy) else (
    zk_ck (zk_in ((34 : Int32) + y2) 38) (
     zk_ck (zk_in ((2 : Int32) + y2) 14) (
      zk_lt (zk_sc Iy 80 (upd (Iy 80) ((2 : Int32) + y2).toNatClampNeg (Iy 78 ((34 : Int32) + y2).toNatClampNeg))) (fun (I15 : zk_I) =>
       zk_jp1 (fun (v17 : Int32) =>
        zk_ck (zk_in ((6 : Int32) + y2) 14) (
         zk_lt (zk_sc I15 80 (upd (I15 80) ((6 : Int32) + y2).toNatClampNeg v17)) (fun (I20 : zk_I) =>
          zk_ck (zk_in ((10 : Int32) + y2) 14) (
           zk_lt (zk_sc I20 80 (upd (I20 80) ((10 : Int32) + y2).toNatClampNeg (0 : Int32))) (fun (I22 : zk_I) =>
            l_X8_library_55 p1 K n (y2 + (1 : Int32)) I22))))) (fun (K18 : Int32 → Option (Int32 × zk_I)) =>
        (if (I15 78 1) ≤ y2 then (
         K18 (0 : Int32)) else (
         zk_ck (zk_in ((34 : Int32) + y2) 38) (
          K18 ((1 : Int32) <<< ((I15 78 ((34 : Int32) + y2).toNatClampNeg) &&& 31)))))))))))
def f_X8_library (I : zk_I) : Option (Int32 × zk_I) := zk_bd2 (f_X8_reads I) (fun (r2 : Int32) (I3 : zk_I) =>
  (if r2 = (-1 : Int32) then (
   some ((-4 : Int32), I3)) else (
   l_X8_library_15 r2 (fun (I9 : zk_I) =>
    zk_lt (zk_sc I9 80 (upd (I9 80) 0 (0 : Int32))) (fun (I10 : zk_I) =>
     zk_lt (zk_sc I10 80 (upd (I10 80) 1 (0 : Int32))) (fun (I11 : zk_I) =>
      l_X8_library_55 r2 (fun (I24 : zk_I) =>
       zk_lt (zk_sc I24 76 (upd (I24 76) 6 (0 : Int32))) (fun (I25 : zk_I) =>
        zk_lt (zk_sc I25 76 (upd (I25 76) 10 (0 : Int32))) (fun (I26 : zk_I) =>
         zk_lt (zk_sc I26 83 (upd (I26 83) 0 (vp_nar .boolean (0 : Int32)))) (fun (I27 : zk_I) =>
          zk_lt (zk_sc I27 83 (upd (I27 83) 1 (vp_nar .boolean (0 : Int32)))) (fun (I28 : zk_I) =>
           zk_lt (zk_sc I28 76 (upd (I28 76) 1 (0 : Int32))) (fun (I29 : zk_I) =>
            some (r2, I29))))))) 3000 (0 : Int32) I11))) 3000 (0 : Int32) I3)))
set_option maxRecDepth 20000 in
theorem kl_X8_library_15 {X : zk_X} {p1 : Int32} {J : zk_J} {K : zk_I → Option (Int32 × zk_I)} {r : Int32} {IR : zk_I} (jK : ∀ (Iz : zk_I), K Iz = some (r, IR) → zC X 8 m_X8_library 39 [some (.ref 76), some (.int p1), none] [] (z_Z, Iz, J) 0 0 (some (.int r)) (z_Z, IR, J)) : ∀ (n : Nat) (y2 : Int32) (Iy : zk_I), l_X8_library_15 p1 K n y2 Iy = some (r, IR) → zC X 8 m_X8_library 15 [some (.ref 76), some (.int p1), some (.int y2)] [] (z_Z, Iy, J) 0 0 (some (.int r)) (z_Z, IR, J) := by
  intro n
  induction n with
  | zero =>
    intro y2 Iy h
    cases h
  | succ n ih =>
    intro y2 Iy h
    rw [l_X8_library_15] at h
    refine c_iload_n rfl rfl ?_
    refine c_bipush rfl vb_38 ?_
    refine c_icmp_ge rfl (fun q5 => ?_) (fun q5 => ?_)
    · rw [if_pos q5] at h
      refine c_drop [true, true, false] (L2 := [some (.ref 76), some (.int p1), none]) rfl ?_
      exact jK _ h
    · rw [if_neg q5] at h
      refine c_aload_n rfl rfl ?_
      refine c_getR rfl fk_X8_13 rfl (Nat.le_of_ble_eq_true rfl) rfl ?_
      refine c_iload_n rfl rfl ?_
      refine c_aload_n rfl rfl ?_
      refine c_getR rfl fk_X8_16 rfl (Nat.le_of_ble_eq_true rfl) rfl ?_
      refine c_iload_n rfl rfl ?_
      obtain ⟨q6, h⟩ := zk_ck_e h
      refine e_iald rfl rfl (Nat.le_of_ble_eq_true rfl) q6 rfl ?_
      obtain ⟨q7, h⟩ := zk_ck_e h
      refine e_iast rfl rfl (Nat.le_of_ble_eq_true rfl) q7 rfl ?_
      obtain ⟨I8, hI8, h⟩ := zk_lt_g h
      refine c_memI hI8 ?_
      refine e_iinc (L2 := [some (.ref 76), some (.int p1), some (.int (y2 + (1 : Int32)))]) rfl rfl vi_1 rfl rfl rfl ?_
      refine c_goto rfl ?_
      exact ih _ _ h
set_option maxRecDepth 20000 in
theorem kl_X8_library_55 {X : zk_X} {p1 : Int32} {J : zk_J} {K : zk_I → Option (Int32 × zk_I)} {r : Int32} {IR : zk_I} (jK : ∀ (Iz : zk_I), K Iz = some (r, IR) → zC X 8 m_X8_library 127 [some (.ref 76), some (.int p1), none] [] (z_Z, Iz, J) 0 0 (some (.int r)) (z_Z, IR, J)) : ∀ (n : Nat) (y2 : Int32) (Iy : zk_I), l_X8_library_55 p1 K n y2 Iy = some (r, IR) → zC X 8 m_X8_library 55 [some (.ref 76), some (.int p1), some (.int y2)] [] (z_Z, Iy, J) 0 0 (some (.int r)) (z_Z, IR, J) := by
  intro n
  induction n with
  | zero =>
    intro y2 Iy h
    cases h
  | succ n ih =>
    intro y2 Iy h
    rw [l_X8_library_55] at h
    refine c_iload_n rfl rfl ?_
    refine c_iconst rfl vi_4 ?_
    refine c_icmp_ge rfl (fun q12 => ?_) (fun q12 => ?_)
    · rw [if_pos q12] at h
      refine c_drop [true, true, false] (L2 := [some (.ref 76), some (.int p1), none]) rfl ?_
      exact jK _ h
    · rw [if_neg q12] at h
      refine c_aload_n rfl rfl ?_
      refine c_getR rfl fk_X8_19 rfl (Nat.le_of_ble_eq_true rfl) rfl ?_
      refine c_iconst rfl vi_2 ?_
      refine c_iload_n rfl rfl ?_
      refine c_iadd rfl ?_
      refine c_aload_n rfl rfl ?_
      refine c_getR rfl fk_X8_13 rfl (Nat.le_of_ble_eq_true rfl) rfl ?_
      refine c_bipush rfl vb_34 ?_
      refine c_iload_n rfl rfl ?_
      refine c_iadd rfl ?_
      obtain ⟨q13, h⟩ := zk_ck_e h
      refine e_iald rfl rfl (Nat.le_of_ble_eq_true rfl) q13 rfl ?_
      obtain ⟨q14, h⟩ := zk_ck_e h
      refine e_iast rfl rfl (Nat.le_of_ble_eq_true rfl) q14 rfl ?_
      obtain ⟨I15, hI15, h⟩ := zk_lt_g h
      refine c_memI hI15 ?_
      refine c_aload_n rfl rfl ?_
      refine c_getR rfl fk_X8_19 rfl (Nat.le_of_ble_eq_true rfl) rfl ?_
      refine c_bipush rfl vb_6 ?_
      refine c_iload_n rfl rfl ?_
      refine c_iadd rfl ?_
      refine c_iload_n rfl rfl ?_
      refine c_aload_n rfl rfl ?_
      refine c_getR rfl fk_X8_13 rfl (Nat.le_of_ble_eq_true rfl) rfl ?_
      refine c_iconst rfl vi_1 ?_
      refine e_iald rfl rfl (Nat.le_of_ble_eq_true rfl) (by decide) zt_1 ?_
      refine zk_jp1_e (Z := fun (v17 : Int32) => zC X 8 m_X8_library 110 [some (.ref 76), some (.int p1), some (.int y2)] [.int v17, .int ((6 : Int32) + y2), .ref 80] (z_Z, I15, J) 0 0 (some (.int r)) (z_Z, IR, J)) h (fun v17 h => ?_) (fun K18 jK18 h => ?_)
      · obtain ⟨q19, h⟩ := zk_ck_e h
        refine e_iast rfl rfl (Nat.le_of_ble_eq_true rfl) q19 rfl ?_
        obtain ⟨I20, hI20, h⟩ := zk_lt_g h
        refine c_memI hI20 ?_
        refine c_aload_n rfl rfl ?_
        refine c_getR rfl fk_X8_19 rfl (Nat.le_of_ble_eq_true rfl) rfl ?_
        refine c_bipush rfl vb_10 ?_
        refine c_iload_n rfl rfl ?_
        refine c_iadd rfl ?_
        refine c_iconst rfl vi_0 ?_
        obtain ⟨q21, h⟩ := zk_ck_e h
        refine e_iast rfl rfl (Nat.le_of_ble_eq_true rfl) q21 rfl ?_
        obtain ⟨I22, hI22, h⟩ := zk_lt_g h
        refine c_memI hI22 ?_
        refine e_iinc (L2 := [some (.ref 76), some (.int p1), some (.int (y2 + (1 : Int32)))]) rfl rfl vi_1 rfl rfl rfl ?_
        refine c_goto rfl ?_
        exact ih _ _ h
      · refine c_icmp_ge rfl (fun q16 => ?_) (fun q16 => ?_)
        · rw [if_pos q16] at h
          refine c_iconst rfl vi_0 ?_
          exact jK18 _ h
        · rw [if_neg q16] at h
          refine c_iconst rfl vi_1 ?_
          refine c_aload_n rfl rfl ?_
          refine c_getR rfl fk_X8_13 rfl (Nat.le_of_ble_eq_true rfl) rfl ?_
          refine c_bipush rfl vb_34 ?_
          refine c_iload_n rfl rfl ?_
          refine c_iadd rfl ?_
          obtain ⟨q23, h⟩ := zk_ck_e h
          refine e_iald rfl rfl (Nat.le_of_ble_eq_true rfl) q23 rfl ?_
          refine c_ishl rfl ?_
          refine c_goto rfl ?_
          exact jK18 _ h
set_option maxRecDepth 20000 in
theorem k_X8_library {X : zk_X} {I : zk_I} {J : zk_J} {r : Int32} {IR : zk_I} (h : f_X8_library I = some (r, IR)) : zC X 8 m_X8_library 0 (zk_ent [.ref 76] 3) [] (z_Z, I, J) 0 0 (some (.int r)) (z_Z, IR, J) := by
  unfold f_X8_library at h
  refine c_ent (L2 := [some (.ref 76), none, none]) rfl ?_
  refine c_aload_n rfl rfl ?_
  obtain ⟨r2, I3, h1, h⟩ := zk_bd2_e h
  refine e_callV (As := []) (st := []) rfl lk_X8_126 rfl (Nat.le_of_ble_eq_true rfl) rfl rfl rfl (Nat.le_of_ble_eq_true rfl) rfl (k_X8_reads h1) ?_
  refine e_istore_n (L2 := [some (.ref 76), some (.int r2), none]) rfl rfl rfl rfl ?_
  refine c_iload_n rfl rfl ?_
  refine c_iconst rfl vi_m1 ?_
  refine c_icmp_ne rfl (fun q4 => ?_) (fun q4 => ?_)
  · rw [if_neg q4] at h
    refine c_iconst rfl vi_0 ?_
    refine e_istore_n (L2 := [some (.ref 76), some (.int r2), some (.int (0 : Int32))]) rfl rfl rfl rfl ?_
    refine kl_X8_library_15 (fun I9 h => ?_) _ _ _ h
    refine c_aload_n rfl rfl ?_
    refine c_getR rfl fk_X8_19 rfl (Nat.le_of_ble_eq_true rfl) rfl ?_
    refine c_iconst rfl vi_0 ?_
    refine c_iconst rfl vi_0 ?_
    refine e_iast rfl rfl (Nat.le_of_ble_eq_true rfl) (by decide) zt_0 ?_
    obtain ⟨I10, hI10, h⟩ := zk_lt_g h
    refine c_memI hI10 ?_
    refine c_aload_n rfl rfl ?_
    refine c_getR rfl fk_X8_19 rfl (Nat.le_of_ble_eq_true rfl) rfl ?_
    refine c_iconst rfl vi_1 ?_
    refine c_iconst rfl vi_0 ?_
    refine e_iast rfl rfl (Nat.le_of_ble_eq_true rfl) (by decide) zt_1 ?_
    obtain ⟨I11, hI11, h⟩ := zk_lt_g h
    refine c_memI hI11 ?_
    refine c_iconst rfl vi_0 ?_
    refine e_istore_n (L2 := [some (.ref 76), some (.int r2), some (.int (0 : Int32))]) rfl rfl rfl rfl ?_
    refine kl_X8_library_55 (fun I24 h => ?_) _ _ _ h
    refine c_aload_n rfl rfl ?_
    refine c_iconst rfl vi_0 ?_
    refine c_putI rfl fk_X8_130 rfl rfl (Nat.le_of_ble_eq_true rfl) ?_
    obtain ⟨I25, hI25, h⟩ := zk_lt_g h
    refine c_memI hI25 ?_
    refine c_aload_n rfl rfl ?_
    refine c_iconst rfl vi_0 ?_
    refine c_putI rfl fk_X8_133 rfl rfl (Nat.le_of_ble_eq_true rfl) ?_
    obtain ⟨I26, hI26, h⟩ := zk_lt_g h
    refine c_memI hI26 ?_
    refine c_aload_n rfl rfl ?_
    refine c_getR rfl fk_X8_28 rfl (Nat.le_of_ble_eq_true rfl) rfl ?_
    refine c_iconst rfl vi_0 ?_
    refine c_iconst rfl vi_0 ?_
    refine e_zast rfl rfl (Nat.le_of_ble_eq_true rfl) (by decide) zt_0 ?_
    obtain ⟨I27, hI27, h⟩ := zk_lt_g h
    refine c_memI hI27 ?_
    refine c_aload_n rfl rfl ?_
    refine c_getR rfl fk_X8_28 rfl (Nat.le_of_ble_eq_true rfl) rfl ?_
    refine c_iconst rfl vi_1 ?_
    refine c_iconst rfl vi_0 ?_
    refine e_zast rfl rfl (Nat.le_of_ble_eq_true rfl) (by decide) zt_1 ?_
    obtain ⟨I28, hI28, h⟩ := zk_lt_g h
    refine c_memI hI28 ?_
    refine c_aload_n rfl rfl ?_
    refine c_iconst rfl vi_0 ?_
    refine c_putI rfl fk_X8_67 rfl rfl (Nat.le_of_ble_eq_true rfl) ?_
    obtain ⟨I29, hI29, h⟩ := zk_lt_g h
    refine c_memI hI29 ?_
    refine c_iload_n rfl rfl ?_
    obtain ⟨rfl, rfl⟩ := zk_r2 h
    exact c_ireturn rfl rfl rfl
  · rw [if_pos q4] at h
    refine c_bipush rfl vb_m4 ?_
    obtain ⟨rfl, rfl⟩ := zk_r2 h
    exact c_ireturn rfl rfl rfl
def l_X8_named_5 (I : zk_I) (p1 : Int32) (p2 : Int32) (K : Int32 → Option (Int32)) : Nat → Int32 → Int32 → Option (Int32)
  | 0, _, _ => none
  | n + 1, y3, y4 => (if (I 78 0) ≤ y4 then (
    K y3) else (
    zk_ck (zk_in ((26 : Int32) + y4) 38) (
     zk_lt (I 78 ((26 : Int32) + y4).toNatClampNeg) (fun (x3 : Int32) =>
      zk_ck (zk_in ((2 : Int32) + p1) 38) (
       zk_lt (I 78 ((2 : Int32) + p1).toNatClampNeg) (fun (x5 : Int32) =>
        zk_ck (zk_in ((10 : Int32) + y4) 38) (
         zk_ck (zk_in ((10 : Int32) + p1) 38) (
          zk_lt ((I 78 ((10 : Int32) + y4).toNatClampNeg) - (I 78 ((10 : Int32) + p1).toNatClampNeg)) (fun (x8 : Int32) =>
           zk_jp1 (fun (v10 : Int32) =>
            zk_jp1 (fun (v13 : Int32) =>
             zk_jp1 (fun (v16 : Int32) =>
              zk_lt ((if v16 = 0 then (0 : Int32) else ((1 : Int32) <<< (y4 &&& 31)))) (fun (v19 : Int32) =>
               l_X8_named_5 I p1 p2 K n (y3 ||| v19) (y4 + (1 : Int32)))) (fun (K17 : Int32 → Option (Int32)) =>
              zk_jp0 (K17 (0 : Int32)) (fun (K21 : Option (Int32)) =>
               (if v13 = 0 then (
                K21) else (
                zk_jp0 (zk_jp0 (K17 (1 : Int32)) (fun (K25 : Option (Int32)) =>
                  (if x5 = (3 : Int32) then (
                   (if 0 < x8 then (
                    K21) else (
                    K25))) else (
                   K25)))) (fun (K23 : Option (Int32)) =>
                 (if x5 = (1 : Int32) then (
                  (if x8 < 0 then (
                   K21) else (
                   K23))) else (
                  K23)))))))) (fun (K14 : Int32 → Option (Int32)) =>
             zk_jp0 (K14 (0 : Int32)) (fun (K28 : Option (Int32)) =>
              (if v10 = 0 then (
               K28) else (
               zk_jp0 (K14 (1 : Int32)) (fun (K30 : Option (Int32)) =>
                (if x5 = (2 : Int32) then (
                 K30) else (
                 zk_ck (zk_in ((18 : Int32) + p1) 38) (
                  (if (((I 78 ((18 : Int32) + p1).toNatClampNeg) >>> (y4 &&& 31)) &&& (1 : Int32)) = 0 then (
                   K30) else (
                   K28))))))))))) (fun (K11 : Int32 → Option (Int32)) =>
            zk_jp0 (K11 (0 : Int32)) (fun (K33 : Option (Int32)) =>
             (if y4 = p1 then (
              K33) else (
              zk_jp0 (K11 (1 : Int32)) (fun (K35 : Option (Int32)) =>
               (if x3 = (99 : Int32) then (
                K35) else (
                (if x3 ≤ p2 then (
                 K33) else (
                 K35))))))))))))))))))
def f_X8_named (I : zk_I) (a1 : Int32) (a2 : Int32) : Option (Int32) := l_X8_named_5 I a1 a2 (fun (z37 : Int32) =>
  some z37) 3000 (0 : Int32) (0 : Int32)
set_option maxRecDepth 20000 in
theorem kl_X8_named_5 {X : zk_X} {I : zk_I} {p1 : Int32} {p2 : Int32} {J : zk_J} {K : Int32 → Option (Int32)} {r : Int32} (jK : ∀ (z3 : Int32), K z3 = some r → zC X 1 m_X8_named 177 [none, none, none, some (.int z3), none, none, none, none, none] [] (z_Z, I, J) 0 0 (some (.int r)) (z_Z, I, J)) : ∀ (n : Nat) (y3 : Int32) (y4 : Int32), l_X8_named_5 I p1 p2 K n y3 y4 = some r → zC X 1 m_X8_named 5 [some (.ref 76), some (.int p1), some (.int p2), some (.int y3), some (.int y4), none, none, none, none] [] (z_Z, I, J) 0 0 (some (.int r)) (z_Z, I, J) := by
  intro n
  induction n with
  | zero =>
    intro y3 y4 h
    cases h
  | succ n ih =>
    intro y3 y4 h
    rw [l_X8_named_5] at h
    refine c_iload rfl rfl ?_
    refine c_aload_n rfl rfl ?_
    refine c_getR rfl fk_X8_13 rfl (Nat.le_of_ble_eq_true rfl) rfl ?_
    refine c_iconst rfl vi_0 ?_
    refine e_iald rfl rfl (Nat.le_of_ble_eq_true rfl) (by decide) zt_0 ?_
    refine c_icmp_ge rfl (fun q1 => ?_) (fun q1 => ?_)
    · rw [if_pos q1] at h
      refine c_drop [false, false, false, true, false, true, true, true, true] (L2 := [none, none, none, some (.int y3), none, none, none, none, none]) rfl ?_
      exact jK _ h
    · rw [if_neg q1] at h
      refine c_aload_n rfl rfl ?_
      refine c_getR rfl fk_X8_13 rfl (Nat.le_of_ble_eq_true rfl) rfl ?_
      refine c_bipush rfl vb_26 ?_
      refine c_iload rfl rfl ?_
      refine c_iadd rfl ?_
      obtain ⟨q2, h⟩ := zk_ck_e h
      refine e_iald rfl rfl (Nat.le_of_ble_eq_true rfl) q2 rfl ?_
      obtain ⟨x3, hx3, h⟩ := zk_lt_g h
      refine c_topi hx3 ?_
      refine e_istore (L2 := [some (.ref 76), some (.int p1), some (.int p2), some (.int y3), some (.int y4), some (.int x3), none, none, none]) rfl rfl rfl rfl ?_
      refine c_aload_n rfl rfl ?_
      refine c_getR rfl fk_X8_13 rfl (Nat.le_of_ble_eq_true rfl) rfl ?_
      refine c_iconst rfl vi_2 ?_
      refine c_iload_n rfl rfl ?_
      refine c_iadd rfl ?_
      obtain ⟨q4, h⟩ := zk_ck_e h
      refine e_iald rfl rfl (Nat.le_of_ble_eq_true rfl) q4 rfl ?_
      obtain ⟨x5, hx5, h⟩ := zk_lt_g h
      refine c_topi hx5 ?_
      refine e_istore (L2 := [some (.ref 76), some (.int p1), some (.int p2), some (.int y3), some (.int y4), some (.int x3), some (.int x5), none, none]) rfl rfl rfl rfl ?_
      refine c_aload_n rfl rfl ?_
      refine c_getR rfl fk_X8_13 rfl (Nat.le_of_ble_eq_true rfl) rfl ?_
      refine c_bipush rfl vb_10 ?_
      refine c_iload rfl rfl ?_
      refine c_iadd rfl ?_
      obtain ⟨q6, h⟩ := zk_ck_e h
      refine e_iald rfl rfl (Nat.le_of_ble_eq_true rfl) q6 rfl ?_
      refine c_aload_n rfl rfl ?_
      refine c_getR rfl fk_X8_13 rfl (Nat.le_of_ble_eq_true rfl) rfl ?_
      refine c_bipush rfl vb_10 ?_
      refine c_iload_n rfl rfl ?_
      refine c_iadd rfl ?_
      obtain ⟨q7, h⟩ := zk_ck_e h
      refine e_iald rfl rfl (Nat.le_of_ble_eq_true rfl) q7 rfl ?_
      refine c_isub rfl ?_
      obtain ⟨x8, hx8, h⟩ := zk_lt_g h
      refine c_topi hx8 ?_
      refine e_istore (L2 := [some (.ref 76), some (.int p1), some (.int p2), some (.int y3), some (.int y4), some (.int x3), some (.int x5), some (.int x8), none]) rfl rfl rfl rfl ?_
      refine c_iload rfl rfl ?_
      refine c_iload_n rfl rfl ?_
      refine zk_jp1_e (Z := fun (v10 : Int32) => zC X 1 m_X8_named 84 [some (.ref 76), some (.int p1), some (.int p2), some (.int y3), some (.int y4), none, some (.int x5), some (.int x8), none] [.int v10] (z_Z, I, J) 0 0 (some (.int r)) (z_Z, I, J)) h (fun v10 h => ?_) (fun K11 jK11 h => ?_)
      · refine e_istore (L2 := [some (.ref 76), some (.int p1), some (.int p2), some (.int y3), some (.int y4), none, some (.int x5), some (.int x8), some (.int v10)]) rfl rfl rfl rfl ?_
        refine c_iload rfl rfl ?_
        refine zk_jp1_e (Z := fun (v13 : Int32) => zC X 1 m_X8_named 119 [some (.ref 76), some (.int p1), some (.int p2), some (.int y3), some (.int y4), none, some (.int x5), some (.int x8), none] [.int v13] (z_Z, I, J) 0 0 (some (.int r)) (z_Z, I, J)) h (fun v13 h => ?_) (fun K14 jK14 h => ?_)
        · refine e_istore (L2 := [some (.ref 76), some (.int p1), some (.int p2), some (.int y3), some (.int y4), none, some (.int x5), some (.int x8), some (.int v13)]) rfl rfl rfl rfl ?_
          refine c_iload rfl rfl ?_
          refine zk_jp1_e (Z := fun (v16 : Int32) => zC X 1 m_X8_named 153 [some (.ref 76), some (.int p1), some (.int p2), some (.int y3), some (.int y4), none, none, none, none] [.int v16] (z_Z, I, J) 0 0 (some (.int r)) (z_Z, I, J)) h (fun v16 h => ?_) (fun K17 jK17 h => ?_)
          · refine e_istore (L2 := [some (.ref 76), some (.int p1), some (.int p2), some (.int y3), some (.int y4), none, none, none, some (.int v16)]) rfl rfl rfl rfl ?_
            refine c_iload_n rfl rfl ?_
            refine c_iload rfl rfl ?_
            refine zk_lt1K (Z := fun (v19 : Int32) => zC X 1 m_X8_named 169 [some (.ref 76), some (.int p1), some (.int p2), none, some (.int y4), none, none, none, none] [.int v19, .int y3] (z_Z, I, J) 0 0 (some (.int r)) (z_Z, I, J)) h (fun v19 h => ?_) (fun hz => ?_)
            · refine c_ior rfl ?_
              refine e_istore_n (L2 := [some (.ref 76), some (.int p1), some (.int p2), some (.int (y3 ||| v19)), some (.int y4), none, none, none, none]) rfl rfl rfl rfl ?_
              refine e_iinc (L2 := [some (.ref 76), some (.int p1), some (.int p2), some (.int (y3 ||| v19)), some (.int (y4 + (1 : Int32))), none, none, none, none]) rfl rfl vi_1 rfl rfl rfl ?_
              refine c_goto rfl ?_
              exact ih _ _ h
            · refine c_if_eq rfl (fun q18 => ?_) (fun q18 => ?_)
              · refine c_iconst rfl vi_0 ?_
                refine c_drop [true, true, true, false, true, true, true, true, false] (L2 := [some (.ref 76), some (.int p1), some (.int p2), none, some (.int y4), none, none, none, none]) rfl ?_
                rw [if_pos q18] at hz
                exact hz
              · refine c_iconst rfl vi_1 ?_
                refine c_iload rfl rfl ?_
                refine c_ishl rfl ?_
                refine c_goto rfl ?_
                refine c_drop [true, true, true, false, true, true, true, true, false] (L2 := [some (.ref 76), some (.int p1), some (.int p2), none, some (.int y4), none, none, none, none]) rfl ?_
                rw [if_neg q18] at hz
                exact hz
          · refine zk_jp0_e (Z := zC X 1 m_X8_named 152 [some (.ref 76), some (.int p1), some (.int p2), some (.int y3), some (.int y4), none, none, none, none] [] (z_Z, I, J) 0 0 (some (.int r)) (z_Z, I, J)) h (fun h => ?_) (fun K21 jK21 h => ?_)
            · refine c_iconst rfl vi_0 ?_
              exact jK17 _ h
            · refine c_if_eq rfl (fun q15 => ?_) (fun q15 => ?_)
              · rw [if_pos q15] at h
                refine c_drop [true, true, true, true, true, true, false, false, false] (L2 := [some (.ref 76), some (.int p1), some (.int p2), some (.int y3), some (.int y4), none, none, none, none]) rfl ?_
                exact jK21 h
              · rw [if_neg q15] at h
                refine c_iload rfl rfl ?_
                refine c_iconst rfl vi_1 ?_
                refine zk_jp0_e (Z := zC X 1 m_X8_named 137 [some (.ref 76), some (.int p1), some (.int p2), some (.int y3), some (.int y4), none, some (.int x5), some (.int x8), none] [] (z_Z, I, J) 0 0 (some (.int r)) (z_Z, I, J)) h (fun h => ?_) (fun K23 jK23 h => ?_)
                · refine c_iload rfl rfl ?_
                  refine c_iconst rfl vi_3 ?_
                  refine zk_jp0_e (Z := zC X 1 m_X8_named 148 [some (.ref 76), some (.int p1), some (.int p2), some (.int y3), some (.int y4), none, none, none, none] [] (z_Z, I, J) 0 0 (some (.int r)) (z_Z, I, J)) h (fun h => ?_) (fun K25 jK25 h => ?_)
                  · refine c_iconst rfl vi_1 ?_
                    refine c_goto rfl ?_
                    exact jK17 _ h
                  · refine c_icmp_ne rfl (fun q24 => ?_) (fun q24 => ?_)
                    · rw [if_neg q24] at h
                      refine c_drop [true, true, true, true, true, true, false, false, true] (L2 := [some (.ref 76), some (.int p1), some (.int p2), some (.int y3), some (.int y4), none, none, none, none]) rfl ?_
                      exact jK25 h
                    · rw [if_pos q24] at h
                      refine c_iload rfl rfl ?_
                      refine c_if_gt rfl (fun q26 => ?_) (fun q26 => ?_)
                      · rw [if_pos q26] at h
                        refine c_drop [true, true, true, true, true, true, false, false, true] (L2 := [some (.ref 76), some (.int p1), some (.int p2), some (.int y3), some (.int y4), none, none, none, none]) rfl ?_
                        exact jK21 h
                      · rw [if_neg q26] at h
                        refine c_drop [true, true, true, true, true, true, false, false, true] (L2 := [some (.ref 76), some (.int p1), some (.int p2), some (.int y3), some (.int y4), none, none, none, none]) rfl ?_
                        exact jK25 h
                · refine c_icmp_ne rfl (fun q22 => ?_) (fun q22 => ?_)
                  · rw [if_neg q22] at h
                    refine c_drop [true, true, true, true, true, true, true, true, false] (L2 := [some (.ref 76), some (.int p1), some (.int p2), some (.int y3), some (.int y4), none, some (.int x5), some (.int x8), none]) rfl ?_
                    exact jK23 h
                  · rw [if_pos q22] at h
                    refine c_iload rfl rfl ?_
                    refine c_if_lt rfl (fun q27 => ?_) (fun q27 => ?_)
                    · rw [if_pos q27] at h
                      refine c_drop [true, true, true, true, true, true, false, false, false] (L2 := [some (.ref 76), some (.int p1), some (.int p2), some (.int y3), some (.int y4), none, none, none, none]) rfl ?_
                      exact jK21 h
                    · rw [if_neg q27] at h
                      refine c_drop [true, true, true, true, true, true, true, true, false] (L2 := [some (.ref 76), some (.int p1), some (.int p2), some (.int y3), some (.int y4), none, some (.int x5), some (.int x8), none]) rfl ?_
                      exact jK23 h
        · refine zk_jp0_e (Z := zC X 1 m_X8_named 118 [some (.ref 76), some (.int p1), some (.int p2), some (.int y3), some (.int y4), none, some (.int x5), some (.int x8), none] [] (z_Z, I, J) 0 0 (some (.int r)) (z_Z, I, J)) h (fun h => ?_) (fun K28 jK28 h => ?_)
          · refine c_iconst rfl vi_0 ?_
            exact jK14 _ h
          · refine c_if_eq rfl (fun q12 => ?_) (fun q12 => ?_)
            · rw [if_pos q12] at h
              refine c_drop [true, true, true, true, true, true, true, true, false] (L2 := [some (.ref 76), some (.int p1), some (.int p2), some (.int y3), some (.int y4), none, some (.int x5), some (.int x8), none]) rfl ?_
              exact jK28 h
            · rw [if_neg q12] at h
              refine c_iload rfl rfl ?_
              refine c_iconst rfl vi_2 ?_
              refine zk_jp0_e (Z := zC X 1 m_X8_named 114 [some (.ref 76), some (.int p1), some (.int p2), some (.int y3), some (.int y4), none, some (.int x5), some (.int x8), none] [] (z_Z, I, J) 0 0 (some (.int r)) (z_Z, I, J)) h (fun h => ?_) (fun K30 jK30 h => ?_)
              · refine c_iconst rfl vi_1 ?_
                refine c_goto rfl ?_
                exact jK14 _ h
              · refine c_icmp_eq rfl (fun q29 => ?_) (fun q29 => ?_)
                · rw [if_pos q29] at h
                  refine c_drop [true, true, true, true, true, true, true, true, false] (L2 := [some (.ref 76), some (.int p1), some (.int p2), some (.int y3), some (.int y4), none, some (.int x5), some (.int x8), none]) rfl ?_
                  exact jK30 h
                · rw [if_neg q29] at h
                  refine c_aload_n rfl rfl ?_
                  refine c_getR rfl fk_X8_13 rfl (Nat.le_of_ble_eq_true rfl) rfl ?_
                  refine c_bipush rfl vb_18 ?_
                  refine c_iload_n rfl rfl ?_
                  refine c_iadd rfl ?_
                  obtain ⟨q31, h⟩ := zk_ck_e h
                  refine e_iald rfl rfl (Nat.le_of_ble_eq_true rfl) q31 rfl ?_
                  refine c_iload rfl rfl ?_
                  refine c_ishr rfl ?_
                  refine c_iconst rfl vi_1 ?_
                  refine c_iand rfl ?_
                  refine c_if_ne rfl (fun q32 => ?_) (fun q32 => ?_)
                  · rw [if_neg q32] at h
                    refine c_drop [true, true, true, true, true, true, true, true, false] (L2 := [some (.ref 76), some (.int p1), some (.int p2), some (.int y3), some (.int y4), none, some (.int x5), some (.int x8), none]) rfl ?_
                    exact jK28 h
                  · rw [if_pos q32] at h
                    refine c_drop [true, true, true, true, true, true, true, true, false] (L2 := [some (.ref 76), some (.int p1), some (.int p2), some (.int y3), some (.int y4), none, some (.int x5), some (.int x8), none]) rfl ?_
                    exact jK30 h
      · refine zk_jp0_e (Z := zC X 1 m_X8_named 83 [some (.ref 76), some (.int p1), some (.int p2), some (.int y3), some (.int y4), none, some (.int x5), some (.int x8), none] [] (z_Z, I, J) 0 0 (some (.int r)) (z_Z, I, J)) h (fun h => ?_) (fun K33 jK33 h => ?_)
        · refine c_iconst rfl vi_0 ?_
          exact jK11 _ h
        · refine c_icmp_eq rfl (fun q9 => ?_) (fun q9 => ?_)
          · rw [if_pos q9] at h
            refine c_drop [true, true, true, true, true, false, true, true, true] (L2 := [some (.ref 76), some (.int p1), some (.int p2), some (.int y3), some (.int y4), none, some (.int x5), some (.int x8), none]) rfl ?_
            exact jK33 h
          · rw [if_neg q9] at h
            refine c_iload rfl rfl ?_
            refine c_bipush rfl vb_99 ?_
            refine zk_jp0_e (Z := zC X 1 m_X8_named 79 [some (.ref 76), some (.int p1), some (.int p2), some (.int y3), some (.int y4), none, some (.int x5), some (.int x8), none] [] (z_Z, I, J) 0 0 (some (.int r)) (z_Z, I, J)) h (fun h => ?_) (fun K35 jK35 h => ?_)
            · refine c_iconst rfl vi_1 ?_
              refine c_goto rfl ?_
              exact jK11 _ h
            · refine c_icmp_eq rfl (fun q34 => ?_) (fun q34 => ?_)
              · rw [if_pos q34] at h
                refine c_drop [true, true, true, true, true, false, true, true, true] (L2 := [some (.ref 76), some (.int p1), some (.int p2), some (.int y3), some (.int y4), none, some (.int x5), some (.int x8), none]) rfl ?_
                exact jK35 h
              · rw [if_neg q34] at h
                refine c_iload rfl rfl ?_
                refine c_iload_n rfl rfl ?_
                refine c_icmp_le rfl (fun q36 => ?_) (fun q36 => ?_)
                · rw [if_pos q36] at h
                  refine c_drop [true, true, true, true, true, false, true, true, true] (L2 := [some (.ref 76), some (.int p1), some (.int p2), some (.int y3), some (.int y4), none, some (.int x5), some (.int x8), none]) rfl ?_
                  exact jK33 h
                · rw [if_neg q36] at h
                  refine c_drop [true, true, true, true, true, false, true, true, true] (L2 := [some (.ref 76), some (.int p1), some (.int p2), some (.int y3), some (.int y4), none, some (.int x5), some (.int x8), none]) rfl ?_
                  exact jK35 h
set_option maxRecDepth 20000 in
theorem k_X8_named {X : zk_X} {I : zk_I} {J : zk_J} {a1 : Int32} {a2 : Int32} {r : Int32} (h : f_X8_named I a1 a2 = some r) : zC X 1 m_X8_named 0 (zk_ent [.ref 76, .int a1, .int a2] 9) [] (z_Z, I, J) 0 0 (some (.int r)) (z_Z, I, J) := by
  unfold f_X8_named at h
  refine c_ent (L2 := [some (.ref 76), some (.int a1), some (.int a2), none, none, none, none, none, none]) rfl ?_
  refine c_iconst rfl vi_0 ?_
  refine e_istore_n (L2 := [some (.ref 76), some (.int a1), some (.int a2), some (.int (0 : Int32)), none, none, none, none, none]) rfl rfl rfl rfl ?_
  refine c_iconst rfl vi_0 ?_
  refine e_istore (L2 := [some (.ref 76), some (.int a1), some (.int a2), some (.int (0 : Int32)), some (.int (0 : Int32)), none, none, none, none]) rfl rfl rfl rfl ?_
  refine kl_X8_named_5 (fun z37 h => ?_) _ _ _ h
  refine c_iload_n rfl rfl ?_
  have h := zk_r1 h
  subst h
  exact c_ireturn rfl rfl rfl
def f_X8_namedNow (I : zk_I) (a1 : Int32) : Option (Int32) := zk_ck (zk_in ((2 : Int32) + a1) 14) (
  zk_bd1 (f_X8_named I (I 80 ((2 : Int32) + a1).toNatClampNeg) (I 80 0)) (fun (r3 : Int32) =>
   zk_ck (zk_in ((6 : Int32) + a1) 14) (
    some (r3 &&& ((I 80 ((6 : Int32) + a1).toNatClampNeg) ^^^ (-1 : Int32))))))
set_option maxRecDepth 20000 in
theorem k_X8_namedNow {X : zk_X} {I : zk_I} {J : zk_J} {a1 : Int32} {r : Int32} (h : f_X8_namedNow I a1 = some r) : zC X 2 m_X8_namedNow 0 (zk_ent [.ref 76, .int a1] 2) [] (z_Z, I, J) 0 0 (some (.int r)) (z_Z, I, J) := by
  unfold f_X8_namedNow at h
  refine c_ent (L2 := [some (.ref 76), some (.int a1)]) rfl ?_
  refine c_aload_n rfl rfl ?_
  refine c_aload_n rfl rfl ?_
  refine c_getR rfl fk_X8_19 rfl (Nat.le_of_ble_eq_true rfl) rfl ?_
  refine c_iconst rfl vi_2 ?_
  refine c_iload_n rfl rfl ?_
  refine c_iadd rfl ?_
  obtain ⟨q1, h⟩ := zk_ck_e h
  refine e_iald rfl rfl (Nat.le_of_ble_eq_true rfl) q1 rfl ?_
  refine c_aload_n rfl rfl ?_
  refine c_getR rfl fk_X8_19 rfl (Nat.le_of_ble_eq_true rfl) rfl ?_
  refine c_iconst rfl vi_0 ?_
  refine e_iald rfl rfl (Nat.le_of_ble_eq_true rfl) (by decide) zt_0 ?_
  obtain ⟨r3, h2, h⟩ := zk_bd1_e h
  refine e_callV (As := [.int (I 80 ((2 : Int32) + a1).toNatClampNeg), .int (I 80 0)]) (st := []) rfl lk_X8_136 rfl (Nat.le_of_ble_eq_true rfl) rfl rfl rfl (Nat.le_of_ble_eq_true rfl) rfl (k_X8_named h2) ?_
  refine c_aload_n rfl rfl ?_
  refine c_getR rfl fk_X8_19 rfl (Nat.le_of_ble_eq_true rfl) rfl ?_
  refine c_bipush rfl vb_6 ?_
  refine c_iload_n rfl rfl ?_
  refine c_iadd rfl ?_
  obtain ⟨q4, h⟩ := zk_ck_e h
  refine e_iald rfl rfl (Nat.le_of_ble_eq_true rfl) q4 rfl ?_
  refine c_iconst rfl vi_m1 ?_
  refine c_ixor rfl ?_
  refine c_iand rfl ?_
  have h := zk_r1 h
  subst h
  exact c_ireturn rfl rfl rfl
def l_X8_reader_31 (I : zk_I) (p1 : Int32) (p2 : Int32) (K : Int32 → Int32 → Option (Int32)) : Nat → Int32 → Int32 → Int32 → Option (Int32)
  | 0, _, _, _ => none
  | n + 1, y3, y4, y5 => (if (I 78 1) ≤ y5 then (
    K y3 y4) else (
    zk_ck (zk_in ((2 : Int32) + y5) 14) (
     zk_lt ((if (I 80 ((2 : Int32) + y5).toNatClampNeg) = p1 then ((1 : Int32) <<< (y5 &&& 31)) else (0 : Int32))) (fun (v10 : Int32) =>
      zk_ck (zk_in ((6 : Int32) + y5) 14) (
       zk_lt (y4 ||| ((((I 80 ((6 : Int32) + y5).toNatClampNeg) >>> (p1 &&& 31)) &&& (1 : Int32)) <<< (y5 &&& 31))) (fun (x13 : Int32) =>
        l_X8_reader_31 I p1 p2 K n (y3 ||| v10) x13 (y5 + (1 : Int32))))))))
def f_X8_reader (I : zk_I) (a1 : Int32) (a2 : Int32) : Option (Int32) := zk_bd1 (f_X8_isReader I a1) (fun (r2 : Int32) =>
  (if r2 = 0 then (
   some (-2 : Int32)) else (
   zk_lt (f_X8_in a2 (0 : Int32) (5 : Int32)) (fun (r5 : Int32) =>
    (if r5 = 0 then (
     some (-3 : Int32)) else (
     l_X8_reader_31 I a1 a2 (fun (z14 : Int32) (z15 : Int32) =>
      (if (4 : Int32) ≤ a2 then (
       (if a2 = (4 : Int32) then (
        some z14) else (
        some z15))) else (
       zk_ck (zk_in (((2 : Int32) + ((8 : Int32) * a2)) + a1) 38) (
        some (I 78 (((2 : Int32) + ((8 : Int32) * a2)) + a1).toNatClampNeg))))) 3000 (0 : Int32) (0 : Int32) (0 : Int32)))))))
set_option maxRecDepth 20000 in
theorem kl_X8_reader_31 {X : zk_X} {I : zk_I} {p1 : Int32} {p2 : Int32} {J : zk_J} {K : Int32 → Int32 → Option (Int32)} {r : Int32} (jK : ∀ (z3 : Int32) (z4 : Int32), K z3 z4 = some r → zC X 3 m_X8_reader 94 [some (.ref 76), some (.int p1), some (.int p2), some (.int z3), some (.int z4), none] [] (z_Z, I, J) 0 0 (some (.int r)) (z_Z, I, J)) : ∀ (n : Nat) (y3 : Int32) (y4 : Int32) (y5 : Int32), l_X8_reader_31 I p1 p2 K n y3 y4 y5 = some r → zC X 3 m_X8_reader 31 [some (.ref 76), some (.int p1), some (.int p2), some (.int y3), some (.int y4), some (.int y5)] [] (z_Z, I, J) 0 0 (some (.int r)) (z_Z, I, J) := by
  intro n
  induction n with
  | zero =>
    intro y3 y4 y5 h
    cases h
  | succ n ih =>
    intro y3 y4 y5 h
    rw [l_X8_reader_31] at h
    refine c_iload rfl rfl ?_
    refine c_aload_n rfl rfl ?_
    refine c_getR rfl fk_X8_13 rfl (Nat.le_of_ble_eq_true rfl) rfl ?_
    refine c_iconst rfl vi_1 ?_
    refine e_iald rfl rfl (Nat.le_of_ble_eq_true rfl) (by decide) zt_1 ?_
    refine c_icmp_ge rfl (fun q7 => ?_) (fun q7 => ?_)
    · rw [if_pos q7] at h
      refine c_drop [true, true, true, true, true, false] (L2 := [some (.ref 76), some (.int p1), some (.int p2), some (.int y3), some (.int y4), none]) rfl ?_
      exact jK _ _ h
    · rw [if_neg q7] at h
      refine c_iload_n rfl rfl ?_
      refine c_aload_n rfl rfl ?_
      refine c_getR rfl fk_X8_19 rfl (Nat.le_of_ble_eq_true rfl) rfl ?_
      refine c_iconst rfl vi_2 ?_
      refine c_iload rfl rfl ?_
      refine c_iadd rfl ?_
      obtain ⟨q8, h⟩ := zk_ck_e h
      refine e_iald rfl rfl (Nat.le_of_ble_eq_true rfl) q8 rfl ?_
      refine c_iload_n rfl rfl ?_
      refine zk_lt1K (Z := fun (v10 : Int32) => zC X 3 m_X8_reader 64 [some (.ref 76), some (.int p1), some (.int p2), none, some (.int y4), some (.int y5)] [.int v10, .int y3] (z_Z, I, J) 0 0 (some (.int r)) (z_Z, I, J)) h (fun v10 h => ?_) (fun hz => ?_)
      · refine c_ior rfl ?_
        refine e_istore_n (L2 := [some (.ref 76), some (.int p1), some (.int p2), some (.int (y3 ||| v10)), some (.int y4), some (.int y5)]) rfl rfl rfl rfl ?_
        refine c_iload rfl rfl ?_
        refine c_aload_n rfl rfl ?_
        refine c_getR rfl fk_X8_19 rfl (Nat.le_of_ble_eq_true rfl) rfl ?_
        refine c_bipush rfl vb_6 ?_
        refine c_iload rfl rfl ?_
        refine c_iadd rfl ?_
        obtain ⟨q12, h⟩ := zk_ck_e h
        refine e_iald rfl rfl (Nat.le_of_ble_eq_true rfl) q12 rfl ?_
        refine c_iload_n rfl rfl ?_
        refine c_ishr rfl ?_
        refine c_iconst rfl vi_1 ?_
        refine c_iand rfl ?_
        refine c_iload rfl rfl ?_
        refine c_ishl rfl ?_
        refine c_ior rfl ?_
        obtain ⟨x13, hx13, h⟩ := zk_lt_g h
        refine c_topi hx13 ?_
        refine e_istore (L2 := [some (.ref 76), some (.int p1), some (.int p2), some (.int (y3 ||| v10)), some (.int x13), some (.int y5)]) rfl rfl rfl rfl ?_
        refine e_iinc (L2 := [some (.ref 76), some (.int p1), some (.int p2), some (.int (y3 ||| v10)), some (.int x13), some (.int (y5 + (1 : Int32)))]) rfl rfl vi_1 rfl rfl rfl ?_
        refine c_goto rfl ?_
        exact ih _ _ _ h
      · refine c_icmp_ne rfl (fun q9 => ?_) (fun q9 => ?_)
        · refine c_iconst rfl vi_0 ?_
          refine c_drop [true, true, true, false, true, true] (L2 := [some (.ref 76), some (.int p1), some (.int p2), none, some (.int y4), some (.int y5)]) rfl ?_
          rw [if_neg q9] at hz
          exact hz
        · refine c_iconst rfl vi_1 ?_
          refine c_iload rfl rfl ?_
          refine c_ishl rfl ?_
          refine c_goto rfl ?_
          refine c_drop [true, true, true, false, true, true] (L2 := [some (.ref 76), some (.int p1), some (.int p2), none, some (.int y4), some (.int y5)]) rfl ?_
          rw [if_pos q9] at hz
          exact hz
set_option maxRecDepth 20000 in
theorem k_X8_reader {X : zk_X} {I : zk_I} {J : zk_J} {a1 : Int32} {a2 : Int32} {r : Int32} (h : f_X8_reader I a1 a2 = some r) : zC X 3 m_X8_reader 0 (zk_ent [.ref 76, .int a1, .int a2] 6) [] (z_Z, I, J) 0 0 (some (.int r)) (z_Z, I, J) := by
  unfold f_X8_reader at h
  refine c_ent (L2 := [some (.ref 76), some (.int a1), some (.int a2), none, none, none]) rfl ?_
  refine c_aload_n rfl rfl ?_
  refine c_iload_n rfl rfl ?_
  obtain ⟨r2, h1, h⟩ := zk_bd1_e h
  refine e_callV (As := [.int a1]) (st := []) rfl lk_X8_140 rfl (Nat.le_of_ble_eq_true rfl) rfl rfl rfl (Nat.le_of_ble_eq_true rfl) rfl (k_X8_isReader h1) ?_
  refine c_if_ne rfl (fun q3 => ?_) (fun q3 => ?_)
  · rw [if_neg q3] at h
    refine c_iload_n rfl rfl ?_
    refine c_iconst rfl vi_0 ?_
    refine c_iconst rfl vi_5 ?_
    obtain ⟨r5, h4, h⟩ := zk_lt_g h
    refine e_callS (As := [.int a2, .int (0 : Int32), .int (5 : Int32)]) (st := []) rfl lk_X8_63 rfl rfl rfl (Nat.le_of_ble_eq_true rfl) rfl (k_X8_in h4.symm) ?_
    refine c_if_ne rfl (fun q6 => ?_) (fun q6 => ?_)
    · rw [if_neg q6] at h
      refine c_iconst rfl vi_0 ?_
      refine e_istore_n (L2 := [some (.ref 76), some (.int a1), some (.int a2), some (.int (0 : Int32)), none, none]) rfl rfl rfl rfl ?_
      refine c_iconst rfl vi_0 ?_
      refine e_istore (L2 := [some (.ref 76), some (.int a1), some (.int a2), some (.int (0 : Int32)), some (.int (0 : Int32)), none]) rfl rfl rfl rfl ?_
      refine c_iconst rfl vi_0 ?_
      refine e_istore (L2 := [some (.ref 76), some (.int a1), some (.int a2), some (.int (0 : Int32)), some (.int (0 : Int32)), some (.int (0 : Int32))]) rfl rfl rfl rfl ?_
      refine kl_X8_reader_31 (fun z14 z15 h => ?_) _ _ _ _ h
      refine c_iload_n rfl rfl ?_
      refine c_iconst rfl vi_4 ?_
      refine c_icmp_ge rfl (fun q16 => ?_) (fun q16 => ?_)
      · rw [if_pos q16] at h
        refine c_iload_n rfl rfl ?_
        refine c_iconst rfl vi_4 ?_
        refine c_icmp_ne rfl (fun q17 => ?_) (fun q17 => ?_)
        · rw [if_neg q17] at h
          refine c_iload rfl rfl ?_
          have h := zk_r1 h
          subst h
          exact c_ireturn rfl rfl rfl
        · rw [if_pos q17] at h
          refine c_iload_n rfl rfl ?_
          refine c_goto rfl ?_
          have h := zk_r1 h
          subst h
          exact c_ireturn rfl rfl rfl
      · rw [if_neg q16] at h
        refine c_aload_n rfl rfl ?_
        refine c_getR rfl fk_X8_13 rfl (Nat.le_of_ble_eq_true rfl) rfl ?_
        refine c_iconst rfl vi_2 ?_
        refine c_bipush rfl vb_8 ?_
        refine c_iload_n rfl rfl ?_
        refine c_imul rfl ?_
        refine c_iadd rfl ?_
        refine c_iload_n rfl rfl ?_
        refine c_iadd rfl ?_
        obtain ⟨q18, h⟩ := zk_ck_e h
        refine e_iald rfl rfl (Nat.le_of_ble_eq_true rfl) q18 rfl ?_
        refine c_goto rfl ?_
        have h := zk_r1 h
        subst h
        exact c_ireturn rfl rfl rfl
    · rw [if_pos q6] at h
      refine c_bipush rfl vb_m3 ?_
      have h := zk_r1 h
      subst h
      exact c_ireturn rfl rfl rfl
  · rw [if_pos q3] at h
    refine c_bipush rfl vb_m2 ?_
    have h := zk_r1 h
    subst h
    exact c_ireturn rfl rfl rfl
def f_X8_book (I : zk_I) (a1 : Int32) (a2 : Int32) : Option (Int32) := zk_bd1 (f_X8_isBook I a1) (fun (r2 : Int32) =>
  (if r2 = 0 then (
   some (-2 : Int32)) else (
   zk_lt (f_X8_in a2 (0 : Int32) (4 : Int32)) (fun (r5 : Int32) =>
    (if r5 = 0 then (
     some (-3 : Int32)) else (
     (if a2 = 0 then (
      zk_ck (zk_in ((2 : Int32) + a1) 14) (
       some (I 80 ((2 : Int32) + a1).toNatClampNeg))) else (
      (if a2 = (1 : Int32) then (
       zk_ck (zk_in ((6 : Int32) + a1) 14) (
        some (I 80 ((6 : Int32) + a1).toNatClampNeg))) else (
       (if a2 = (2 : Int32) then (
        zk_ck (zk_in ((10 : Int32) + a1) 14) (
         some ((I 80 0) - (I 80 ((10 : Int32) + a1).toNatClampNeg)))) else (
        (if a2 = (4 : Int32) then (
         zk_ck (zk_in ((34 : Int32) + a1) 38) (
          some (I 78 ((34 : Int32) + a1).toNatClampNeg))) else (
         zk_bd1 (f_X8_namedNow I a1) (fun (r12 : Int32) =>
          (if r12 = 0 then (
           some (1 : Int32)) else (
           some (0 : Int32))))))))))))))))))
set_option maxRecDepth 20000 in
theorem k_X8_book {X : zk_X} {I : zk_I} {J : zk_J} {a1 : Int32} {a2 : Int32} {r : Int32} (h : f_X8_book I a1 a2 = some r) : zC X 3 m_X8_book 0 (zk_ent [.ref 76, .int a1, .int a2] 3) [] (z_Z, I, J) 0 0 (some (.int r)) (z_Z, I, J) := by
  unfold f_X8_book at h
  refine c_ent (L2 := [some (.ref 76), some (.int a1), some (.int a2)]) rfl ?_
  refine c_aload_n rfl rfl ?_
  refine c_iload_n rfl rfl ?_
  obtain ⟨r2, h1, h⟩ := zk_bd1_e h
  refine e_callV (As := [.int a1]) (st := []) rfl lk_X8_143 rfl (Nat.le_of_ble_eq_true rfl) rfl rfl rfl (Nat.le_of_ble_eq_true rfl) rfl (k_X8_isBook h1) ?_
  refine c_if_ne rfl (fun q3 => ?_) (fun q3 => ?_)
  · rw [if_neg q3] at h
    refine c_iload_n rfl rfl ?_
    refine c_iconst rfl vi_0 ?_
    refine c_iconst rfl vi_4 ?_
    obtain ⟨r5, h4, h⟩ := zk_lt_g h
    refine e_callS (As := [.int a2, .int (0 : Int32), .int (4 : Int32)]) (st := []) rfl lk_X8_63 rfl rfl rfl (Nat.le_of_ble_eq_true rfl) rfl (k_X8_in h4.symm) ?_
    refine c_if_ne rfl (fun q6 => ?_) (fun q6 => ?_)
    · rw [if_neg q6] at h
      refine c_iload_n rfl rfl ?_
      refine c_if_ne rfl (fun q7 => ?_) (fun q7 => ?_)
      · rw [if_neg q7] at h
        refine c_iload_n rfl rfl ?_
        refine c_iconst rfl vi_1 ?_
        refine c_icmp_ne rfl (fun q8 => ?_) (fun q8 => ?_)
        · rw [if_neg q8] at h
          refine c_iload_n rfl rfl ?_
          refine c_iconst rfl vi_2 ?_
          refine c_icmp_ne rfl (fun q9 => ?_) (fun q9 => ?_)
          · rw [if_neg q9] at h
            refine c_iload_n rfl rfl ?_
            refine c_iconst rfl vi_4 ?_
            refine c_icmp_ne rfl (fun q10 => ?_) (fun q10 => ?_)
            · rw [if_neg q10] at h
              refine c_aload_n rfl rfl ?_
              refine c_iload_n rfl rfl ?_
              obtain ⟨r12, h11, h⟩ := zk_bd1_e h
              refine e_callV (As := [.int a1]) (st := []) rfl lk_X8_146 rfl (Nat.le_of_ble_eq_true rfl) rfl rfl rfl (Nat.le_of_ble_eq_true rfl) rfl (k_X8_namedNow h11) ?_
              refine c_if_ne rfl (fun q13 => ?_) (fun q13 => ?_)
              · rw [if_neg q13] at h
                refine c_iconst rfl vi_0 ?_
                have h := zk_r1 h
                subst h
                exact c_ireturn rfl rfl rfl
              · rw [if_pos q13] at h
                refine c_iconst rfl vi_1 ?_
                refine c_goto rfl ?_
                have h := zk_r1 h
                subst h
                exact c_ireturn rfl rfl rfl
            · rw [if_pos q10] at h
              refine c_aload_n rfl rfl ?_
              refine c_getR rfl fk_X8_13 rfl (Nat.le_of_ble_eq_true rfl) rfl ?_
              refine c_bipush rfl vb_34 ?_
              refine c_iload_n rfl rfl ?_
              refine c_iadd rfl ?_
              obtain ⟨q14, h⟩ := zk_ck_e h
              refine e_iald rfl rfl (Nat.le_of_ble_eq_true rfl) q14 rfl ?_
              refine c_goto rfl ?_
              have h := zk_r1 h
              subst h
              exact c_ireturn rfl rfl rfl
          · rw [if_pos q9] at h
            refine c_aload_n rfl rfl ?_
            refine c_getR rfl fk_X8_19 rfl (Nat.le_of_ble_eq_true rfl) rfl ?_
            refine c_iconst rfl vi_0 ?_
            refine e_iald rfl rfl (Nat.le_of_ble_eq_true rfl) (by decide) zt_0 ?_
            refine c_aload_n rfl rfl ?_
            refine c_getR rfl fk_X8_19 rfl (Nat.le_of_ble_eq_true rfl) rfl ?_
            refine c_bipush rfl vb_10 ?_
            refine c_iload_n rfl rfl ?_
            refine c_iadd rfl ?_
            obtain ⟨q15, h⟩ := zk_ck_e h
            refine e_iald rfl rfl (Nat.le_of_ble_eq_true rfl) q15 rfl ?_
            refine c_isub rfl ?_
            refine c_goto rfl ?_
            have h := zk_r1 h
            subst h
            exact c_ireturn rfl rfl rfl
        · rw [if_pos q8] at h
          refine c_aload_n rfl rfl ?_
          refine c_getR rfl fk_X8_19 rfl (Nat.le_of_ble_eq_true rfl) rfl ?_
          refine c_bipush rfl vb_6 ?_
          refine c_iload_n rfl rfl ?_
          refine c_iadd rfl ?_
          obtain ⟨q16, h⟩ := zk_ck_e h
          refine e_iald rfl rfl (Nat.le_of_ble_eq_true rfl) q16 rfl ?_
          refine c_goto rfl ?_
          have h := zk_r1 h
          subst h
          exact c_ireturn rfl rfl rfl
      · rw [if_pos q7] at h
        refine c_aload_n rfl rfl ?_
        refine c_getR rfl fk_X8_19 rfl (Nat.le_of_ble_eq_true rfl) rfl ?_
        refine c_iconst rfl vi_2 ?_
        refine c_iload_n rfl rfl ?_
        refine c_iadd rfl ?_
        obtain ⟨q17, h⟩ := zk_ck_e h
        refine e_iald rfl rfl (Nat.le_of_ble_eq_true rfl) q17 rfl ?_
        refine c_goto rfl ?_
        have h := zk_r1 h
        subst h
        exact c_ireturn rfl rfl rfl
    · rw [if_pos q6] at h
      refine c_bipush rfl vb_m3 ?_
      have h := zk_r1 h
      subst h
      exact c_ireturn rfl rfl rfl
  · rw [if_pos q3] at h
    refine c_bipush rfl vb_m2 ?_
    have h := zk_r1 h
    subst h
    exact c_ireturn rfl rfl rfl
def f_X8_as (I : zk_I) (a1 : Int32) (a2 : Int32) : Option (Int32) := zk_bd1 (f_X8_isReader I a1) (fun (r2 : Int32) =>
  (if r2 = 0 then (
   some (-2 : Int32)) else (
   zk_lt (f_X8_in a2 (0 : Int32) (4 : Int32)) (fun (r5 : Int32) =>
    (if r5 = 0 then (
     some (-3 : Int32)) else (
     zk_ck (zk_in ((2 : Int32) + a1) 38) (
      zk_lt (I 78 ((2 : Int32) + a1).toNatClampNeg) (fun (x8 : Int32) =>
       zk_jp1 (fun (v10 : Int32) =>
        (if v10 = 0 then (
         some (-4 : Int32)) else (
         zk_bd1 (f_X8_named I a1 (I 80 0)) (fun (r14 : Int32) =>
          some r14)))) (fun (K11 : Int32 → Option (Int32)) =>
        zk_jp0 (K11 (1 : Int32)) (fun (K15 : Option (Int32)) =>
         (if a2 = 0 then (
          K15) else (
          zk_jp0 (K11 (0 : Int32)) (fun (K17 : Option (Int32)) =>
           (if x8 = (2 : Int32) then (
            (if a2 = (3 : Int32) then (
             K15) else (
             K17))) else (
            (if a2 = (1 : Int32) then (
             K15) else (
             zk_jp0 ((if a2 = (4 : Int32) then (
               (if x8 = (3 : Int32) then (
                K15) else (
                K17))) else (
               K17))) (fun (K20 : Option (Int32)) =>
              (if a2 = (2 : Int32) then (
               (if x8 = 0 then (
                K20) else (
                K15))) else (
               K20))))))))))))))))))))
set_option maxRecDepth 20000 in
theorem k_X8_as {X : zk_X} {I : zk_I} {J : zk_J} {a1 : Int32} {a2 : Int32} {r : Int32} (h : f_X8_as I a1 a2 = some r) : zC X 3 m_X8_as 0 (zk_ent [.ref 76, .int a1, .int a2] 5) [] (z_Z, I, J) 0 0 (some (.int r)) (z_Z, I, J) := by
  unfold f_X8_as at h
  refine c_ent (L2 := [some (.ref 76), some (.int a1), some (.int a2), none, none]) rfl ?_
  refine c_aload_n rfl rfl ?_
  refine c_iload_n rfl rfl ?_
  obtain ⟨r2, h1, h⟩ := zk_bd1_e h
  refine e_callV (As := [.int a1]) (st := []) rfl lk_X8_140 rfl (Nat.le_of_ble_eq_true rfl) rfl rfl rfl (Nat.le_of_ble_eq_true rfl) rfl (k_X8_isReader h1) ?_
  refine c_if_ne rfl (fun q3 => ?_) (fun q3 => ?_)
  · rw [if_neg q3] at h
    refine c_iload_n rfl rfl ?_
    refine c_iconst rfl vi_0 ?_
    refine c_iconst rfl vi_4 ?_
    obtain ⟨r5, h4, h⟩ := zk_lt_g h
    refine e_callS (As := [.int a2, .int (0 : Int32), .int (4 : Int32)]) (st := []) rfl lk_X8_63 rfl rfl rfl (Nat.le_of_ble_eq_true rfl) rfl (k_X8_in h4.symm) ?_
    refine c_if_ne rfl (fun q6 => ?_) (fun q6 => ?_)
    · rw [if_neg q6] at h
      refine c_aload_n rfl rfl ?_
      refine c_getR rfl fk_X8_13 rfl (Nat.le_of_ble_eq_true rfl) rfl ?_
      refine c_iconst rfl vi_2 ?_
      refine c_iload_n rfl rfl ?_
      refine c_iadd rfl ?_
      obtain ⟨q7, h⟩ := zk_ck_e h
      refine e_iald rfl rfl (Nat.le_of_ble_eq_true rfl) q7 rfl ?_
      obtain ⟨x8, hx8, h⟩ := zk_lt_g h
      refine c_topi hx8 ?_
      refine e_istore_n (L2 := [some (.ref 76), some (.int a1), some (.int a2), some (.int x8), none]) rfl rfl rfl rfl ?_
      refine c_iload_n rfl rfl ?_
      refine zk_jp1_e (Z := fun (v10 : Int32) => zC X 3 m_X8_as 78 [some (.ref 76), some (.int a1), none, none, none] [.int v10] (z_Z, I, J) 0 0 (some (.int r)) (z_Z, I, J)) h (fun v10 h => ?_) (fun K11 jK11 h => ?_)
      · refine e_istore (L2 := [some (.ref 76), some (.int a1), none, none, some (.int v10)]) rfl rfl rfl rfl ?_
        refine c_iload rfl rfl ?_
        refine c_if_eq rfl (fun q12 => ?_) (fun q12 => ?_)
        · rw [if_pos q12] at h
          refine c_bipush rfl vb_m4 ?_
          have h := zk_r1 h
          subst h
          exact c_ireturn rfl rfl rfl
        · rw [if_neg q12] at h
          refine c_aload_n rfl rfl ?_
          refine c_iload_n rfl rfl ?_
          refine c_aload_n rfl rfl ?_
          refine c_getR rfl fk_X8_19 rfl (Nat.le_of_ble_eq_true rfl) rfl ?_
          refine c_iconst rfl vi_0 ?_
          refine e_iald rfl rfl (Nat.le_of_ble_eq_true rfl) (by decide) zt_0 ?_
          obtain ⟨r14, h13, h⟩ := zk_bd1_e h
          refine e_callV (As := [.int a1, .int (I 80 0)]) (st := []) rfl lk_X8_136 rfl (Nat.le_of_ble_eq_true rfl) rfl rfl rfl (Nat.le_of_ble_eq_true rfl) rfl (k_X8_named h13) ?_
          refine c_goto rfl ?_
          have h := zk_r1 h
          subst h
          exact c_ireturn rfl rfl rfl
      · refine zk_jp0_e (Z := zC X 3 m_X8_as 73 [some (.ref 76), some (.int a1), none, none, none] [] (z_Z, I, J) 0 0 (some (.int r)) (z_Z, I, J)) h (fun h => ?_) (fun K15 jK15 h => ?_)
        · refine c_iconst rfl vi_1 ?_
          refine c_goto rfl ?_
          exact jK11 _ h
        · refine c_if_eq rfl (fun q9 => ?_) (fun q9 => ?_)
          · rw [if_pos q9] at h
            refine c_drop [true, true, false, false, true] (L2 := [some (.ref 76), some (.int a1), none, none, none]) rfl ?_
            exact jK15 h
          · rw [if_neg q9] at h
            refine c_iload_n rfl rfl ?_
            refine c_iconst rfl vi_2 ?_
            refine zk_jp0_e (Z := zC X 3 m_X8_as 77 [some (.ref 76), some (.int a1), none, none, none] [] (z_Z, I, J) 0 0 (some (.int r)) (z_Z, I, J)) h (fun h => ?_) (fun K17 jK17 h => ?_)
            · refine c_iconst rfl vi_0 ?_
              exact jK11 _ h
            · refine c_icmp_ne rfl (fun q16 => ?_) (fun q16 => ?_)
              · rw [if_neg q16] at h
                refine c_iload_n rfl rfl ?_
                refine c_iconst rfl vi_1 ?_
                refine c_icmp_eq rfl (fun q18 => ?_) (fun q18 => ?_)
                · rw [if_pos q18] at h
                  refine c_drop [true, true, false, false, true] (L2 := [some (.ref 76), some (.int a1), none, none, none]) rfl ?_
                  exact jK15 h
                · rw [if_neg q18] at h
                  refine c_iload_n rfl rfl ?_
                  refine c_iconst rfl vi_2 ?_
                  refine zk_jp0_e (Z := zC X 3 m_X8_as 63 [some (.ref 76), some (.int a1), some (.int a2), some (.int x8), none] [] (z_Z, I, J) 0 0 (some (.int r)) (z_Z, I, J)) h (fun h => ?_) (fun K20 jK20 h => ?_)
                  · refine c_iload_n rfl rfl ?_
                    refine c_iconst rfl vi_4 ?_
                    refine c_icmp_ne rfl (fun q21 => ?_) (fun q21 => ?_)
                    · rw [if_neg q21] at h
                      refine c_drop [true, true, false, false, true] (L2 := [some (.ref 76), some (.int a1), none, none, none]) rfl ?_
                      exact jK17 h
                    · rw [if_pos q21] at h
                      refine c_iload_n rfl rfl ?_
                      refine c_iconst rfl vi_3 ?_
                      refine c_icmp_ne rfl (fun q22 => ?_) (fun q22 => ?_)
                      · rw [if_neg q22] at h
                        refine c_drop [true, true, false, false, true] (L2 := [some (.ref 76), some (.int a1), none, none, none]) rfl ?_
                        exact jK17 h
                      · rw [if_pos q22] at h
                        refine c_drop [true, true, false, false, true] (L2 := [some (.ref 76), some (.int a1), none, none, none]) rfl ?_
                        exact jK15 h
                  · refine c_icmp_ne rfl (fun q19 => ?_) (fun q19 => ?_)
                    · rw [if_neg q19] at h
                      exact jK20 h
                    · rw [if_pos q19] at h
                      refine c_iload_n rfl rfl ?_
                      refine c_if_ne rfl (fun q23 => ?_) (fun q23 => ?_)
                      · rw [if_neg q23] at h
                        refine c_drop [true, true, false, false, true] (L2 := [some (.ref 76), some (.int a1), none, none, none]) rfl ?_
                        exact jK15 h
                      · rw [if_pos q23] at h
                        exact jK20 h
              · rw [if_pos q16] at h
                refine c_iload_n rfl rfl ?_
                refine c_iconst rfl vi_3 ?_
                refine c_icmp_ne rfl (fun q24 => ?_) (fun q24 => ?_)
                · rw [if_neg q24] at h
                  refine c_drop [true, true, false, false, true] (L2 := [some (.ref 76), some (.int a1), none, none, none]) rfl ?_
                  exact jK17 h
                · rw [if_pos q24] at h
                  refine c_goto rfl ?_
                  refine c_drop [true, true, false, false, true] (L2 := [some (.ref 76), some (.int a1), none, none, none]) rfl ?_
                  exact jK15 h
    · rw [if_pos q6] at h
      refine c_bipush rfl vb_m3 ?_
      have h := zk_r1 h
      subst h
      exact c_ireturn rfl rfl rfl
  · rw [if_pos q3] at h
    refine c_bipush rfl vb_m2 ?_
    have h := zk_r1 h
    subst h
    exact c_ireturn rfl rfl rfl
def f_X8_may (I : zk_I) (a1 : Int32) (a2 : Int32) : Option (Int32) := zk_bd1 (f_X8_isBook I a1) (fun (r2 : Int32) =>
  zk_jp0 (some (-2 : Int32)) (fun (K4 : Option (Int32)) =>
   (if r2 = 0 then (
    K4) else (
    zk_bd1 (f_X8_isReader I a2) (fun (r6 : Int32) =>
     (if r6 = 0 then (
      K4) else (
      zk_bd1 (f_X8_namedNow I a1) (fun (r9 : Int32) =>
       some ((r9 >>> (a2 &&& 31)) &&& (1 : Int32))))))))))
set_option maxRecDepth 20000 in
theorem k_X8_may {X : zk_X} {I : zk_I} {J : zk_J} {a1 : Int32} {a2 : Int32} {r : Int32} (h : f_X8_may I a1 a2 = some r) : zC X 3 m_X8_may 0 (zk_ent [.ref 76, .int a1, .int a2] 3) [] (z_Z, I, J) 0 0 (some (.int r)) (z_Z, I, J) := by
  unfold f_X8_may at h
  refine c_ent (L2 := [some (.ref 76), some (.int a1), some (.int a2)]) rfl ?_
  refine c_aload_n rfl rfl ?_
  refine c_iload_n rfl rfl ?_
  obtain ⟨r2, h1, h⟩ := zk_bd1_e h
  refine e_callV (As := [.int a1]) (st := []) rfl lk_X8_143 rfl (Nat.le_of_ble_eq_true rfl) rfl rfl rfl (Nat.le_of_ble_eq_true rfl) rfl (k_X8_isBook h1) ?_
  refine zk_jp0_e (Z := zC X 3 m_X8_may 28 [none, none, none] [] (z_Z, I, J) 0 0 (some (.int r)) (z_Z, I, J)) h (fun h => ?_) (fun K4 jK4 h => ?_)
  · refine c_bipush rfl vb_m2 ?_
    have h := zk_r1 h
    subst h
    exact c_ireturn rfl rfl rfl
  · refine c_if_eq rfl (fun q3 => ?_) (fun q3 => ?_)
    · rw [if_pos q3] at h
      refine c_drop [false, false, false] (L2 := [none, none, none]) rfl ?_
      exact jK4 h
    · rw [if_neg q3] at h
      refine c_aload_n rfl rfl ?_
      refine c_iload_n rfl rfl ?_
      obtain ⟨r6, h5, h⟩ := zk_bd1_e h
      refine e_callV (As := [.int a2]) (st := []) rfl lk_X8_140 rfl (Nat.le_of_ble_eq_true rfl) rfl rfl rfl (Nat.le_of_ble_eq_true rfl) rfl (k_X8_isReader h5) ?_
      refine c_if_eq rfl (fun q7 => ?_) (fun q7 => ?_)
      · rw [if_pos q7] at h
        refine c_drop [false, false, false] (L2 := [none, none, none]) rfl ?_
        exact jK4 h
      · rw [if_neg q7] at h
        refine c_aload_n rfl rfl ?_
        refine c_iload_n rfl rfl ?_
        obtain ⟨r9, h8, h⟩ := zk_bd1_e h
        refine e_callV (As := [.int a1]) (st := []) rfl lk_X8_146 rfl (Nat.le_of_ble_eq_true rfl) rfl rfl rfl (Nat.le_of_ble_eq_true rfl) rfl (k_X8_namedNow h8) ?_
        refine c_iload_n rfl rfl ?_
        refine c_ishr rfl ?_
        refine c_iconst rfl vi_1 ?_
        refine c_iand rfl ?_
        refine c_goto rfl ?_
        have h := zk_r1 h
        subst h
        exact c_ireturn rfl rfl rfl
def l_X8_keeps_50  (K : zk_I → Option (zk_I)) : Nat → Int32 → zk_I → Option (zk_I)
  | 0, _, _ => none
  | n + 1, y1, Iy => (if (14 : Int32) ≤ y1 then (
    K Iy) else (
    zk_ck (zk_in y1 14) (
     zk_ck (zk_in (((14 : Int32) * (Iy 76 6)) + y1) 112) (
      zk_lt (zk_sc Iy 81 (upd (Iy 81) (((14 : Int32) * (Iy 76 6)) + y1).toNatClampNeg (Iy 80 y1.toNatClampNeg))) (fun (I7 : zk_I) =>
       l_X8_keeps_50 K n (y1 + (1 : Int32)) I7)))))
def l_X8_keeps_11  (K : zk_I → Option (zk_I)) : Nat → Int32 → zk_I → Option (zk_I)
  | 0, _, _ => none
  | n + 1, y1, Iy => (if (98 : Int32) ≤ y1 then (
    K Iy) else (
    zk_ck (zk_in (y1 + (14 : Int32)) 112) (
     zk_ck (zk_in y1 112) (
      zk_lt (zk_sc Iy 81 (upd (Iy 81) y1.toNatClampNeg (Iy 81 (y1 + (14 : Int32)).toNatClampNeg))) (fun (I13 : zk_I) =>
       l_X8_keeps_11 K n (y1 + (1 : Int32)) I13)))))
def f_X8_keeps (I : zk_I) : Option (zk_I) := zk_jp1 (fun (I2 : zk_I) =>
  l_X8_keeps_50 (fun (I8 : zk_I) =>
   zk_lt (zk_sc I8 76 (upd (I8 76) 6 ((I8 76 6) + (1 : Int32)))) (fun (I9 : zk_I) =>
    some I9)) 3000 (0 : Int32) I2) (fun (K3 : zk_I → Option (zk_I)) =>
  (if (I 76 6) = (8 : Int32) then (
   l_X8_keeps_11 (fun (I14 : zk_I) =>
    zk_lt (zk_sc I14 76 (upd (I14 76) 6 ((I14 76 6) - (1 : Int32)))) (fun (I15 : zk_I) =>
     K3 I15)) 3000 (0 : Int32) I) else (
   K3 I)))
set_option maxRecDepth 20000 in
theorem kl_X8_keeps_50 {X : zk_X} {J : zk_J} {K : zk_I → Option (zk_I)} {IR : zk_I} (jK : ∀ (Iz : zk_I), K Iz = some IR → zC X 1 m_X8_keeps 82 [some (.ref 76), none] [] (z_Z, Iz, J) 0 0 none (z_Z, IR, J)) : ∀ (n : Nat) (y1 : Int32) (Iy : zk_I), l_X8_keeps_50 K n y1 Iy = some IR → zC X 1 m_X8_keeps 50 [some (.ref 76), some (.int y1)] [] (z_Z, Iy, J) 0 0 none (z_Z, IR, J) := by
  intro n
  induction n with
  | zero =>
    intro y1 Iy h
    cases h
  | succ n ih =>
    intro y1 Iy h
    rw [l_X8_keeps_50] at h
    refine c_iload_n rfl rfl ?_
    refine c_bipush rfl vb_14 ?_
    refine c_icmp_ge rfl (fun q4 => ?_) (fun q4 => ?_)
    · rw [if_pos q4] at h
      refine c_drop [true, false] (L2 := [some (.ref 76), none]) rfl ?_
      exact jK _ h
    · rw [if_neg q4] at h
      refine c_aload_n rfl rfl ?_
      refine c_getR rfl fk_X8_22 rfl (Nat.le_of_ble_eq_true rfl) rfl ?_
      refine c_bipush rfl vb_14 ?_
      refine c_aload_n rfl rfl ?_
      refine c_getI rfl fk_X8_130 rfl (Nat.le_of_ble_eq_true rfl) ?_
      refine c_imul rfl ?_
      refine c_iload_n rfl rfl ?_
      refine c_iadd rfl ?_
      refine c_aload_n rfl rfl ?_
      refine c_getR rfl fk_X8_19 rfl (Nat.le_of_ble_eq_true rfl) rfl ?_
      refine c_iload_n rfl rfl ?_
      obtain ⟨q5, h⟩ := zk_ck_e h
      refine e_iald rfl rfl (Nat.le_of_ble_eq_true rfl) q5 rfl ?_
      obtain ⟨q6, h⟩ := zk_ck_e h
      refine e_iast rfl rfl (Nat.le_of_ble_eq_true rfl) q6 rfl ?_
      obtain ⟨I7, hI7, h⟩ := zk_lt_g h
      refine c_memI hI7 ?_
      refine e_iinc (L2 := [some (.ref 76), some (.int (y1 + (1 : Int32)))]) rfl rfl vi_1 rfl rfl rfl ?_
      refine c_goto rfl ?_
      exact ih _ _ h
set_option maxRecDepth 20000 in
theorem kl_X8_keeps_11 {X : zk_X} {J : zk_J} {K : zk_I → Option (zk_I)} {IR : zk_I} (jK : ∀ (Iz : zk_I), K Iz = some IR → zC X 1 m_X8_keeps 38 [some (.ref 76), none] [] (z_Z, Iz, J) 0 0 none (z_Z, IR, J)) : ∀ (n : Nat) (y1 : Int32) (Iy : zk_I), l_X8_keeps_11 K n y1 Iy = some IR → zC X 1 m_X8_keeps 11 [some (.ref 76), some (.int y1)] [] (z_Z, Iy, J) 0 0 none (z_Z, IR, J) := by
  intro n
  induction n with
  | zero =>
    intro y1 Iy h
    cases h
  | succ n ih =>
    intro y1 Iy h
    rw [l_X8_keeps_11] at h
    refine c_iload_n rfl rfl ?_
    refine c_bipush rfl vb_98 ?_
    refine c_icmp_ge rfl (fun q10 => ?_) (fun q10 => ?_)
    · rw [if_pos q10] at h
      refine c_drop [true, false] (L2 := [some (.ref 76), none]) rfl ?_
      exact jK _ h
    · rw [if_neg q10] at h
      refine c_aload_n rfl rfl ?_
      refine c_getR rfl fk_X8_22 rfl (Nat.le_of_ble_eq_true rfl) rfl ?_
      refine c_iload_n rfl rfl ?_
      refine c_aload_n rfl rfl ?_
      refine c_getR rfl fk_X8_22 rfl (Nat.le_of_ble_eq_true rfl) rfl ?_
      refine c_iload_n rfl rfl ?_
      refine c_bipush rfl vb_14 ?_
      refine c_iadd rfl ?_
      obtain ⟨q11, h⟩ := zk_ck_e h
      refine e_iald rfl rfl (Nat.le_of_ble_eq_true rfl) q11 rfl ?_
      obtain ⟨q12, h⟩ := zk_ck_e h
      refine e_iast rfl rfl (Nat.le_of_ble_eq_true rfl) q12 rfl ?_
      obtain ⟨I13, hI13, h⟩ := zk_lt_g h
      refine c_memI hI13 ?_
      refine e_iinc (L2 := [some (.ref 76), some (.int (y1 + (1 : Int32)))]) rfl rfl vi_1 rfl rfl rfl ?_
      refine c_goto rfl ?_
      exact ih _ _ h
set_option maxRecDepth 20000 in
theorem k_X8_keeps {X : zk_X} {I : zk_I} {J : zk_J} {IR : zk_I} (h : f_X8_keeps I = some IR) : zC X 1 m_X8_keeps 0 (zk_ent [.ref 76] 2) [] (z_Z, I, J) 0 0 none (z_Z, IR, J) := by
  unfold f_X8_keeps at h
  refine c_ent (L2 := [some (.ref 76), none]) rfl ?_
  refine c_aload_n rfl rfl ?_
  refine c_getI rfl fk_X8_130 rfl (Nat.le_of_ble_eq_true rfl) ?_
  refine c_bipush rfl vb_8 ?_
  refine zk_jp1_e (Z := fun (I2 : zk_I) => zC X 1 m_X8_keeps 48 [some (.ref 76), none] [] (z_Z, I2, J) 0 0 none (z_Z, IR, J)) h (fun I2 h => ?_) (fun K3 jK3 h => ?_)
  · refine c_iconst rfl vi_0 ?_
    refine e_istore_n (L2 := [some (.ref 76), some (.int (0 : Int32))]) rfl rfl rfl rfl ?_
    refine kl_X8_keeps_50 (fun I8 h => ?_) _ _ _ h
    refine c_aload_n rfl rfl ?_
    refine c_dup rfl rfl ?_
    refine c_getI rfl fk_X8_130 rfl (Nat.le_of_ble_eq_true rfl) ?_
    refine c_iconst rfl vi_1 ?_
    refine c_iadd rfl ?_
    refine c_putI rfl fk_X8_130 rfl rfl (Nat.le_of_ble_eq_true rfl) ?_
    obtain ⟨I9, hI9, h⟩ := zk_lt_g h
    refine c_memI hI9 ?_
    have h := zk_r1 h
    subst h
    exact c_return rfl rfl
  · refine c_icmp_ne rfl (fun q1 => ?_) (fun q1 => ?_)
    · rw [if_neg q1] at h
      exact jK3 _ h
    · rw [if_pos q1] at h
      refine c_iconst rfl vi_0 ?_
      refine e_istore_n (L2 := [some (.ref 76), some (.int (0 : Int32))]) rfl rfl rfl rfl ?_
      refine kl_X8_keeps_11 (fun I14 h => ?_) _ _ _ h
      refine c_aload_n rfl rfl ?_
      refine c_dup rfl rfl ?_
      refine c_getI rfl fk_X8_130 rfl (Nat.le_of_ble_eq_true rfl) ?_
      refine c_iconst rfl vi_1 ?_
      refine c_isub rfl ?_
      refine c_putI rfl fk_X8_130 rfl rfl (Nat.le_of_ble_eq_true rfl) ?_
      obtain ⟨I15, hI15, h⟩ := zk_lt_g h
      refine c_memI hI15 ?_
      exact jK3 _ h

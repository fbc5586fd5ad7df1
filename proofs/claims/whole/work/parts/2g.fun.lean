def l_X8_isWord_32 (I : zk_I) (p1 : Int32) (p2 : Int32) (p3 : Int32) (p4 : Int32) (p5 : Int32) (p6 : Int32) (p7 : Int32) (p8 : Int32) (p9 : Int32) (K : Int32 → Option (Int32)) : Nat → Int32 → Int32 → Option (Int32)
  | 0, _, _ => none
  | n + 1, y10, y11 => (if (9 : Int32) ≤ y11 then (
    K y10) else (
    (if y10 = 0 then (
     K y10) else (
     zk_lt ((if y11 = 0 then p1 else (if y11 = (1 : Int32) then p2 else (if y11 = (2 : Int32) then p3 else (if y11 = (3 : Int32) then p4 else (if y11 = (4 : Int32) then p5 else (if y11 = (5 : Int32) then p6 else (if y11 = (6 : Int32) then p7 else (if y11 = (7 : Int32) then p8 else p9))))))))) (fun (v7 : Int32) =>
      zk_jp1 (fun (v10 : Int32) =>
       l_X8_isWord_32 I p1 p2 p3 p4 p5 p6 p7 p8 p9 K n v10 (y11 + (1 : Int32))) (fun (K11 : Int32 → Option (Int32)) =>
       (if (I 76 13) ≤ ((I 76 12) + y11) then (
        (if v7 = 0 then (
         K11 (1 : Int32)) else (
         K11 (0 : Int32)))) else (
        zk_ck (zk_in ((I 76 12) + y11) 160) (
         (if (I 77 ((I 76 12) + y11).toNatClampNeg) = v7 then (
          K11 (1 : Int32)) else (
          K11 (0 : Int32))))))))))))
def f_X8_isWord (I : zk_I) (a1 : Int32) (a2 : Int32) (a3 : Int32) (a4 : Int32) (a5 : Int32) (a6 : Int32) (a7 : Int32) (a8 : Int32) (a9 : Int32) : Option (Int32) := zk_jp1 (fun (v2 : Int32) =>
  l_X8_isWord_32 I a1 a2 a3 a4 a5 a6 a7 a8 a9 (fun (z22 : Int32) =>
   zk_ck (zk_01 z22) (
    some z22)) 3000 v2 (0 : Int32)) (fun (K3 : Int32 → Option (Int32)) =>
  zk_jp0 (K3 (0 : Int32)) (fun (K24 : Option (Int32)) =>
   (if (I 76 11) = (1 : Int32) then (
    (if (10 : Int32) ≤ ((I 76 13) - (I 76 12)) then (
     K24) else (
     K3 (1 : Int32)))) else (
    K24))))
set_option maxRecDepth 20000 in
theorem kl_X8_isWord_32 {X : zk_X} {I : zk_I} {p1 : Int32} {p2 : Int32} {p3 : Int32} {p4 : Int32} {p5 : Int32} {p6 : Int32} {p7 : Int32} {p8 : Int32} {p9 : Int32} {J : zk_J} {K : Int32 → Option (Int32)} {r : Int32} (jK : ∀ (z10 : Int32), K z10 = some r → zC X 1 m_X8_isWord 191 [none, none, none, none, none, none, none, none, none, none, some (.int z10), none, none] [] (z_Z, I, J) 0 0 (some (.int r)) (z_Z, I, J)) : ∀ (n : Nat) (y10 : Int32) (y11 : Int32), l_X8_isWord_32 I p1 p2 p3 p4 p5 p6 p7 p8 p9 K n y10 y11 = some r → zC X 1 m_X8_isWord 32 [some (.ref 76), some (.int p1), some (.int p2), some (.int p3), some (.int p4), some (.int p5), some (.int p6), some (.int p7), some (.int p8), some (.int p9), some (.int y10), some (.int y11), none] [] (z_Z, I, J) 0 0 (some (.int r)) (z_Z, I, J) := by
  intro n
  induction n with
  | zero =>
    intro y10 y11 h
    cases h
  | succ n ih =>
    intro y10 y11 h
    rw [l_X8_isWord_32] at h
    refine c_iload rfl rfl ?_
    refine c_bipush rfl vb_9 ?_
    refine c_icmp_ge rfl (fun q4 => ?_) (fun q4 => ?_)
    · rw [if_pos q4] at h
      refine c_drop [false, false, false, false, false, false, false, false, false, false, true, false, true] (L2 := [none, none, none, none, none, none, none, none, none, none, some (.int y10), none, none]) rfl ?_
      exact jK _ h
    · rw [if_neg q4] at h
      refine c_iload rfl rfl ?_
      refine c_if_eq rfl (fun q5 => ?_) (fun q5 => ?_)
      · rw [if_pos q5] at h
        refine c_drop [false, false, false, false, false, false, false, false, false, false, true, false, true] (L2 := [none, none, none, none, none, none, none, none, none, none, some (.int y10), none, none]) rfl ?_
        exact jK _ h
      · rw [if_neg q5] at h
        refine c_iload rfl rfl ?_
        refine zk_lt1K (Z := fun (v7 : Int32) => zC X 1 m_X8_isWord 132 [some (.ref 76), some (.int p1), some (.int p2), some (.int p3), some (.int p4), some (.int p5), some (.int p6), some (.int p7), some (.int p8), some (.int p9), none, some (.int y11), none] [.int v7] (z_Z, I, J) 0 0 (some (.int r)) (z_Z, I, J)) h (fun v7 h => ?_) (fun hz => ?_)
        · refine e_istore (L2 := [some (.ref 76), some (.int p1), some (.int p2), some (.int p3), some (.int p4), some (.int p5), some (.int p6), some (.int p7), some (.int p8), some (.int p9), none, some (.int y11), some (.int v7)]) rfl rfl rfl rfl ?_
          refine c_aload_n rfl rfl ?_
          refine c_getI rfl fk_X8_78 rfl (Nat.le_of_ble_eq_true rfl) ?_
          refine c_iload rfl rfl ?_
          refine c_iadd rfl ?_
          refine c_aload_n rfl rfl ?_
          refine c_getI rfl fk_X8_71 rfl (Nat.le_of_ble_eq_true rfl) ?_
          refine zk_jp1_e (Z := fun (v10 : Int32) => zC X 1 m_X8_isWord 183 [some (.ref 76), some (.int p1), some (.int p2), some (.int p3), some (.int p4), some (.int p5), some (.int p6), some (.int p7), some (.int p8), some (.int p9), none, some (.int y11), none] [.int v10] (z_Z, I, J) 0 0 (some (.int r)) (z_Z, I, J)) h (fun v10 h => ?_) (fun K11 jK11 h => ?_)
          · refine e_istore (L2 := [some (.ref 76), some (.int p1), some (.int p2), some (.int p3), some (.int p4), some (.int p5), some (.int p6), some (.int p7), some (.int p8), some (.int p9), some (.int v10), some (.int y11), none]) rfl rfl rfl rfl ?_
            refine e_iinc (L2 := [some (.ref 76), some (.int p1), some (.int p2), some (.int p3), some (.int p4), some (.int p5), some (.int p6), some (.int p7), some (.int p8), some (.int p9), some (.int v10), some (.int (y11 + (1 : Int32))), none]) rfl rfl vi_1 rfl rfl rfl ?_
            refine c_goto rfl ?_
            exact ih _ _ h
          · refine c_icmp_ge rfl (fun q9 => ?_) (fun q9 => ?_)
            · rw [if_pos q9] at h
              refine c_iload rfl rfl ?_
              refine c_if_ne rfl (fun q12 => ?_) (fun q12 => ?_)
              · rw [if_neg q12] at h
                refine c_iconst rfl vi_0 ?_
                refine c_drop [true, true, true, true, true, true, true, true, true, true, true, true, false] (L2 := [some (.ref 76), some (.int p1), some (.int p2), some (.int p3), some (.int p4), some (.int p5), some (.int p6), some (.int p7), some (.int p8), some (.int p9), none, some (.int y11), none]) rfl ?_
                exact jK11 _ h
              · rw [if_pos q12] at h
                refine c_iconst rfl vi_1 ?_
                refine c_goto rfl ?_
                refine c_drop [true, true, true, true, true, true, true, true, true, true, true, true, false] (L2 := [some (.ref 76), some (.int p1), some (.int p2), some (.int p3), some (.int p4), some (.int p5), some (.int p6), some (.int p7), some (.int p8), some (.int p9), none, some (.int y11), none]) rfl ?_
                exact jK11 _ h
            · rw [if_neg q9] at h
              refine c_aload_n rfl rfl ?_
              refine c_getR rfl fk_X8_7 rfl (Nat.le_of_ble_eq_true rfl) rfl ?_
              refine c_aload_n rfl rfl ?_
              refine c_getI rfl fk_X8_78 rfl (Nat.le_of_ble_eq_true rfl) ?_
              refine c_iload rfl rfl ?_
              refine c_iadd rfl ?_
              obtain ⟨q13, h⟩ := zk_ck_e h
              refine e_iald rfl rfl (Nat.le_of_ble_eq_true rfl) q13 rfl ?_
              refine c_iload rfl rfl ?_
              refine c_icmp_ne rfl (fun q14 => ?_) (fun q14 => ?_)
              · rw [if_neg q14] at h
                refine c_iconst rfl vi_0 ?_
                refine c_goto rfl ?_
                refine c_drop [true, true, true, true, true, true, true, true, true, true, true, true, false] (L2 := [some (.ref 76), some (.int p1), some (.int p2), some (.int p3), some (.int p4), some (.int p5), some (.int p6), some (.int p7), some (.int p8), some (.int p9), none, some (.int y11), none]) rfl ?_
                exact jK11 _ h
              · rw [if_pos q14] at h
                refine c_iconst rfl vi_1 ?_
                refine c_goto rfl ?_
                refine c_drop [true, true, true, true, true, true, true, true, true, true, true, true, false] (L2 := [some (.ref 76), some (.int p1), some (.int p2), some (.int p3), some (.int p4), some (.int p5), some (.int p6), some (.int p7), some (.int p8), some (.int p9), none, some (.int y11), none]) rfl ?_
                exact jK11 _ h
        · refine c_if_ne rfl (fun q6 => ?_) (fun q6 => ?_)
          · refine c_iload rfl rfl ?_
            refine c_iconst rfl vi_1 ?_
            refine c_icmp_ne rfl (fun q15 => ?_) (fun q15 => ?_)
            · refine c_iload rfl rfl ?_
              refine c_iconst rfl vi_2 ?_
              refine c_icmp_ne rfl (fun q16 => ?_) (fun q16 => ?_)
              · refine c_iload rfl rfl ?_
                refine c_iconst rfl vi_3 ?_
                refine c_icmp_ne rfl (fun q17 => ?_) (fun q17 => ?_)
                · refine c_iload rfl rfl ?_
                  refine c_iconst rfl vi_4 ?_
                  refine c_icmp_ne rfl (fun q18 => ?_) (fun q18 => ?_)
                  · refine c_iload rfl rfl ?_
                    refine c_iconst rfl vi_5 ?_
                    refine c_icmp_ne rfl (fun q19 => ?_) (fun q19 => ?_)
                    · refine c_iload rfl rfl ?_
                      refine c_bipush rfl vb_6 ?_
                      refine c_icmp_ne rfl (fun q20 => ?_) (fun q20 => ?_)
                      · refine c_iload rfl rfl ?_
                        refine c_bipush rfl vb_7 ?_
                        refine c_icmp_ne rfl (fun q21 => ?_) (fun q21 => ?_)
                        · refine c_iload rfl rfl ?_
                          refine c_drop [true, true, true, true, true, true, true, true, true, true, false, true, true] (L2 := [some (.ref 76), some (.int p1), some (.int p2), some (.int p3), some (.int p4), some (.int p5), some (.int p6), some (.int p7), some (.int p8), some (.int p9), none, some (.int y11), none]) rfl ?_
                          rw [if_neg q6, if_neg q15, if_neg q16, if_neg q17, if_neg q18, if_neg q19, if_neg q20, if_neg q21] at hz
                          exact hz
                        · refine c_iload rfl rfl ?_
                          refine c_goto rfl ?_
                          refine c_drop [true, true, true, true, true, true, true, true, true, true, false, true, true] (L2 := [some (.ref 76), some (.int p1), some (.int p2), some (.int p3), some (.int p4), some (.int p5), some (.int p6), some (.int p7), some (.int p8), some (.int p9), none, some (.int y11), none]) rfl ?_
                          rw [if_neg q6, if_neg q15, if_neg q16, if_neg q17, if_neg q18, if_neg q19, if_neg q20, if_pos q21] at hz
                          exact hz
                      · refine c_iload rfl rfl ?_
                        refine c_goto rfl ?_
                        refine c_drop [true, true, true, true, true, true, true, true, true, true, false, true, true] (L2 := [some (.ref 76), some (.int p1), some (.int p2), some (.int p3), some (.int p4), some (.int p5), some (.int p6), some (.int p7), some (.int p8), some (.int p9), none, some (.int y11), none]) rfl ?_
                        rw [if_neg q6, if_neg q15, if_neg q16, if_neg q17, if_neg q18, if_neg q19, if_pos q20] at hz
                        exact hz
                    · refine c_iload rfl rfl ?_
                      refine c_goto rfl ?_
                      refine c_drop [true, true, true, true, true, true, true, true, true, true, false, true, true] (L2 := [some (.ref 76), some (.int p1), some (.int p2), some (.int p3), some (.int p4), some (.int p5), some (.int p6), some (.int p7), some (.int p8), some (.int p9), none, some (.int y11), none]) rfl ?_
                      rw [if_neg q6, if_neg q15, if_neg q16, if_neg q17, if_neg q18, if_pos q19] at hz
                      exact hz
                  · refine c_iload rfl rfl ?_
                    refine c_goto rfl ?_
                    refine c_drop [true, true, true, true, true, true, true, true, true, true, false, true, true] (L2 := [some (.ref 76), some (.int p1), some (.int p2), some (.int p3), some (.int p4), some (.int p5), some (.int p6), some (.int p7), some (.int p8), some (.int p9), none, some (.int y11), none]) rfl ?_
                    rw [if_neg q6, if_neg q15, if_neg q16, if_neg q17, if_pos q18] at hz
                    exact hz
                · refine c_iload rfl rfl ?_
                  refine c_goto rfl ?_
                  refine c_drop [true, true, true, true, true, true, true, true, true, true, false, true, true] (L2 := [some (.ref 76), some (.int p1), some (.int p2), some (.int p3), some (.int p4), some (.int p5), some (.int p6), some (.int p7), some (.int p8), some (.int p9), none, some (.int y11), none]) rfl ?_
                  rw [if_neg q6, if_neg q15, if_neg q16, if_pos q17] at hz
                  exact hz
              · refine c_iload_n rfl rfl ?_
                refine c_goto rfl ?_
                refine c_drop [true, true, true, true, true, true, true, true, true, true, false, true, true] (L2 := [some (.ref 76), some (.int p1), some (.int p2), some (.int p3), some (.int p4), some (.int p5), some (.int p6), some (.int p7), some (.int p8), some (.int p9), none, some (.int y11), none]) rfl ?_
                rw [if_neg q6, if_neg q15, if_pos q16] at hz
                exact hz
            · refine c_iload_n rfl rfl ?_
              refine c_goto rfl ?_
              refine c_drop [true, true, true, true, true, true, true, true, true, true, false, true, true] (L2 := [some (.ref 76), some (.int p1), some (.int p2), some (.int p3), some (.int p4), some (.int p5), some (.int p6), some (.int p7), some (.int p8), some (.int p9), none, some (.int y11), none]) rfl ?_
              rw [if_neg q6, if_pos q15] at hz
              exact hz
          · refine c_iload_n rfl rfl ?_
            refine c_goto rfl ?_
            refine c_drop [true, true, true, true, true, true, true, true, true, true, false, true, true] (L2 := [some (.ref 76), some (.int p1), some (.int p2), some (.int p3), some (.int p4), some (.int p5), some (.int p6), some (.int p7), some (.int p8), some (.int p9), none, some (.int y11), none]) rfl ?_
            rw [if_pos q6] at hz
            exact hz
set_option maxRecDepth 20000 in
theorem k_X8_isWord {X : zk_X} {I : zk_I} {J : zk_J} {a1 : Int32} {a2 : Int32} {a3 : Int32} {a4 : Int32} {a5 : Int32} {a6 : Int32} {a7 : Int32} {a8 : Int32} {a9 : Int32} {r : Int32} (h : f_X8_isWord I a1 a2 a3 a4 a5 a6 a7 a8 a9 = some r) : zC X 1 m_X8_isWord 0 (zk_ent [.ref 76, .int a1, .int a2, .int a3, .int a4, .int a5, .int a6, .int a7, .int a8, .int a9] 13) [] (z_Z, I, J) 0 0 (some (.int r)) (z_Z, I, J) := by
  unfold f_X8_isWord at h
  refine c_ent (L2 := [some (.ref 76), some (.int a1), some (.int a2), some (.int a3), some (.int a4), some (.int a5), some (.int a6), some (.int a7), some (.int a8), some (.int a9), none, none, none]) rfl ?_
  refine c_aload_n rfl rfl ?_
  refine c_getI rfl fk_X8_88 rfl (Nat.le_of_ble_eq_true rfl) ?_
  refine c_iconst rfl vi_1 ?_
  refine zk_jp1_e (Z := fun (v2 : Int32) => zC X 1 m_X8_isWord 27 [some (.ref 76), some (.int a1), some (.int a2), some (.int a3), some (.int a4), some (.int a5), some (.int a6), some (.int a7), some (.int a8), some (.int a9), none, none, none] [.int v2] (z_Z, I, J) 0 0 (some (.int r)) (z_Z, I, J)) h (fun v2 h => ?_) (fun K3 jK3 h => ?_)
  · refine e_istore (L2 := [some (.ref 76), some (.int a1), some (.int a2), some (.int a3), some (.int a4), some (.int a5), some (.int a6), some (.int a7), some (.int a8), some (.int a9), some (.int v2), none, none]) rfl rfl rfl rfl ?_
    refine c_iconst rfl vi_0 ?_
    refine e_istore (L2 := [some (.ref 76), some (.int a1), some (.int a2), some (.int a3), some (.int a4), some (.int a5), some (.int a6), some (.int a7), some (.int a8), some (.int a9), some (.int v2), some (.int (0 : Int32)), none]) rfl rfl rfl rfl ?_
    refine kl_X8_isWord_32 (fun z22 h => ?_) _ _ _ h
    obtain ⟨q23, h⟩ := zk_ck_e h
    refine c_iload rfl rfl ?_
    have h := zk_r1 h
    subst h
    exact c_ireturn rfl rfl (zk_01_n q23)
  · refine zk_jp0_e (Z := zC X 1 m_X8_isWord 26 [some (.ref 76), some (.int a1), some (.int a2), some (.int a3), some (.int a4), some (.int a5), some (.int a6), some (.int a7), some (.int a8), some (.int a9), none, none, none] [] (z_Z, I, J) 0 0 (some (.int r)) (z_Z, I, J)) h (fun h => ?_) (fun K24 jK24 h => ?_)
    · refine c_iconst rfl vi_0 ?_
      exact jK3 _ h
    · refine c_icmp_ne rfl (fun q1 => ?_) (fun q1 => ?_)
      · rw [if_neg q1] at h
        exact jK24 h
      · rw [if_pos q1] at h
        refine c_aload_n rfl rfl ?_
        refine c_getI rfl fk_X8_71 rfl (Nat.le_of_ble_eq_true rfl) ?_
        refine c_aload_n rfl rfl ?_
        refine c_getI rfl fk_X8_78 rfl (Nat.le_of_ble_eq_true rfl) ?_
        refine c_isub rfl ?_
        refine c_bipush rfl vb_10 ?_
        refine c_icmp_ge rfl (fun q25 => ?_) (fun q25 => ?_)
        · rw [if_pos q25] at h
          exact jK24 h
        · rw [if_neg q25] at h
          refine c_iconst rfl vi_1 ?_
          refine c_goto rfl ?_
          exact jK3 _ h
def f_X8_number (I : zk_I) (a1 : Int32) (a2 : Int32) (a3 : Int32) : Option (Int32 × zk_I) := zk_bd1 (f_X8_token I) (fun (I2 : zk_I) =>
  zk_ck (zk_in a1 38) (
   zk_lt (zk_sc I2 79 (upd (I2 79) a1.toNatClampNeg (I2 76 14))) (fun (I4 : zk_I) =>
    zk_jp0 (some ((0 : Int32), I4)) (fun (K6 : Option (Int32 × zk_I)) =>
     (if (I4 76 11) = (2 : Int32) then (
      zk_lt (f_X8_in (I4 76 14) a2 a3) (fun (r8 : Int32) =>
       (if r8 = 0 then (
        K6) else (
        some ((1 : Int32), I4))))) else (
      K6))))))
set_option maxRecDepth 20000 in
theorem k_X8_number {X : zk_X} {I : zk_I} {J : zk_J} {a1 : Int32} {a2 : Int32} {a3 : Int32} {r : Int32} {IR : zk_I} (h : f_X8_number I a1 a2 a3 = some (r, IR)) : zC X 4 m_X8_number 0 (zk_ent [.ref 76, .int a1, .int a2, .int a3] 4) [] (z_Z, I, J) 0 0 (some (.int r)) (z_Z, IR, J) := by
  unfold f_X8_number at h
  refine c_ent (L2 := [some (.ref 76), some (.int a1), some (.int a2), some (.int a3)]) rfl ?_
  refine c_aload_n rfl rfl ?_
  obtain ⟨I2, h1, h⟩ := zk_bd1_e h
  refine e_callV (As := []) (st := []) rfl lk_X8_94 rfl (Nat.le_of_ble_eq_true rfl) rfl rfl rfl (Nat.le_of_ble_eq_true rfl) rfl (k_X8_token h1) ?_
  refine c_aload_n rfl rfl ?_
  refine c_getR rfl fk_X8_16 rfl (Nat.le_of_ble_eq_true rfl) rfl ?_
  refine c_iload_n rfl rfl ?_
  refine c_aload_n rfl rfl ?_
  refine c_getI rfl fk_X8_91 rfl (Nat.le_of_ble_eq_true rfl) ?_
  obtain ⟨q3, h⟩ := zk_ck_e h
  refine e_iast rfl rfl (Nat.le_of_ble_eq_true rfl) q3 rfl ?_
  obtain ⟨I4, hI4, h⟩ := zk_lt_g h
  refine c_memI hI4 ?_
  refine c_aload_n rfl rfl ?_
  refine c_getI rfl fk_X8_88 rfl (Nat.le_of_ble_eq_true rfl) ?_
  refine c_iconst rfl vi_2 ?_
  refine zk_jp0_e (Z := zC X 4 m_X8_number 38 [none, none, none, none] [] (z_Z, I4, J) 0 0 (some (.int r)) (z_Z, IR, J)) h (fun h => ?_) (fun K6 jK6 h => ?_)
  · refine c_iconst rfl vi_0 ?_
    obtain ⟨rfl, rfl⟩ := zk_r2 h
    exact c_ireturn rfl rfl zk_nb0
  · refine c_icmp_ne rfl (fun q5 => ?_) (fun q5 => ?_)
    · rw [if_neg q5] at h
      refine c_drop [false, false, false, false] (L2 := [none, none, none, none]) rfl ?_
      exact jK6 h
    · rw [if_pos q5] at h
      refine c_aload_n rfl rfl ?_
      refine c_getI rfl fk_X8_91 rfl (Nat.le_of_ble_eq_true rfl) ?_
      refine c_iload_n rfl rfl ?_
      refine c_iload_n rfl rfl ?_
      obtain ⟨r8, h7, h⟩ := zk_lt_g h
      refine e_callS (As := [.int (I4 76 14), .int a2, .int a3]) (st := []) rfl lk_X8_63 rfl rfl rfl (Nat.le_of_ble_eq_true rfl) rfl (k_X8_in h7.symm) ?_
      refine c_if_eq rfl (fun q9 => ?_) (fun q9 => ?_)
      · rw [if_pos q9] at h
        refine c_drop [false, false, false, false] (L2 := [none, none, none, none]) rfl ?_
        exact jK6 h
      · rw [if_neg q9] at h
        refine c_iconst rfl vi_1 ?_
        refine c_goto rfl ?_
        obtain ⟨rfl, rfl⟩ := zk_r2 h
        exact c_ireturn rfl rfl zk_nb1
def l_X8_forgets_2  (K : zk_I → Option (zk_I)) : Nat → Int32 → zk_I → Option (zk_I)
  | 0, _, _ => none
  | n + 1, y1, Iy => (if (38 : Int32) ≤ y1 then (
    K Iy) else (
    zk_ck (zk_in y1 38) (
     zk_lt (zk_sc Iy 79 (upd (Iy 79) y1.toNatClampNeg (0 : Int32))) (fun (I3 : zk_I) =>
      l_X8_forgets_2 K n (y1 + (1 : Int32)) I3))))
def f_X8_forgets (I : zk_I) : Option (zk_I) := l_X8_forgets_2 (fun (I4 : zk_I) =>
  some I4) 3000 (0 : Int32) I
set_option maxRecDepth 20000 in
theorem kl_X8_forgets_2 {X : zk_X} {J : zk_J} {K : zk_I → Option (zk_I)} {IR : zk_I} (jK : ∀ (Iz : zk_I), K Iz = some IR → zC X 1 m_X8_forgets 21 [none, none] [] (z_Z, Iz, J) 0 0 none (z_Z, IR, J)) : ∀ (n : Nat) (y1 : Int32) (Iy : zk_I), l_X8_forgets_2 K n y1 Iy = some IR → zC X 1 m_X8_forgets 2 [some (.ref 76), some (.int y1)] [] (z_Z, Iy, J) 0 0 none (z_Z, IR, J) := by
  intro n
  induction n with
  | zero =>
    intro y1 Iy h
    cases h
  | succ n ih =>
    intro y1 Iy h
    rw [l_X8_forgets_2] at h
    refine c_iload_n rfl rfl ?_
    refine c_bipush rfl vb_38 ?_
    refine c_icmp_ge rfl (fun q1 => ?_) (fun q1 => ?_)
    · rw [if_pos q1] at h
      refine c_drop [false, false] (L2 := [none, none]) rfl ?_
      exact jK _ h
    · rw [if_neg q1] at h
      refine c_aload_n rfl rfl ?_
      refine c_getR rfl fk_X8_16 rfl (Nat.le_of_ble_eq_true rfl) rfl ?_
      refine c_iload_n rfl rfl ?_
      refine c_iconst rfl vi_0 ?_
      obtain ⟨q2, h⟩ := zk_ck_e h
      refine e_iast rfl rfl (Nat.le_of_ble_eq_true rfl) q2 rfl ?_
      obtain ⟨I3, hI3, h⟩ := zk_lt_g h
      refine c_memI hI3 ?_
      refine e_iinc (L2 := [some (.ref 76), some (.int (y1 + (1 : Int32)))]) rfl rfl vi_1 rfl rfl rfl ?_
      refine c_goto rfl ?_
      exact ih _ _ h
set_option maxRecDepth 20000 in
theorem k_X8_forgets {X : zk_X} {I : zk_I} {J : zk_J} {IR : zk_I} (h : f_X8_forgets I = some IR) : zC X 1 m_X8_forgets 0 (zk_ent [.ref 76] 2) [] (z_Z, I, J) 0 0 none (z_Z, IR, J) := by
  unfold f_X8_forgets at h
  refine c_ent (L2 := [some (.ref 76), none]) rfl ?_
  refine c_iconst rfl vi_0 ?_
  refine e_istore_n (L2 := [some (.ref 76), some (.int (0 : Int32))]) rfl rfl rfl rfl ?_
  refine kl_X8_forgets_2 (fun I4 h => ?_) _ _ _ h
  have h := zk_r1 h
  subst h
  exact c_return rfl rfl
def l_X8_peace_2  (K : zk_I → Option (zk_I)) : Nat → Int32 → zk_I → Option (zk_I)
  | 0, _, _ => none
  | n + 1, y1, Iy => (if (8 : Int32) ≤ y1 then (
    K Iy) else (
    zk_ck (zk_in ((18 : Int32) + y1) 38) (
     zk_lt (zk_sc Iy 79 (upd (Iy 79) ((18 : Int32) + y1).toNatClampNeg (0 : Int32))) (fun (I3 : zk_I) =>
      l_X8_peace_2 K n (y1 + (1 : Int32)) I3))))
def f_X8_peace (I : zk_I) : Option (zk_I) := l_X8_peace_2 (fun (I4 : zk_I) =>
  some I4) 3000 (0 : Int32) I
set_option maxRecDepth 20000 in
theorem kl_X8_peace_2 {X : zk_X} {J : zk_J} {K : zk_I → Option (zk_I)} {IR : zk_I} (jK : ∀ (Iz : zk_I), K Iz = some IR → zC X 1 m_X8_peace 24 [none, none] [] (z_Z, Iz, J) 0 0 none (z_Z, IR, J)) : ∀ (n : Nat) (y1 : Int32) (Iy : zk_I), l_X8_peace_2 K n y1 Iy = some IR → zC X 1 m_X8_peace 2 [some (.ref 76), some (.int y1)] [] (z_Z, Iy, J) 0 0 none (z_Z, IR, J) := by
  intro n
  induction n with
  | zero =>
    intro y1 Iy h
    cases h
  | succ n ih =>
    intro y1 Iy h
    rw [l_X8_peace_2] at h
    refine c_iload_n rfl rfl ?_
    refine c_bipush rfl vb_8 ?_
    refine c_icmp_ge rfl (fun q1 => ?_) (fun q1 => ?_)
    · rw [if_pos q1] at h
      refine c_drop [false, false] (L2 := [none, none]) rfl ?_
      exact jK _ h
    · rw [if_neg q1] at h
      refine c_aload_n rfl rfl ?_
      refine c_getR rfl fk_X8_16 rfl (Nat.le_of_ble_eq_true rfl) rfl ?_
      refine c_bipush rfl vb_18 ?_
      refine c_iload_n rfl rfl ?_
      refine c_iadd rfl ?_
      refine c_iconst rfl vi_0 ?_
      obtain ⟨q2, h⟩ := zk_ck_e h
      refine e_iast rfl rfl (Nat.le_of_ble_eq_true rfl) q2 rfl ?_
      obtain ⟨I3, hI3, h⟩ := zk_lt_g h
      refine c_memI hI3 ?_
      refine e_iinc (L2 := [some (.ref 76), some (.int (y1 + (1 : Int32)))]) rfl rfl vi_1 rfl rfl rfl ?_
      refine c_goto rfl ?_
      exact ih _ _ h
set_option maxRecDepth 20000 in
theorem k_X8_peace {X : zk_X} {I : zk_I} {J : zk_J} {IR : zk_I} (h : f_X8_peace I = some IR) : zC X 1 m_X8_peace 0 (zk_ent [.ref 76] 2) [] (z_Z, I, J) 0 0 none (z_Z, IR, J) := by
  unfold f_X8_peace at h
  refine c_ent (L2 := [some (.ref 76), none]) rfl ?_
  refine c_iconst rfl vi_0 ?_
  refine e_istore_n (L2 := [some (.ref 76), some (.int (0 : Int32))]) rfl rfl rfl rfl ?_
  refine kl_X8_peace_2 (fun I4 h => ?_) _ _ _ h
  have h := zk_r1 h
  subst h
  exact c_return rfl rfl
def f_X8_readsReader (I : zk_I) (a1 : Int32) : Option (Int32 × zk_I) := (if (I 79 0) = (8 : Int32) then (
  some ((0 : Int32), I)) else (
  zk_bd2 (f_X8_number I ((10 : Int32) + (I 79 0)) (0 : Int32) (9 : Int32)) (fun (r3 : Int32) (I4 : zk_I) =>
   (if r3 = 0 then (
    some ((0 : Int32), I4)) else (
    zk_ck (zk_in ((2 : Int32) + (I 79 0)) 38) (
     zk_lt (zk_sc I4 79 (upd (I4 79) ((2 : Int32) + (I 79 0)).toNatClampNeg a1)) (fun (I7 : zk_I) =>
      zk_ck (zk_in ((26 : Int32) + (I 79 0)) 38) (
       zk_lt (zk_sc I7 79 (upd (I7 79) ((26 : Int32) + (I 79 0)).toNatClampNeg (99 : Int32))) (fun (I9 : zk_I) =>
        zk_ck (zk_in ((18 : Int32) + (I 79 0)) 38) (
         zk_lt (zk_sc I9 79 (upd (I9 79) ((18 : Int32) + (I 79 0)).toNatClampNeg (0 : Int32))) (fun (I11 : zk_I) =>
          zk_lt (zk_sc I11 79 (upd (I11 79) 0 ((I11 79 0) + (1 : Int32)))) (fun (I12 : zk_I) =>
           some ((1 : Int32), I12)))))))))))))
set_option maxRecDepth 20000 in
theorem k_X8_readsReader {X : zk_X} {I : zk_I} {J : zk_J} {a1 : Int32} {r : Int32} {IR : zk_I} (h : f_X8_readsReader I a1 = some (r, IR)) : zC X 5 m_X8_readsReader 0 (zk_ent [.ref 76, .int a1] 3) [] (z_Z, I, J) 0 0 (some (.int r)) (z_Z, IR, J) := by
  unfold f_X8_readsReader at h
  refine c_ent (L2 := [some (.ref 76), some (.int a1), none]) rfl ?_
  refine c_aload_n rfl rfl ?_
  refine c_getR rfl fk_X8_16 rfl (Nat.le_of_ble_eq_true rfl) rfl ?_
  refine c_iconst rfl vi_0 ?_
  refine e_iald rfl rfl (Nat.le_of_ble_eq_true rfl) (by decide) zt_0 ?_
  refine e_istore_n (L2 := [some (.ref 76), some (.int a1), some (.int (I 79 0))]) rfl rfl rfl rfl ?_
  refine c_iload_n rfl rfl ?_
  refine c_bipush rfl vb_8 ?_
  refine c_icmp_eq rfl (fun q1 => ?_) (fun q1 => ?_)
  · rw [if_pos q1] at h
    refine c_iconst rfl vi_0 ?_
    obtain ⟨rfl, rfl⟩ := zk_r2 h
    exact c_ireturn rfl rfl zk_nb0
  · rw [if_neg q1] at h
    refine c_aload_n rfl rfl ?_
    refine c_bipush rfl vb_10 ?_
    refine c_iload_n rfl rfl ?_
    refine c_iadd rfl ?_
    refine c_iconst rfl vi_0 ?_
    refine c_bipush rfl vb_9 ?_
    obtain ⟨r3, I4, h2, h⟩ := zk_bd2_e h
    refine e_callV (As := [.int ((10 : Int32) + (I 79 0)), .int (0 : Int32), .int (9 : Int32)]) (st := []) rfl lk_X8_97 rfl (Nat.le_of_ble_eq_true rfl) rfl rfl rfl (Nat.le_of_ble_eq_true rfl) rfl (k_X8_number h2) ?_
    refine c_if_ne rfl (fun q5 => ?_) (fun q5 => ?_)
    · rw [if_neg q5] at h
      refine c_aload_n rfl rfl ?_
      refine c_getR rfl fk_X8_16 rfl (Nat.le_of_ble_eq_true rfl) rfl ?_
      refine c_iconst rfl vi_2 ?_
      refine c_iload_n rfl rfl ?_
      refine c_iadd rfl ?_
      refine c_iload_n rfl rfl ?_
      obtain ⟨q6, h⟩ := zk_ck_e h
      refine e_iast rfl rfl (Nat.le_of_ble_eq_true rfl) q6 rfl ?_
      obtain ⟨I7, hI7, h⟩ := zk_lt_g h
      refine c_memI hI7 ?_
      refine c_aload_n rfl rfl ?_
      refine c_getR rfl fk_X8_16 rfl (Nat.le_of_ble_eq_true rfl) rfl ?_
      refine c_bipush rfl vb_26 ?_
      refine c_iload_n rfl rfl ?_
      refine c_iadd rfl ?_
      refine c_bipush rfl vb_99 ?_
      obtain ⟨q8, h⟩ := zk_ck_e h
      refine e_iast rfl rfl (Nat.le_of_ble_eq_true rfl) q8 rfl ?_
      obtain ⟨I9, hI9, h⟩ := zk_lt_g h
      refine c_memI hI9 ?_
      refine c_aload_n rfl rfl ?_
      refine c_getR rfl fk_X8_16 rfl (Nat.le_of_ble_eq_true rfl) rfl ?_
      refine c_bipush rfl vb_18 ?_
      refine c_iload_n rfl rfl ?_
      refine c_iadd rfl ?_
      refine c_iconst rfl vi_0 ?_
      obtain ⟨q10, h⟩ := zk_ck_e h
      refine e_iast rfl rfl (Nat.le_of_ble_eq_true rfl) q10 rfl ?_
      obtain ⟨I11, hI11, h⟩ := zk_lt_g h
      refine c_memI hI11 ?_
      refine c_aload_n rfl rfl ?_
      refine c_getR rfl fk_X8_16 rfl (Nat.le_of_ble_eq_true rfl) rfl ?_
      refine c_iconst rfl vi_0 ?_
      refine c_dup2 rfl rfl rfl ?_
      refine e_iald rfl rfl (Nat.le_of_ble_eq_true rfl) (by decide) zt_0 ?_
      refine c_iconst rfl vi_1 ?_
      refine c_iadd rfl ?_
      refine e_iast rfl rfl (Nat.le_of_ble_eq_true rfl) (by decide) zt_0 ?_
      obtain ⟨I12, hI12, h⟩ := zk_lt_g h
      refine c_memI hI12 ?_
      refine c_iconst rfl vi_1 ?_
      obtain ⟨rfl, rfl⟩ := zk_r2 h
      exact c_ireturn rfl rfl zk_nb1
    · rw [if_pos q5] at h
      refine c_iconst rfl vi_0 ?_
      obtain ⟨rfl, rfl⟩ := zk_r2 h
      exact c_ireturn rfl rfl zk_nb0
def f_X8_readsFeud (I : zk_I) : Option (Int32 × zk_I) := zk_bd1 (f_X8_token I) (fun (I2 : zk_I) =>
  (if (I2 76 11) = (2 : Int32) then (
   zk_lt (f_X8_in (I2 76 14) (0 : Int32) ((I2 79 0) - (1 : Int32))) (fun (r5 : Int32) =>
    (if r5 = 0 then (
     some ((0 : Int32), I2)) else (
     zk_bd1 (f_X8_token I2) (fun (I8 : zk_I) =>
      (if (I8 76 11) = (2 : Int32) then (
       zk_lt (f_X8_in (I8 76 14) (0 : Int32) ((I8 79 0) - (1 : Int32))) (fun (r11 : Int32) =>
        (if r11 = 0 then (
         some ((0 : Int32), I8)) else (
         (if (I8 76 14) = (I2 76 14) then (
          some ((0 : Int32), I8)) else (
          zk_ck (zk_in ((18 : Int32) + (I2 76 14)) 38) (
           zk_ck (zk_in ((18 : Int32) + (I2 76 14)) 38) (
            zk_lt (zk_sc I8 79 (upd (I8 79) ((18 : Int32) + (I2 76 14)).toNatClampNeg ((I8 79 ((18 : Int32) + (I2 76 14)).toNatClampNeg) ||| ((1 : Int32) <<< ((I8 76 14) &&& 31))))) (fun (I16 : zk_I) =>
             zk_ck (zk_in ((18 : Int32) + (I16 76 14)) 38) (
              zk_ck (zk_in ((18 : Int32) + (I16 76 14)) 38) (
               zk_lt (zk_sc I16 79 (upd (I16 79) ((18 : Int32) + (I16 76 14)).toNatClampNeg ((I16 79 ((18 : Int32) + (I16 76 14)).toNatClampNeg) ||| ((1 : Int32) <<< ((I2 76 14) &&& 31))))) (fun (I19 : zk_I) =>
                some ((1 : Int32), I19))))))))))))) else (
       some ((0 : Int32), I8)))))))) else (
   some ((0 : Int32), I2))))
set_option maxRecDepth 20000 in
theorem k_X8_readsFeud {X : zk_X} {I : zk_I} {J : zk_J} {r : Int32} {IR : zk_I} (h : f_X8_readsFeud I = some (r, IR)) : zC X 4 m_X8_readsFeud 0 (zk_ent [.ref 76] 2) [] (z_Z, I, J) 0 0 (some (.int r)) (z_Z, IR, J) := by
  unfold f_X8_readsFeud at h
  refine c_ent (L2 := [some (.ref 76), none]) rfl ?_
  refine c_aload_n rfl rfl ?_
  obtain ⟨I2, h1, h⟩ := zk_bd1_e h
  refine e_callV (As := []) (st := []) rfl lk_X8_94 rfl (Nat.le_of_ble_eq_true rfl) rfl rfl rfl (Nat.le_of_ble_eq_true rfl) rfl (k_X8_token h1) ?_
  refine c_aload_n rfl rfl ?_
  refine c_getI rfl fk_X8_91 rfl (Nat.le_of_ble_eq_true rfl) ?_
  refine e_istore_n (L2 := [some (.ref 76), some (.int (I2 76 14))]) rfl rfl rfl rfl ?_
  refine c_aload_n rfl rfl ?_
  refine c_getI rfl fk_X8_88 rfl (Nat.le_of_ble_eq_true rfl) ?_
  refine c_iconst rfl vi_2 ?_
  refine c_icmp_ne rfl (fun q3 => ?_) (fun q3 => ?_)
  · rw [if_neg q3] at h
    refine c_iconst rfl vi_0 ?_
    obtain ⟨rfl, rfl⟩ := zk_r2 h
    exact c_ireturn rfl rfl zk_nb0
  · rw [if_pos q3] at h
    refine c_iload_n rfl rfl ?_
    refine c_iconst rfl vi_0 ?_
    refine c_aload_n rfl rfl ?_
    refine c_getR rfl fk_X8_16 rfl (Nat.le_of_ble_eq_true rfl) rfl ?_
    refine c_iconst rfl vi_0 ?_
    refine e_iald rfl rfl (Nat.le_of_ble_eq_true rfl) (by decide) zt_0 ?_
    refine c_iconst rfl vi_1 ?_
    refine c_isub rfl ?_
    obtain ⟨r5, h4, h⟩ := zk_lt_g h
    refine e_callS (As := [.int (I2 76 14), .int (0 : Int32), .int ((I2 79 0) - (1 : Int32))]) (st := []) rfl lk_X8_63 rfl rfl rfl (Nat.le_of_ble_eq_true rfl) rfl (k_X8_in h4.symm) ?_
    refine c_if_ne rfl (fun q6 => ?_) (fun q6 => ?_)
    · rw [if_neg q6] at h
      refine c_aload_n rfl rfl ?_
      obtain ⟨I8, h7, h⟩ := zk_bd1_e h
      refine e_callV (As := []) (st := []) rfl lk_X8_94 rfl (Nat.le_of_ble_eq_true rfl) rfl rfl rfl (Nat.le_of_ble_eq_true rfl) rfl (k_X8_token h7) ?_
      refine c_aload_n rfl rfl ?_
      refine c_getI rfl fk_X8_88 rfl (Nat.le_of_ble_eq_true rfl) ?_
      refine c_iconst rfl vi_2 ?_
      refine c_icmp_ne rfl (fun q9 => ?_) (fun q9 => ?_)
      · rw [if_neg q9] at h
        refine c_iconst rfl vi_0 ?_
        obtain ⟨rfl, rfl⟩ := zk_r2 h
        exact c_ireturn rfl rfl zk_nb0
      · rw [if_pos q9] at h
        refine c_aload_n rfl rfl ?_
        refine c_getI rfl fk_X8_91 rfl (Nat.le_of_ble_eq_true rfl) ?_
        refine c_iconst rfl vi_0 ?_
        refine c_aload_n rfl rfl ?_
        refine c_getR rfl fk_X8_16 rfl (Nat.le_of_ble_eq_true rfl) rfl ?_
        refine c_iconst rfl vi_0 ?_
        refine e_iald rfl rfl (Nat.le_of_ble_eq_true rfl) (by decide) zt_0 ?_
        refine c_iconst rfl vi_1 ?_
        refine c_isub rfl ?_
        obtain ⟨r11, h10, h⟩ := zk_lt_g h
        refine e_callS (As := [.int (I8 76 14), .int (0 : Int32), .int ((I8 79 0) - (1 : Int32))]) (st := []) rfl lk_X8_63 rfl rfl rfl (Nat.le_of_ble_eq_true rfl) rfl (k_X8_in h10.symm) ?_
        refine c_if_eq rfl (fun q12 => ?_) (fun q12 => ?_)
        · rw [if_pos q12] at h
          refine c_iconst rfl vi_0 ?_
          obtain ⟨rfl, rfl⟩ := zk_r2 h
          exact c_ireturn rfl rfl zk_nb0
        · rw [if_neg q12] at h
          refine c_aload_n rfl rfl ?_
          refine c_getI rfl fk_X8_91 rfl (Nat.le_of_ble_eq_true rfl) ?_
          refine c_iload_n rfl rfl ?_
          refine c_icmp_ne rfl (fun q13 => ?_) (fun q13 => ?_)
          · rw [if_neg q13] at h
            refine c_aload_n rfl rfl ?_
            refine c_getR rfl fk_X8_16 rfl (Nat.le_of_ble_eq_true rfl) rfl ?_
            refine c_bipush rfl vb_18 ?_
            refine c_iload_n rfl rfl ?_
            refine c_iadd rfl ?_
            refine c_dup2 rfl rfl rfl ?_
            obtain ⟨q14, h⟩ := zk_ck_e h
            refine e_iald rfl rfl (Nat.le_of_ble_eq_true rfl) q14 rfl ?_
            refine c_iconst rfl vi_1 ?_
            refine c_aload_n rfl rfl ?_
            refine c_getI rfl fk_X8_91 rfl (Nat.le_of_ble_eq_true rfl) ?_
            refine c_ishl rfl ?_
            refine c_ior rfl ?_
            obtain ⟨q15, h⟩ := zk_ck_e h
            refine e_iast rfl rfl (Nat.le_of_ble_eq_true rfl) q15 rfl ?_
            obtain ⟨I16, hI16, h⟩ := zk_lt_g h
            refine c_memI hI16 ?_
            refine c_aload_n rfl rfl ?_
            refine c_getR rfl fk_X8_16 rfl (Nat.le_of_ble_eq_true rfl) rfl ?_
            refine c_bipush rfl vb_18 ?_
            refine c_aload_n rfl rfl ?_
            refine c_getI rfl fk_X8_91 rfl (Nat.le_of_ble_eq_true rfl) ?_
            refine c_iadd rfl ?_
            refine c_dup2 rfl rfl rfl ?_
            obtain ⟨q17, h⟩ := zk_ck_e h
            refine e_iald rfl rfl (Nat.le_of_ble_eq_true rfl) q17 rfl ?_
            refine c_iconst rfl vi_1 ?_
            refine c_iload_n rfl rfl ?_
            refine c_ishl rfl ?_
            refine c_ior rfl ?_
            obtain ⟨q18, h⟩ := zk_ck_e h
            refine e_iast rfl rfl (Nat.le_of_ble_eq_true rfl) q18 rfl ?_
            obtain ⟨I19, hI19, h⟩ := zk_lt_g h
            refine c_memI hI19 ?_
            refine c_iconst rfl vi_1 ?_
            obtain ⟨rfl, rfl⟩ := zk_r2 h
            exact c_ireturn rfl rfl zk_nb1
          · rw [if_pos q13] at h
            refine c_iconst rfl vi_0 ?_
            obtain ⟨rfl, rfl⟩ := zk_r2 h
            exact c_ireturn rfl rfl zk_nb0
    · rw [if_pos q6] at h
      refine c_iconst rfl vi_0 ?_
      obtain ⟨rfl, rfl⟩ := zk_r2 h
      exact c_ireturn rfl rfl zk_nb0
def f_X8_readsMove (I : zk_I) : Option (Int32 × zk_I) := zk_bd1 (f_X8_token I) (fun (I2 : zk_I) =>
  zk_jp1 (fun (I4 : zk_I) =>
   some ((0 : Int32), I4)) (fun (K5 : zk_I → Option (Int32 × zk_I)) =>
   (if (I2 76 11) = (2 : Int32) then (
    zk_lt (f_X8_in (I2 76 14) (0 : Int32) ((I2 79 0) - (1 : Int32))) (fun (r7 : Int32) =>
     (if r7 = 0 then (
      K5 I2) else (
      zk_bd2 (f_X8_number I2 ((26 : Int32) + (I2 76 14)) (0 : Int32) (99 : Int32)) (fun (r10 : Int32) (I11 : zk_I) =>
       (if r10 = 0 then (
        K5 I11) else (
        some ((1 : Int32), I11)))))))) else (
    K5 I2))))
set_option maxRecDepth 20000 in
theorem k_X8_readsMove {X : zk_X} {I : zk_I} {J : zk_J} {r : Int32} {IR : zk_I} (h : f_X8_readsMove I = some (r, IR)) : zC X 5 m_X8_readsMove 0 (zk_ent [.ref 76] 1) [] (z_Z, I, J) 0 0 (some (.int r)) (z_Z, IR, J) := by
  unfold f_X8_readsMove at h
  refine c_ent (L2 := [some (.ref 76)]) rfl ?_
  refine c_aload_n rfl rfl ?_
  obtain ⟨I2, h1, h⟩ := zk_bd1_e h
  refine e_callV (As := []) (st := []) rfl lk_X8_94 rfl (Nat.le_of_ble_eq_true rfl) rfl rfl rfl (Nat.le_of_ble_eq_true rfl) rfl (k_X8_token h1) ?_
  refine c_aload_n rfl rfl ?_
  refine c_getI rfl fk_X8_88 rfl (Nat.le_of_ble_eq_true rfl) ?_
  refine c_iconst rfl vi_2 ?_
  refine zk_jp1_e (Z := fun (I4 : zk_I) => zC X 5 m_X8_readsMove 52 [none] [] (z_Z, I4, J) 0 0 (some (.int r)) (z_Z, IR, J)) h (fun I4 h => ?_) (fun K5 jK5 h => ?_)
  · refine c_iconst rfl vi_0 ?_
    obtain ⟨rfl, rfl⟩ := zk_r2 h
    exact c_ireturn rfl rfl zk_nb0
  · refine c_icmp_ne rfl (fun q3 => ?_) (fun q3 => ?_)
    · rw [if_neg q3] at h
      refine c_drop [false] (L2 := [none]) rfl ?_
      exact jK5 _ h
    · rw [if_pos q3] at h
      refine c_aload_n rfl rfl ?_
      refine c_getI rfl fk_X8_91 rfl (Nat.le_of_ble_eq_true rfl) ?_
      refine c_iconst rfl vi_0 ?_
      refine c_aload_n rfl rfl ?_
      refine c_getR rfl fk_X8_16 rfl (Nat.le_of_ble_eq_true rfl) rfl ?_
      refine c_iconst rfl vi_0 ?_
      refine e_iald rfl rfl (Nat.le_of_ble_eq_true rfl) (by decide) zt_0 ?_
      refine c_iconst rfl vi_1 ?_
      refine c_isub rfl ?_
      obtain ⟨r7, h6, h⟩ := zk_lt_g h
      refine e_callS (As := [.int (I2 76 14), .int (0 : Int32), .int ((I2 79 0) - (1 : Int32))]) (st := []) rfl lk_X8_63 rfl rfl rfl (Nat.le_of_ble_eq_true rfl) rfl (k_X8_in h6.symm) ?_
      refine c_if_eq rfl (fun q8 => ?_) (fun q8 => ?_)
      · rw [if_pos q8] at h
        refine c_drop [false] (L2 := [none]) rfl ?_
        exact jK5 _ h
      · rw [if_neg q8] at h
        refine c_aload_n rfl rfl ?_
        refine c_bipush rfl vb_26 ?_
        refine c_aload_n rfl rfl ?_
        refine c_getI rfl fk_X8_91 rfl (Nat.le_of_ble_eq_true rfl) ?_
        refine c_iadd rfl ?_
        refine c_iconst rfl vi_0 ?_
        refine c_bipush rfl vb_99 ?_
        obtain ⟨r10, I11, h9, h⟩ := zk_bd2_e h
        refine e_callV (As := [.int ((26 : Int32) + (I2 76 14)), .int (0 : Int32), .int (99 : Int32)]) (st := []) rfl lk_X8_97 rfl (Nat.le_of_ble_eq_true rfl) rfl rfl rfl (Nat.le_of_ble_eq_true rfl) rfl (k_X8_number h9) ?_
        refine c_if_eq rfl (fun q12 => ?_) (fun q12 => ?_)
        · rw [if_pos q12] at h
          refine c_drop [false] (L2 := [none]) rfl ?_
          exact jK5 _ h
        · rw [if_neg q12] at h
          refine c_iconst rfl vi_1 ?_
          refine c_goto rfl ?_
          obtain ⟨rfl, rfl⟩ := zk_r2 h
          exact c_ireturn rfl rfl zk_nb1
def f_X8_readsBook (I : zk_I) : Option (Int32 × zk_I) := (if (I 79 1) = (4 : Int32) then (
  some ((0 : Int32), I)) else (
  zk_bd2 (f_X8_number I ((34 : Int32) + (I 79 1)) (0 : Int32) ((I 79 0) - (1 : Int32))) (fun (r3 : Int32) (I4 : zk_I) =>
   (if r3 = 0 then (
    some ((0 : Int32), I4)) else (
    zk_lt (zk_sc I4 79 (upd (I4 79) 1 ((I4 79 1) + (1 : Int32)))) (fun (I6 : zk_I) =>
     some ((1 : Int32), I6)))))))
set_option maxRecDepth 20000 in
theorem k_X8_readsBook {X : zk_X} {I : zk_I} {J : zk_J} {r : Int32} {IR : zk_I} (h : f_X8_readsBook I = some (r, IR)) : zC X 5 m_X8_readsBook 0 (zk_ent [.ref 76] 2) [] (z_Z, I, J) 0 0 (some (.int r)) (z_Z, IR, J) := by
  unfold f_X8_readsBook at h
  refine c_ent (L2 := [some (.ref 76), none]) rfl ?_
  refine c_aload_n rfl rfl ?_
  refine c_getR rfl fk_X8_16 rfl (Nat.le_of_ble_eq_true rfl) rfl ?_
  refine c_iconst rfl vi_1 ?_
  refine e_iald rfl rfl (Nat.le_of_ble_eq_true rfl) (by decide) zt_1 ?_
  refine e_istore_n (L2 := [some (.ref 76), some (.int (I 79 1))]) rfl rfl rfl rfl ?_
  refine c_iload_n rfl rfl ?_
  refine c_iconst rfl vi_4 ?_
  refine c_icmp_eq rfl (fun q1 => ?_) (fun q1 => ?_)
  · rw [if_pos q1] at h
    refine c_iconst rfl vi_0 ?_
    obtain ⟨rfl, rfl⟩ := zk_r2 h
    exact c_ireturn rfl rfl zk_nb0
  · rw [if_neg q1] at h
    refine c_aload_n rfl rfl ?_
    refine c_bipush rfl vb_34 ?_
    refine c_iload_n rfl rfl ?_
    refine c_iadd rfl ?_
    refine c_iconst rfl vi_0 ?_
    refine c_aload_n rfl rfl ?_
    refine c_getR rfl fk_X8_16 rfl (Nat.le_of_ble_eq_true rfl) rfl ?_
    refine c_iconst rfl vi_0 ?_
    refine e_iald rfl rfl (Nat.le_of_ble_eq_true rfl) (by decide) zt_0 ?_
    refine c_iconst rfl vi_1 ?_
    refine c_isub rfl ?_
    obtain ⟨r3, I4, h2, h⟩ := zk_bd2_e h
    refine e_callV (As := [.int ((34 : Int32) + (I 79 1)), .int (0 : Int32), .int ((I 79 0) - (1 : Int32))]) (st := []) rfl lk_X8_97 rfl (Nat.le_of_ble_eq_true rfl) rfl rfl rfl (Nat.le_of_ble_eq_true rfl) rfl (k_X8_number h2) ?_
    refine c_if_ne rfl (fun q5 => ?_) (fun q5 => ?_)
    · rw [if_neg q5] at h
      refine c_aload_n rfl rfl ?_
      refine c_getR rfl fk_X8_16 rfl (Nat.le_of_ble_eq_true rfl) rfl ?_
      refine c_iconst rfl vi_1 ?_
      refine c_dup2 rfl rfl rfl ?_
      refine e_iald rfl rfl (Nat.le_of_ble_eq_true rfl) (by decide) zt_1 ?_
      refine c_iconst rfl vi_1 ?_
      refine c_iadd rfl ?_
      refine e_iast rfl rfl (Nat.le_of_ble_eq_true rfl) (by decide) zt_1 ?_
      obtain ⟨I6, hI6, h⟩ := zk_lt_g h
      refine c_memI hI6 ?_
      refine c_iconst rfl vi_1 ?_
      obtain ⟨rfl, rfl⟩ := zk_r2 h
      exact c_ireturn rfl rfl zk_nb1
    · rw [if_pos q5] at h
      refine c_iconst rfl vi_0 ?_
      obtain ⟨rfl, rfl⟩ := zk_r2 h
      exact c_ireturn rfl rfl zk_nb0
def f_X8_readsClause (I : zk_I) : Option (Int32 × zk_I) := zk_bd1 (f_X8_isWord I (108 : Int32) (105 : Int32) (98 : Int32) (114 : Int32) (97 : Int32) (114 : Int32) (121 : Int32) (0 : Int32) (0 : Int32)) (fun (r2 : Int32) =>
  (if r2 = 0 then (
   zk_bd1 (f_X8_isWord I (112 : Int32) (108 : Int32) (97 : Int32) (105 : Int32) (110 : Int32) (0 : Int32) (0 : Int32) (0 : Int32) (0 : Int32)) (fun (r5 : Int32) =>
    (if r5 = 0 then (
     zk_bd1 (f_X8_isWord I (102 : Int32) (108 : Int32) (97 : Int32) (116 : Int32) (116 : Int32) (101 : Int32) (114 : Int32) (101 : Int32) (114 : Int32)) (fun (r8 : Int32) =>
      (if r8 = 0 then (
       zk_bd1 (f_X8_isWord I (98 : Int32) (108 : Int32) (105 : Int32) (110 : Int32) (100 : Int32) (0 : Int32) (0 : Int32) (0 : Int32) (0 : Int32)) (fun (r11 : Int32) =>
        (if r11 = 0 then (
         zk_bd1 (f_X8_isWord I (115 : Int32) (117 : Int32) (108 : Int32) (107 : Int32) (101 : Int32) (114 : Int32) (0 : Int32) (0 : Int32) (0 : Int32)) (fun (r14 : Int32) =>
          (if r14 = 0 then (
           zk_bd1 (f_X8_isWord I (102 : Int32) (101 : Int32) (117 : Int32) (100 : Int32) (0 : Int32) (0 : Int32) (0 : Int32) (0 : Int32) (0 : Int32)) (fun (r17 : Int32) =>
            (if r17 = 0 then (
             zk_bd1 (f_X8_isWord I (109 : Int32) (111 : Int32) (118 : Int32) (101 : Int32) (0 : Int32) (0 : Int32) (0 : Int32) (0 : Int32) (0 : Int32)) (fun (r20 : Int32) =>
              (if r20 = 0 then (
               zk_bd1 (f_X8_isWord I (98 : Int32) (111 : Int32) (111 : Int32) (107 : Int32) (0 : Int32) (0 : Int32) (0 : Int32) (0 : Int32) (0 : Int32)) (fun (r23 : Int32) =>
                (if r23 = 0 then (
                 zk_bd1 (f_X8_isWord I (112 : Int32) (101 : Int32) (97 : Int32) (99 : Int32) (101 : Int32) (0 : Int32) (0 : Int32) (0 : Int32) (0 : Int32)) (fun (r26 : Int32) =>
                  (if r26 = 0 then (
                   some ((0 : Int32), I)) else (
                   zk_bd1 (f_X8_peace I) (fun (I29 : zk_I) =>
                    some ((1 : Int32), I29)))))) else (
                 zk_bd2 (f_X8_readsBook I) (fun (r31 : Int32) (I32 : zk_I) =>
                  zk_ck (zk_01 r31) (
                   some (r31, I32))))))) else (
               zk_bd2 (f_X8_readsMove I) (fun (r35 : Int32) (I36 : zk_I) =>
                zk_ck (zk_01 r35) (
                 some (r35, I36))))))) else (
             zk_bd2 (f_X8_readsFeud I) (fun (r39 : Int32) (I40 : zk_I) =>
              zk_ck (zk_01 r39) (
               some (r39, I40))))))) else (
           zk_bd2 (f_X8_readsReader I (3 : Int32)) (fun (r43 : Int32) (I44 : zk_I) =>
            zk_ck (zk_01 r43) (
             some (r43, I44))))))) else (
         zk_bd2 (f_X8_readsReader I (2 : Int32)) (fun (r47 : Int32) (I48 : zk_I) =>
          zk_ck (zk_01 r47) (
           some (r47, I48))))))) else (
       zk_bd2 (f_X8_readsReader I (1 : Int32)) (fun (r51 : Int32) (I52 : zk_I) =>
        zk_ck (zk_01 r51) (
         some (r51, I52))))))) else (
     zk_bd2 (f_X8_readsReader I (0 : Int32)) (fun (r55 : Int32) (I56 : zk_I) =>
      zk_ck (zk_01 r55) (
       some (r55, I56))))))) else (
   zk_bd1 (f_X8_forgets I) (fun (I59 : zk_I) =>
    some ((1 : Int32), I59)))))
set_option maxRecDepth 20000 in
theorem k_X8_readsClause {X : zk_X} {I : zk_I} {J : zk_J} {r : Int32} {IR : zk_I} (h : f_X8_readsClause I = some (r, IR)) : zC X 6 m_X8_readsClause 0 (zk_ent [.ref 76] 1) [] (z_Z, I, J) 0 0 (some (.int r)) (z_Z, IR, J) := by
  unfold f_X8_readsClause at h
  refine c_ent (L2 := [some (.ref 76)]) rfl ?_
  refine c_aload_n rfl rfl ?_
  refine c_bipush rfl vb_108 ?_
  refine c_bipush rfl vb_105 ?_
  refine c_bipush rfl vb_98 ?_
  refine c_bipush rfl vb_114 ?_
  refine c_bipush rfl vb_97 ?_
  refine c_bipush rfl vb_114 ?_
  refine c_bipush rfl vb_121 ?_
  refine c_iconst rfl vi_0 ?_
  refine c_iconst rfl vi_0 ?_
  obtain ⟨r2, h1, h⟩ := zk_bd1_e h
  refine e_callV (As := [.int (108 : Int32), .int (105 : Int32), .int (98 : Int32), .int (114 : Int32), .int (97 : Int32), .int (114 : Int32), .int (121 : Int32), .int (0 : Int32), .int (0 : Int32)]) (st := []) rfl lk_X8_100 rfl (Nat.le_of_ble_eq_true rfl) rfl rfl rfl (Nat.le_of_ble_eq_true rfl) rfl (k_X8_isWord h1) ?_
  refine c_if_eq rfl (fun q3 => ?_) (fun q3 => ?_)
  · rw [if_pos q3] at h
    refine c_aload_n rfl rfl ?_
    refine c_bipush rfl vb_112 ?_
    refine c_bipush rfl vb_108 ?_
    refine c_bipush rfl vb_97 ?_
    refine c_bipush rfl vb_105 ?_
    refine c_bipush rfl vb_110 ?_
    refine c_iconst rfl vi_0 ?_
    refine c_iconst rfl vi_0 ?_
    refine c_iconst rfl vi_0 ?_
    refine c_iconst rfl vi_0 ?_
    obtain ⟨r5, h4, h⟩ := zk_bd1_e h
    refine e_callV (As := [.int (112 : Int32), .int (108 : Int32), .int (97 : Int32), .int (105 : Int32), .int (110 : Int32), .int (0 : Int32), .int (0 : Int32), .int (0 : Int32), .int (0 : Int32)]) (st := []) rfl lk_X8_100 rfl (Nat.le_of_ble_eq_true rfl) rfl rfl rfl (Nat.le_of_ble_eq_true rfl) rfl (k_X8_isWord h4) ?_
    refine c_if_eq rfl (fun q6 => ?_) (fun q6 => ?_)
    · rw [if_pos q6] at h
      refine c_aload_n rfl rfl ?_
      refine c_bipush rfl vb_102 ?_
      refine c_bipush rfl vb_108 ?_
      refine c_bipush rfl vb_97 ?_
      refine c_bipush rfl vb_116 ?_
      refine c_bipush rfl vb_116 ?_
      refine c_bipush rfl vb_101 ?_
      refine c_bipush rfl vb_114 ?_
      refine c_bipush rfl vb_101 ?_
      refine c_bipush rfl vb_114 ?_
      obtain ⟨r8, h7, h⟩ := zk_bd1_e h
      refine e_callV (As := [.int (102 : Int32), .int (108 : Int32), .int (97 : Int32), .int (116 : Int32), .int (116 : Int32), .int (101 : Int32), .int (114 : Int32), .int (101 : Int32), .int (114 : Int32)]) (st := []) rfl lk_X8_100 rfl (Nat.le_of_ble_eq_true rfl) rfl rfl rfl (Nat.le_of_ble_eq_true rfl) rfl (k_X8_isWord h7) ?_
      refine c_if_eq rfl (fun q9 => ?_) (fun q9 => ?_)
      · rw [if_pos q9] at h
        refine c_aload_n rfl rfl ?_
        refine c_bipush rfl vb_98 ?_
        refine c_bipush rfl vb_108 ?_
        refine c_bipush rfl vb_105 ?_
        refine c_bipush rfl vb_110 ?_
        refine c_bipush rfl vb_100 ?_
        refine c_iconst rfl vi_0 ?_
        refine c_iconst rfl vi_0 ?_
        refine c_iconst rfl vi_0 ?_
        refine c_iconst rfl vi_0 ?_
        obtain ⟨r11, h10, h⟩ := zk_bd1_e h
        refine e_callV (As := [.int (98 : Int32), .int (108 : Int32), .int (105 : Int32), .int (110 : Int32), .int (100 : Int32), .int (0 : Int32), .int (0 : Int32), .int (0 : Int32), .int (0 : Int32)]) (st := []) rfl lk_X8_100 rfl (Nat.le_of_ble_eq_true rfl) rfl rfl rfl (Nat.le_of_ble_eq_true rfl) rfl (k_X8_isWord h10) ?_
        refine c_if_eq rfl (fun q12 => ?_) (fun q12 => ?_)
        · rw [if_pos q12] at h
          refine c_aload_n rfl rfl ?_
          refine c_bipush rfl vb_115 ?_
          refine c_bipush rfl vb_117 ?_
          refine c_bipush rfl vb_108 ?_
          refine c_bipush rfl vb_107 ?_
          refine c_bipush rfl vb_101 ?_
          refine c_bipush rfl vb_114 ?_
          refine c_iconst rfl vi_0 ?_
          refine c_iconst rfl vi_0 ?_
          refine c_iconst rfl vi_0 ?_
          obtain ⟨r14, h13, h⟩ := zk_bd1_e h
          refine e_callV (As := [.int (115 : Int32), .int (117 : Int32), .int (108 : Int32), .int (107 : Int32), .int (101 : Int32), .int (114 : Int32), .int (0 : Int32), .int (0 : Int32), .int (0 : Int32)]) (st := []) rfl lk_X8_100 rfl (Nat.le_of_ble_eq_true rfl) rfl rfl rfl (Nat.le_of_ble_eq_true rfl) rfl (k_X8_isWord h13) ?_
          refine c_if_eq rfl (fun q15 => ?_) (fun q15 => ?_)
          · rw [if_pos q15] at h
            refine c_aload_n rfl rfl ?_
            refine c_bipush rfl vb_102 ?_
            refine c_bipush rfl vb_101 ?_
            refine c_bipush rfl vb_117 ?_
            refine c_bipush rfl vb_100 ?_
            refine c_iconst rfl vi_0 ?_
            refine c_iconst rfl vi_0 ?_
            refine c_iconst rfl vi_0 ?_
            refine c_iconst rfl vi_0 ?_
            refine c_iconst rfl vi_0 ?_
            obtain ⟨r17, h16, h⟩ := zk_bd1_e h
            refine e_callV (As := [.int (102 : Int32), .int (101 : Int32), .int (117 : Int32), .int (100 : Int32), .int (0 : Int32), .int (0 : Int32), .int (0 : Int32), .int (0 : Int32), .int (0 : Int32)]) (st := []) rfl lk_X8_100 rfl (Nat.le_of_ble_eq_true rfl) rfl rfl rfl (Nat.le_of_ble_eq_true rfl) rfl (k_X8_isWord h16) ?_
            refine c_if_eq rfl (fun q18 => ?_) (fun q18 => ?_)
            · rw [if_pos q18] at h
              refine c_aload_n rfl rfl ?_
              refine c_bipush rfl vb_109 ?_
              refine c_bipush rfl vb_111 ?_
              refine c_bipush rfl vb_118 ?_
              refine c_bipush rfl vb_101 ?_
              refine c_iconst rfl vi_0 ?_
              refine c_iconst rfl vi_0 ?_
              refine c_iconst rfl vi_0 ?_
              refine c_iconst rfl vi_0 ?_
              refine c_iconst rfl vi_0 ?_
              obtain ⟨r20, h19, h⟩ := zk_bd1_e h
              refine e_callV (As := [.int (109 : Int32), .int (111 : Int32), .int (118 : Int32), .int (101 : Int32), .int (0 : Int32), .int (0 : Int32), .int (0 : Int32), .int (0 : Int32), .int (0 : Int32)]) (st := []) rfl lk_X8_100 rfl (Nat.le_of_ble_eq_true rfl) rfl rfl rfl (Nat.le_of_ble_eq_true rfl) rfl (k_X8_isWord h19) ?_
              refine c_if_eq rfl (fun q21 => ?_) (fun q21 => ?_)
              · rw [if_pos q21] at h
                refine c_aload_n rfl rfl ?_
                refine c_bipush rfl vb_98 ?_
                refine c_bipush rfl vb_111 ?_
                refine c_bipush rfl vb_111 ?_
                refine c_bipush rfl vb_107 ?_
                refine c_iconst rfl vi_0 ?_
                refine c_iconst rfl vi_0 ?_
                refine c_iconst rfl vi_0 ?_
                refine c_iconst rfl vi_0 ?_
                refine c_iconst rfl vi_0 ?_
                obtain ⟨r23, h22, h⟩ := zk_bd1_e h
                refine e_callV (As := [.int (98 : Int32), .int (111 : Int32), .int (111 : Int32), .int (107 : Int32), .int (0 : Int32), .int (0 : Int32), .int (0 : Int32), .int (0 : Int32), .int (0 : Int32)]) (st := []) rfl lk_X8_100 rfl (Nat.le_of_ble_eq_true rfl) rfl rfl rfl (Nat.le_of_ble_eq_true rfl) rfl (k_X8_isWord h22) ?_
                refine c_if_eq rfl (fun q24 => ?_) (fun q24 => ?_)
                · rw [if_pos q24] at h
                  refine c_aload_n rfl rfl ?_
                  refine c_bipush rfl vb_112 ?_
                  refine c_bipush rfl vb_101 ?_
                  refine c_bipush rfl vb_97 ?_
                  refine c_bipush rfl vb_99 ?_
                  refine c_bipush rfl vb_101 ?_
                  refine c_iconst rfl vi_0 ?_
                  refine c_iconst rfl vi_0 ?_
                  refine c_iconst rfl vi_0 ?_
                  refine c_iconst rfl vi_0 ?_
                  obtain ⟨r26, h25, h⟩ := zk_bd1_e h
                  refine e_callV (As := [.int (112 : Int32), .int (101 : Int32), .int (97 : Int32), .int (99 : Int32), .int (101 : Int32), .int (0 : Int32), .int (0 : Int32), .int (0 : Int32), .int (0 : Int32)]) (st := []) rfl lk_X8_100 rfl (Nat.le_of_ble_eq_true rfl) rfl rfl rfl (Nat.le_of_ble_eq_true rfl) rfl (k_X8_isWord h25) ?_
                  refine c_if_eq rfl (fun q27 => ?_) (fun q27 => ?_)
                  · rw [if_pos q27] at h
                    refine c_iconst rfl vi_0 ?_
                    obtain ⟨rfl, rfl⟩ := zk_r2 h
                    exact c_ireturn rfl rfl zk_nb0
                  · rw [if_neg q27] at h
                    refine c_aload_n rfl rfl ?_
                    obtain ⟨I29, h28, h⟩ := zk_bd1_e h
                    refine e_callV (As := []) (st := []) rfl lk_X8_120 rfl (Nat.le_of_ble_eq_true rfl) rfl rfl rfl (Nat.le_of_ble_eq_true rfl) rfl (k_X8_peace h28) ?_
                    refine c_iconst rfl vi_1 ?_
                    obtain ⟨rfl, rfl⟩ := zk_r2 h
                    exact c_ireturn rfl rfl zk_nb1
                · rw [if_neg q24] at h
                  refine c_aload_n rfl rfl ?_
                  obtain ⟨r31, I32, h30, h⟩ := zk_bd2_e h
                  refine e_callV (As := []) (st := []) rfl lk_X8_117 rfl (Nat.le_of_ble_eq_true rfl) rfl rfl rfl (Nat.le_of_ble_eq_true rfl) rfl (k_X8_readsBook h30) ?_
                  obtain ⟨q33, h⟩ := zk_ck_e h
                  obtain ⟨rfl, rfl⟩ := zk_r2 h
                  exact c_ireturn rfl rfl (zk_01_n q33)
              · rw [if_neg q21] at h
                refine c_aload_n rfl rfl ?_
                obtain ⟨r35, I36, h34, h⟩ := zk_bd2_e h
                refine e_callV (As := []) (st := []) rfl lk_X8_114 rfl (Nat.le_of_ble_eq_true rfl) rfl rfl rfl (Nat.le_of_ble_eq_true rfl) rfl (k_X8_readsMove h34) ?_
                obtain ⟨q37, h⟩ := zk_ck_e h
                obtain ⟨rfl, rfl⟩ := zk_r2 h
                exact c_ireturn rfl rfl (zk_01_n q37)
            · rw [if_neg q18] at h
              refine c_aload_n rfl rfl ?_
              obtain ⟨r39, I40, h38, h⟩ := zk_bd2_e h
              refine e_callV (As := []) (st := []) rfl lk_X8_110 rfl (Nat.le_of_ble_eq_true rfl) rfl rfl rfl (Nat.le_of_ble_eq_true rfl) rfl (k_X8_readsFeud h38) ?_
              obtain ⟨q41, h⟩ := zk_ck_e h
              obtain ⟨rfl, rfl⟩ := zk_r2 h
              exact c_ireturn rfl rfl (zk_01_n q41)
          · rw [if_neg q15] at h
            refine c_aload_n rfl rfl ?_
            refine c_iconst rfl vi_3 ?_
            obtain ⟨r43, I44, h42, h⟩ := zk_bd2_e h
            refine e_callV (As := [.int (3 : Int32)]) (st := []) rfl lk_X8_107 rfl (Nat.le_of_ble_eq_true rfl) rfl rfl rfl (Nat.le_of_ble_eq_true rfl) rfl (k_X8_readsReader h42) ?_
            obtain ⟨q45, h⟩ := zk_ck_e h
            obtain ⟨rfl, rfl⟩ := zk_r2 h
            exact c_ireturn rfl rfl (zk_01_n q45)
        · rw [if_neg q12] at h
          refine c_aload_n rfl rfl ?_
          refine c_iconst rfl vi_2 ?_
          obtain ⟨r47, I48, h46, h⟩ := zk_bd2_e h
          refine e_callV (As := [.int (2 : Int32)]) (st := []) rfl lk_X8_107 rfl (Nat.le_of_ble_eq_true rfl) rfl rfl rfl (Nat.le_of_ble_eq_true rfl) rfl (k_X8_readsReader h46) ?_
          obtain ⟨q49, h⟩ := zk_ck_e h
          obtain ⟨rfl, rfl⟩ := zk_r2 h
          exact c_ireturn rfl rfl (zk_01_n q49)
      · rw [if_neg q9] at h
        refine c_aload_n rfl rfl ?_
        refine c_iconst rfl vi_1 ?_
        obtain ⟨r51, I52, h50, h⟩ := zk_bd2_e h
        refine e_callV (As := [.int (1 : Int32)]) (st := []) rfl lk_X8_107 rfl (Nat.le_of_ble_eq_true rfl) rfl rfl rfl (Nat.le_of_ble_eq_true rfl) rfl (k_X8_readsReader h50) ?_
        obtain ⟨q53, h⟩ := zk_ck_e h
        obtain ⟨rfl, rfl⟩ := zk_r2 h
        exact c_ireturn rfl rfl (zk_01_n q53)
    · rw [if_neg q6] at h
      refine c_aload_n rfl rfl ?_
      refine c_iconst rfl vi_0 ?_
      obtain ⟨r55, I56, h54, h⟩ := zk_bd2_e h
      refine e_callV (As := [.int (0 : Int32)]) (st := []) rfl lk_X8_107 rfl (Nat.le_of_ble_eq_true rfl) rfl rfl rfl (Nat.le_of_ble_eq_true rfl) rfl (k_X8_readsReader h54) ?_
      obtain ⟨q57, h⟩ := zk_ck_e h
      obtain ⟨rfl, rfl⟩ := zk_r2 h
      exact c_ireturn rfl rfl (zk_01_n q57)
  · rw [if_neg q3] at h
    refine c_aload_n rfl rfl ?_
    obtain ⟨I59, h58, h⟩ := zk_bd1_e h
    refine e_callV (As := []) (st := []) rfl lk_X8_104 rfl (Nat.le_of_ble_eq_true rfl) rfl rfl rfl (Nat.le_of_ble_eq_true rfl) rfl (k_X8_forgets h58) ?_
    refine c_iconst rfl vi_1 ?_
    obtain ⟨rfl, rfl⟩ := zk_r2 h
    exact c_ireturn rfl rfl zk_nb1
def l_X8_reads_2  (K : zk_I → Option (Int32 × zk_I)) : Nat → Int32 → zk_I → Option (Int32 × zk_I)
  | 0, _, _ => none
  | n + 1, y1, Iy => (if (38 : Int32) ≤ y1 then (
    K Iy) else (
    zk_ck (zk_in y1 38) (
     zk_ck (zk_in y1 38) (
      zk_lt (zk_sc Iy 79 (upd (Iy 79) y1.toNatClampNeg (Iy 78 y1.toNatClampNeg))) (fun (I4 : zk_I) =>
       l_X8_reads_2 K n (y1 + (1 : Int32)) I4)))))
def l_X8_reads_35  (K : Int32 → zk_I → Option (Int32 × zk_I)) : Nat → Int32 → Int32 → zk_I → Option (Int32 × zk_I)
  | 0, _, _, _ => none
  | n + 1, y1, y2, Iy => (if y2 = 0 then (
    K y1 Iy) else (
    zk_bd1 (f_X8_token Iy) (fun (I9 : zk_I) =>
     zk_bd2 (f_X8_readsClause I9) (fun (r11 : Int32) (I12 : zk_I) =>
      (if r11 = 0 then (
       some ((-1 : Int32), I12)) else (
       zk_bd1 (f_X8_token I12) (fun (I15 : zk_I) =>
        zk_lt ((if (I15 76 11) = 0 then (0 : Int32) else (1 : Int32))) (fun (v17 : Int32) =>
         (if v17 = 0 then (
          l_X8_reads_35 K n (y1 + (1 : Int32)) v17 I15) else (
          (if (I15 76 11) = (3 : Int32) then (
           zk_ck (zk_in (I15 76 12) 160) (
            (if (I15 77 (I15 76 12).toNatClampNeg) = (59 : Int32) then (
             (if (y1 + (1 : Int32)) = (14 : Int32) then (
              some ((-1 : Int32), I15)) else (
              l_X8_reads_35 K n (y1 + (1 : Int32)) v17 I15))) else (
             some ((-1 : Int32), I15))))) else (
           some ((-1 : Int32), I15)))))))))))))
def f_X8_reads (I : zk_I) : Option (Int32 × zk_I) := l_X8_reads_2 (fun (I5 : zk_I) =>
  zk_lt (zk_sc I5 76 (upd (I5 76) 13 (0 : Int32))) (fun (I6 : zk_I) =>
   l_X8_reads_35 (fun (z24 : Int32) (I25 : zk_I) =>
    some (z24, I25)) 3000 (0 : Int32) (1 : Int32) I6)) 3000 (0 : Int32) I
set_option maxRecDepth 20000 in
theorem kl_X8_reads_2 {X : zk_X} {J : zk_J} {K : zk_I → Option (Int32 × zk_I)} {r : Int32} {IR : zk_I} (jK : ∀ (Iz : zk_I), K Iz = some (r, IR) → zC X 7 m_X8_reads 26 [some (.ref 76), none, none] [] (z_Z, Iz, J) 0 0 (some (.int r)) (z_Z, IR, J)) : ∀ (n : Nat) (y1 : Int32) (Iy : zk_I), l_X8_reads_2 K n y1 Iy = some (r, IR) → zC X 7 m_X8_reads 2 [some (.ref 76), some (.int y1), none] [] (z_Z, Iy, J) 0 0 (some (.int r)) (z_Z, IR, J) := by
  intro n
  induction n with
  | zero =>
    intro y1 Iy h
    cases h
  | succ n ih =>
    intro y1 Iy h
    rw [l_X8_reads_2] at h
    refine c_iload_n rfl rfl ?_
    refine c_bipush rfl vb_38 ?_
    refine c_icmp_ge rfl (fun q1 => ?_) (fun q1 => ?_)
    · rw [if_pos q1] at h
      refine c_drop [true, false, true] (L2 := [some (.ref 76), none, none]) rfl ?_
      exact jK _ h
    · rw [if_neg q1] at h
      refine c_aload_n rfl rfl ?_
      refine c_getR rfl fk_X8_16 rfl (Nat.le_of_ble_eq_true rfl) rfl ?_
      refine c_iload_n rfl rfl ?_
      refine c_aload_n rfl rfl ?_
      refine c_getR rfl fk_X8_13 rfl (Nat.le_of_ble_eq_true rfl) rfl ?_
      refine c_iload_n rfl rfl ?_
      obtain ⟨q2, h⟩ := zk_ck_e h
      refine e_iald rfl rfl (Nat.le_of_ble_eq_true rfl) q2 rfl ?_
      obtain ⟨q3, h⟩ := zk_ck_e h
      refine e_iast rfl rfl (Nat.le_of_ble_eq_true rfl) q3 rfl ?_
      obtain ⟨I4, hI4, h⟩ := zk_lt_g h
      refine c_memI hI4 ?_
      refine e_iinc (L2 := [some (.ref 76), some (.int (y1 + (1 : Int32))), none]) rfl rfl vi_1 rfl rfl rfl ?_
      refine c_goto rfl ?_
      exact ih _ _ h
set_option maxRecDepth 20000 in
theorem kl_X8_reads_35 {X : zk_X} {J : zk_J} {K : Int32 → zk_I → Option (Int32 × zk_I)} {r : Int32} {IR : zk_I} (jK : ∀ (z1 : Int32) (Iz : zk_I), K z1 Iz = some (r, IR) → zC X 7 m_X8_reads 106 [none, some (.int z1), none] [] (z_Z, Iz, J) 0 0 (some (.int r)) (z_Z, IR, J)) : ∀ (n : Nat) (y1 : Int32) (y2 : Int32) (Iy : zk_I), l_X8_reads_35 K n y1 y2 Iy = some (r, IR) → zC X 7 m_X8_reads 35 [some (.ref 76), some (.int y1), some (.int y2)] [] (z_Z, Iy, J) 0 0 (some (.int r)) (z_Z, IR, J) := by
  intro n
  induction n with
  | zero =>
    intro y1 y2 Iy h
    cases h
  | succ n ih =>
    intro y1 y2 Iy h
    rw [l_X8_reads_35] at h
    refine c_iload_n rfl rfl ?_
    refine c_if_eq rfl (fun q7 => ?_) (fun q7 => ?_)
    · rw [if_pos q7] at h
      refine c_drop [false, true, false] (L2 := [none, some (.int y1), none]) rfl ?_
      exact jK _ _ h
    · rw [if_neg q7] at h
      refine c_aload_n rfl rfl ?_
      obtain ⟨I9, h8, h⟩ := zk_bd1_e h
      refine e_callV (As := []) (st := []) rfl lk_X8_94 rfl (Nat.le_of_ble_eq_true rfl) rfl rfl rfl (Nat.le_of_ble_eq_true rfl) rfl (k_X8_token h8) ?_
      refine c_aload_n rfl rfl ?_
      obtain ⟨r11, I12, h10, h⟩ := zk_bd2_e h
      refine e_callV (As := []) (st := []) rfl lk_X8_123 rfl (Nat.le_of_ble_eq_true rfl) rfl rfl rfl (Nat.le_of_ble_eq_true rfl) rfl (k_X8_readsClause h10) ?_
      refine c_if_ne rfl (fun q13 => ?_) (fun q13 => ?_)
      · rw [if_neg q13] at h
        refine e_iinc (L2 := [some (.ref 76), some (.int (y1 + (1 : Int32))), some (.int y2)]) rfl rfl vi_1 rfl rfl rfl ?_
        refine c_aload_n rfl rfl ?_
        obtain ⟨I15, h14, h⟩ := zk_bd1_e h
        refine e_callV (As := []) (st := []) rfl lk_X8_94 rfl (Nat.le_of_ble_eq_true rfl) rfl rfl rfl (Nat.le_of_ble_eq_true rfl) rfl (k_X8_token h14) ?_
        refine c_aload_n rfl rfl ?_
        refine c_getI rfl fk_X8_88 rfl (Nat.le_of_ble_eq_true rfl) ?_
        refine zk_lt1K (Z := fun (v17 : Int32) => zC X 7 m_X8_reads 71 [some (.ref 76), some (.int (y1 + (1 : Int32))), none] [.int v17] (z_Z, I15, J) 0 0 (some (.int r)) (z_Z, IR, J)) h (fun v17 h => ?_) (fun hz => ?_)
        · refine e_istore_n (L2 := [some (.ref 76), some (.int (y1 + (1 : Int32))), some (.int v17)]) rfl rfl rfl rfl ?_
          refine c_iload_n rfl rfl ?_
          refine c_if_eq rfl (fun q19 => ?_) (fun q19 => ?_)
          · rw [if_pos q19] at h
            exact ih _ _ _ h
          · rw [if_neg q19] at h
            refine c_aload_n rfl rfl ?_
            refine c_getI rfl fk_X8_88 rfl (Nat.le_of_ble_eq_true rfl) ?_
            refine c_iconst rfl vi_3 ?_
            refine c_icmp_ne rfl (fun q20 => ?_) (fun q20 => ?_)
            · rw [if_neg q20] at h
              refine c_iconst rfl vi_m1 ?_
              obtain ⟨rfl, rfl⟩ := zk_r2 h
              exact c_ireturn rfl rfl rfl
            · rw [if_pos q20] at h
              refine c_aload_n rfl rfl ?_
              refine c_getR rfl fk_X8_7 rfl (Nat.le_of_ble_eq_true rfl) rfl ?_
              refine c_aload_n rfl rfl ?_
              refine c_getI rfl fk_X8_78 rfl (Nat.le_of_ble_eq_true rfl) ?_
              obtain ⟨q21, h⟩ := zk_ck_e h
              refine e_iald rfl rfl (Nat.le_of_ble_eq_true rfl) q21 rfl ?_
              refine c_bipush rfl vb_59 ?_
              refine c_icmp_ne rfl (fun q22 => ?_) (fun q22 => ?_)
              · rw [if_neg q22] at h
                refine c_iconst rfl vi_m1 ?_
                obtain ⟨rfl, rfl⟩ := zk_r2 h
                exact c_ireturn rfl rfl rfl
              · rw [if_pos q22] at h
                refine c_iload_n rfl rfl ?_
                refine c_bipush rfl vb_14 ?_
                refine c_icmp_ne rfl (fun q23 => ?_) (fun q23 => ?_)
                · rw [if_neg q23] at h
                  exact ih _ _ _ h
                · rw [if_pos q23] at h
                  refine c_iconst rfl vi_m1 ?_
                  obtain ⟨rfl, rfl⟩ := zk_r2 h
                  exact c_ireturn rfl rfl rfl
        · refine c_if_eq rfl (fun q16 => ?_) (fun q16 => ?_)
          · refine c_iconst rfl vi_0 ?_
            refine c_drop [true, true, false] (L2 := [some (.ref 76), some (.int (y1 + (1 : Int32))), none]) rfl ?_
            rw [if_pos q16] at hz
            exact hz
          · refine c_iconst rfl vi_1 ?_
            refine c_goto rfl ?_
            refine c_drop [true, true, false] (L2 := [some (.ref 76), some (.int (y1 + (1 : Int32))), none]) rfl ?_
            rw [if_neg q16] at hz
            exact hz
      · rw [if_pos q13] at h
        refine c_iconst rfl vi_m1 ?_
        obtain ⟨rfl, rfl⟩ := zk_r2 h
        exact c_ireturn rfl rfl rfl
set_option maxRecDepth 20000 in
theorem k_X8_reads {X : zk_X} {I : zk_I} {J : zk_J} {r : Int32} {IR : zk_I} (h : f_X8_reads I = some (r, IR)) : zC X 7 m_X8_reads 0 (zk_ent [.ref 76] 3) [] (z_Z, I, J) 0 0 (some (.int r)) (z_Z, IR, J) := by
  unfold f_X8_reads at h
  refine c_ent (L2 := [some (.ref 76), none, none]) rfl ?_
  refine c_iconst rfl vi_0 ?_
  refine e_istore_n (L2 := [some (.ref 76), some (.int (0 : Int32)), none]) rfl rfl rfl rfl ?_
  refine kl_X8_reads_2 (fun I5 h => ?_) _ _ _ h
  refine c_aload_n rfl rfl ?_
  refine c_iconst rfl vi_0 ?_
  refine c_putI rfl fk_X8_71 rfl rfl (Nat.le_of_ble_eq_true rfl) ?_
  obtain ⟨I6, hI6, h⟩ := zk_lt_g h
  refine c_memI hI6 ?_
  refine c_iconst rfl vi_0 ?_
  refine e_istore_n (L2 := [some (.ref 76), some (.int (0 : Int32)), none]) rfl rfl rfl rfl ?_
  refine c_iconst rfl vi_1 ?_
  refine e_istore_n (L2 := [some (.ref 76), some (.int (0 : Int32)), some (.int (1 : Int32))]) rfl rfl rfl rfl ?_
  refine kl_X8_reads_35 (fun z24 I25 h => ?_) _ _ _ _ h
  refine c_iload_n rfl rfl ?_
  obtain ⟨rfl, rfl⟩ := zk_r2 h
  exact c_ireturn rfl rfl rfl
def f_X8_fault (I : zk_I) : Option (Int32 × zk_I) := zk_bd2 (f_X8_reads I) (fun (r2 : Int32) (I3 : zk_I) =>
  (if r2 = (-1 : Int32) then (
   some ((I3 76 12), I3)) else (
   some ((-1 : Int32), I3))))
set_option maxRecDepth 20000 in
theorem k_X8_fault {X : zk_X} {I : zk_I} {J : zk_J} {r : Int32} {IR : zk_I} (h : f_X8_fault I = some (r, IR)) : zC X 8 m_X8_fault 0 (zk_ent [.ref 76] 1) [] (z_Z, I, J) 0 0 (some (.int r)) (z_Z, IR, J) := by
  unfold f_X8_fault at h
  refine c_ent (L2 := [some (.ref 76)]) rfl ?_
  refine c_aload_n rfl rfl ?_
  obtain ⟨r2, I3, h1, h⟩ := zk_bd2_e h
  refine e_callV (As := []) (st := []) rfl lk_X8_126 rfl (Nat.le_of_ble_eq_true rfl) rfl rfl rfl (Nat.le_of_ble_eq_true rfl) rfl (k_X8_reads h1) ?_
  refine c_iconst rfl vi_m1 ?_
  refine c_icmp_ne rfl (fun q4 => ?_) (fun q4 => ?_)
  · rw [if_neg q4] at h
    refine c_iconst rfl vi_m1 ?_
    obtain ⟨rfl, rfl⟩ := zk_r2 h
    exact c_ireturn rfl rfl rfl
  · rw [if_pos q4] at h
    refine c_aload_n rfl rfl ?_
    refine c_getI rfl fk_X8_78 rfl (Nat.le_of_ble_eq_true rfl) ?_
    refine c_goto rfl ?_
    obtain ⟨rfl, rfl⟩ := zk_r2 h
    exact c_ireturn rfl rfl rfl

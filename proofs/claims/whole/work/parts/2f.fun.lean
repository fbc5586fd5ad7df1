def f_X7_turns (I : zk_I) (J : zk_J) (a1 : Int32) (a2 : Int32) : Option (Int32 × zk_I × zk_J) := zk_lt (f_X6_hasBook I 3 a1) (fun (r2 : Int32) =>
  (if r2 = 0 then (
   some ((-2 : Int32), I, J)) else (
   zk_jp0 (zk_bd3 (f_X3_foretell I J a1 (8 : Int32)) (fun (r7 : Int64) (I8 : zk_I) (J9 : zk_J) =>
     (if a2 = 0 then (
      some (r7.toInt32, I8, J9)) else (
      zk_bd1 (f_X3_leastWinningChoice I8 J9) (fun (r12 : Int32) =>
       some (r12, I8, J9)))))) (fun (K5 : Option (Int32 × zk_I × zk_J)) =>
    (if a2 = 0 then (
     K5) else (
     (if a2 = (1 : Int32) then (
      K5) else (
      some ((-3 : Int32), I, J)))))))))
set_option maxRecDepth 20000 in
theorem k_X7_turns {X : zk_X} {I : zk_I} {J : zk_J} {a1 : Int32} {a2 : Int32} {r : Int32} {IR : zk_I} {JR : zk_J} (h : f_X7_turns I J a1 a2 = some (r, IR, JR)) : zC X 7 m_X7_turns 0 (zk_ent [.ref 0, .int a1, .int a2] 4) [] (z_Z, I, J) 0 0 (some (.int r)) (z_Z, IR, JR) := by
  unfold f_X7_turns at h
  refine c_ent (L2 := [some (.ref 0), some (.int a1), some (.int a2), none]) rfl ?_
  refine c_aload_n rfl rfl ?_
  refine c_getR rfl fk_X7_19 rfl (Nat.le_of_ble_eq_true rfl) rfl ?_
  refine c_iload_n rfl rfl ?_
  obtain ⟨r2, h1, h⟩ := zk_lt_g h
  refine e_callV (As := [.int a1]) (st := []) rfl lk_X7_132 rfl (Nat.le_of_ble_eq_true rfl) rfl rfl rfl (Nat.le_of_ble_eq_true rfl) rfl (k_X6_hasBook (rfl : z_isT 3 = true) h1.symm) ?_
  refine c_if_ne rfl (fun q3 => ?_) (fun q3 => ?_)
  · rw [if_neg q3] at h
    refine c_iload_n rfl rfl ?_
    refine zk_jp0_e (Z := zC X 7 m_X7_turns 26 [some (.ref 0), some (.int a1), some (.int a2), none] [] (z_Z, I, J) 0 0 (some (.int r)) (z_Z, IR, JR)) h (fun h => ?_) (fun K5 jK5 h => ?_)
    · refine c_aload_n rfl rfl ?_
      refine c_getR rfl fk_X7_55 rfl (Nat.le_of_ble_eq_true rfl) rfl ?_
      refine c_aload_n rfl rfl ?_
      refine c_getR rfl fk_X7_35 rfl (Nat.le_of_ble_eq_true rfl) rfl ?_
      refine c_iload_n rfl rfl ?_
      refine c_bipush rfl vb_8 ?_
      obtain ⟨r7, I8, J9, h6, h⟩ := zk_bd3_e h
      refine e_callV (As := [.ref 16, .int a1, .int (8 : Int32)]) (st := []) rfl lk_X7_183 rfl (Nat.le_of_ble_eq_true rfl) rfl rfl rfl (Nat.le_of_ble_eq_true rfl) rfl (k_X3_foretell h6) ?_
      refine c_l2i rfl ?_
      refine e_istore_n (L2 := [some (.ref 0), some (.int a1), some (.int a2), some (.int r7.toInt32)]) rfl rfl rfl rfl ?_
      refine c_iload_n rfl rfl ?_
      refine c_if_ne rfl (fun q10 => ?_) (fun q10 => ?_)
      · rw [if_neg q10] at h
        refine c_aload_n rfl rfl ?_
        refine c_getR rfl fk_X7_55 rfl (Nat.le_of_ble_eq_true rfl) rfl ?_
        obtain ⟨r12, h11, h⟩ := zk_bd1_e h
        refine e_callV (As := []) (st := []) rfl lk_X7_206 rfl (Nat.le_of_ble_eq_true rfl) rfl rfl rfl (Nat.le_of_ble_eq_true rfl) rfl (k_X3_leastWinningChoice h11) ?_
        obtain ⟨rfl, rfl, rfl⟩ := zk_r3 h
        exact c_ireturn rfl rfl rfl
      · rw [if_pos q10] at h
        refine c_iload_n rfl rfl ?_
        refine c_goto rfl ?_
        obtain ⟨rfl, rfl, rfl⟩ := zk_r3 h
        exact c_ireturn rfl rfl rfl
    · refine c_if_eq rfl (fun q4 => ?_) (fun q4 => ?_)
      · rw [if_pos q4] at h
        exact jK5 h
      · rw [if_neg q4] at h
        refine c_iload_n rfl rfl ?_
        refine c_iconst rfl vi_1 ?_
        refine c_icmp_eq rfl (fun q13 => ?_) (fun q13 => ?_)
        · rw [if_pos q13] at h
          exact jK5 h
        · rw [if_neg q13] at h
          refine c_bipush rfl vb_m3 ?_
          obtain ⟨rfl, rfl, rfl⟩ := zk_r3 h
          exact c_ireturn rfl rfl rfl
  · rw [if_pos q3] at h
    refine c_bipush rfl vb_m2 ?_
    obtain ⟨rfl, rfl, rfl⟩ := zk_r3 h
    exact c_ireturn rfl rfl rfl
def f_X7_clubs (I : zk_I) (a1 : Int32) : Option (Int32 × zk_I) := (if a1 < (2 : Int32) then (
  some ((-3 : Int32), I)) else (
  (if a1 ≤ (6 : Int32) then (
   zk_bd2 (f_X3_ringsOf I (I 16 0) a1) (fun (r4 : Int32) (I5 : zk_I) =>
    some (r4, I5))) else (
   some ((-3 : Int32), I)))))
set_option maxRecDepth 20000 in
theorem k_X7_clubs {X : zk_X} {I : zk_I} {J : zk_J} {a1 : Int32} {r : Int32} {IR : zk_I} (h : f_X7_clubs I a1 = some (r, IR)) : zC X 15 m_X7_clubs 0 (zk_ent [.ref 0, .int a1] 2) [] (z_Z, I, J) 0 0 (some (.int r)) (z_Z, IR, J) := by
  unfold f_X7_clubs at h
  refine c_ent (L2 := [some (.ref 0), some (.int a1)]) rfl ?_
  refine c_iload_n rfl rfl ?_
  refine c_iconst rfl vi_2 ?_
  refine c_icmp_lt rfl (fun q1 => ?_) (fun q1 => ?_)
  · rw [if_pos q1] at h
    refine c_bipush rfl vb_m3 ?_
    obtain ⟨rfl, rfl⟩ := zk_r2 h
    exact c_ireturn rfl rfl rfl
  · rw [if_neg q1] at h
    refine c_iload_n rfl rfl ?_
    refine c_bipush rfl vb_6 ?_
    refine c_icmp_le rfl (fun q2 => ?_) (fun q2 => ?_)
    · rw [if_pos q2] at h
      refine c_aload_n rfl rfl ?_
      refine c_getR rfl fk_X7_55 rfl (Nat.le_of_ble_eq_true rfl) rfl ?_
      refine c_aload_n rfl rfl ?_
      refine c_getR rfl fk_X7_35 rfl (Nat.le_of_ble_eq_true rfl) rfl ?_
      refine c_getI rfl fk_X7_141 rfl (Nat.le_of_ble_eq_true rfl) ?_
      refine c_iload_n rfl rfl ?_
      obtain ⟨r4, I5, h3, h⟩ := zk_bd2_e h
      refine e_callV (As := [.int (I 16 0), .int a1]) (st := []) rfl lk_X7_210 rfl (Nat.le_of_ble_eq_true rfl) rfl rfl rfl (Nat.le_of_ble_eq_true rfl) rfl (k_X3_ringsOf h3) ?_
      obtain ⟨rfl, rfl⟩ := zk_r2 h
      exact c_ireturn rfl rfl rfl
    · rw [if_neg q2] at h
      refine c_bipush rfl vb_m3 ?_
      obtain ⟨rfl, rfl⟩ := zk_r2 h
      exact c_ireturn rfl rfl rfl
def l_X7_meet_64 (I : zk_I) (K : Option (Int32 × zk_I)) : Nat → Int32 → Option (Int32 × zk_I)
  | 0, _ => none
  | n + 1, y3 => (if (8 : Int32) ≤ y3 then (
    K) else (
    zk_ck (zk_in y3 8) (
     zk_ck (zk_in y3 8) (
      (if ((I 70 y3.toNatClampNeg) &&& (I 71 y3.toNatClampNeg)) = 0 then (
       l_X7_meet_64 I K n (y3 + (1 : Int32))) else (
       some (y3, I)))))))
def f_X7_meet (I : zk_I) (a1 : Int32) (a2 : Int32) : Option (Int32 × zk_I) := zk_lt (f_X6_hasBook I 3 a1) (fun (r2 : Int32) =>
  (if r2 = 0 then (
   some ((-2 : Int32), I)) else (
   zk_lt (f_X6_hasBook I 3 a2) (fun (r5 : Int32) =>
    (if r5 = 0 then (
     some ((-2 : Int32), I)) else (
     (if a1 = a2 then (
      some ((-2 : Int32), I)) else (
      zk_bd1 (f_X3_findPlaces I a1 70) (fun (I9 : zk_I) =>
       zk_bd1 (f_X3_findPlaces I9 a2 71) (fun (I11 : zk_I) =>
        l_X7_meet_64 I11 (some ((-1 : Int32), I11)) 3000 (0 : Int32)))))))))))
set_option maxRecDepth 20000 in
theorem kl_X7_meet_64 {X : zk_X} {I : zk_I} {J : zk_J} {K : Option (Int32 × zk_I)} {r : Int32} {IR : zk_I} (jK : K  = some (r, IR) → zC X 7 m_X7_meet 94 [none, none, none, none] [] (z_Z, I, J) 0 0 (some (.int r)) (z_Z, IR, J)) : ∀ (n : Nat) (y3 : Int32), l_X7_meet_64 I K n y3 = some (r, IR) → zC X 7 m_X7_meet 64 [some (.ref 0), none, none, some (.int y3)] [] (z_Z, I, J) 0 0 (some (.int r)) (z_Z, IR, J) := by
  intro n
  induction n with
  | zero =>
    intro y3 h
    cases h
  | succ n ih =>
    intro y3 h
    rw [l_X7_meet_64] at h
    refine c_iload_n rfl rfl ?_
    refine c_bipush rfl vb_8 ?_
    refine c_icmp_ge rfl (fun q12 => ?_) (fun q12 => ?_)
    · rw [if_pos q12] at h
      refine c_drop [false, true, true, false] (L2 := [none, none, none, none]) rfl ?_
      exact jK h
    · rw [if_neg q12] at h
      refine c_aload_n rfl rfl ?_
      refine c_getR rfl fk_X7_59 rfl (Nat.le_of_ble_eq_true rfl) rfl ?_
      refine c_iload_n rfl rfl ?_
      obtain ⟨q13, h⟩ := zk_ck_e h
      refine e_iald rfl rfl (Nat.le_of_ble_eq_true rfl) q13 rfl ?_
      refine c_aload_n rfl rfl ?_
      refine c_getR rfl fk_X7_63 rfl (Nat.le_of_ble_eq_true rfl) rfl ?_
      refine c_iload_n rfl rfl ?_
      obtain ⟨q14, h⟩ := zk_ck_e h
      refine e_iald rfl rfl (Nat.le_of_ble_eq_true rfl) q14 rfl ?_
      refine c_iand rfl ?_
      refine c_if_eq rfl (fun q15 => ?_) (fun q15 => ?_)
      · rw [if_pos q15] at h
        refine e_iinc (L2 := [some (.ref 0), none, none, some (.int (y3 + (1 : Int32)))]) rfl rfl vi_1 rfl rfl rfl ?_
        refine c_goto rfl ?_
        exact ih _ h
      · rw [if_neg q15] at h
        refine c_iload_n rfl rfl ?_
        obtain ⟨rfl, rfl⟩ := zk_r2 h
        exact c_ireturn rfl rfl rfl
set_option maxRecDepth 20000 in
theorem k_X7_meet {X : zk_X} {I : zk_I} {J : zk_J} {a1 : Int32} {a2 : Int32} {r : Int32} {IR : zk_I} (h : f_X7_meet I a1 a2 = some (r, IR)) : zC X 7 m_X7_meet 0 (zk_ent [.ref 0, .int a1, .int a2] 4) [] (z_Z, I, J) 0 0 (some (.int r)) (z_Z, IR, J) := by
  unfold f_X7_meet at h
  refine c_ent (L2 := [some (.ref 0), some (.int a1), some (.int a2), none]) rfl ?_
  refine c_aload_n rfl rfl ?_
  refine c_getR rfl fk_X7_19 rfl (Nat.le_of_ble_eq_true rfl) rfl ?_
  refine c_iload_n rfl rfl ?_
  obtain ⟨r2, h1, h⟩ := zk_lt_g h
  refine e_callV (As := [.int a1]) (st := []) rfl lk_X7_132 rfl (Nat.le_of_ble_eq_true rfl) rfl rfl rfl (Nat.le_of_ble_eq_true rfl) rfl (k_X6_hasBook (rfl : z_isT 3 = true) h1.symm) ?_
  refine c_if_eq rfl (fun q3 => ?_) (fun q3 => ?_)
  · rw [if_pos q3] at h
    refine c_bipush rfl vb_m2 ?_
    obtain ⟨rfl, rfl⟩ := zk_r2 h
    exact c_ireturn rfl rfl rfl
  · rw [if_neg q3] at h
    refine c_aload_n rfl rfl ?_
    refine c_getR rfl fk_X7_19 rfl (Nat.le_of_ble_eq_true rfl) rfl ?_
    refine c_iload_n rfl rfl ?_
    obtain ⟨r5, h4, h⟩ := zk_lt_g h
    refine e_callV (As := [.int a2]) (st := []) rfl lk_X7_132 rfl (Nat.le_of_ble_eq_true rfl) rfl rfl rfl (Nat.le_of_ble_eq_true rfl) rfl (k_X6_hasBook (rfl : z_isT 3 = true) h4.symm) ?_
    refine c_if_eq rfl (fun q6 => ?_) (fun q6 => ?_)
    · rw [if_pos q6] at h
      refine c_bipush rfl vb_m2 ?_
      obtain ⟨rfl, rfl⟩ := zk_r2 h
      exact c_ireturn rfl rfl rfl
    · rw [if_neg q6] at h
      refine c_iload_n rfl rfl ?_
      refine c_iload_n rfl rfl ?_
      refine c_icmp_ne rfl (fun q7 => ?_) (fun q7 => ?_)
      · rw [if_neg q7] at h
        refine c_aload_n rfl rfl ?_
        refine c_getR rfl fk_X7_55 rfl (Nat.le_of_ble_eq_true rfl) rfl ?_
        refine c_aload_n rfl rfl ?_
        refine c_getR rfl fk_X7_35 rfl (Nat.le_of_ble_eq_true rfl) rfl ?_
        refine c_iload_n rfl rfl ?_
        refine c_aload_n rfl rfl ?_
        refine c_getR rfl fk_X7_59 rfl (Nat.le_of_ble_eq_true rfl) rfl ?_
        obtain ⟨I9, h8, h⟩ := zk_bd1_e h
        refine e_callV (As := [.ref 16, .int a1, .ref 70]) (st := []) rfl lk_X7_213 rfl (Nat.le_of_ble_eq_true rfl) rfl rfl rfl (Nat.le_of_ble_eq_true rfl) rfl (k_X3_findPlaces (rfl : z_isP 70 = true) h8) ?_
        refine c_aload_n rfl rfl ?_
        refine c_getR rfl fk_X7_55 rfl (Nat.le_of_ble_eq_true rfl) rfl ?_
        refine c_aload_n rfl rfl ?_
        refine c_getR rfl fk_X7_35 rfl (Nat.le_of_ble_eq_true rfl) rfl ?_
        refine c_iload_n rfl rfl ?_
        refine c_aload_n rfl rfl ?_
        refine c_getR rfl fk_X7_63 rfl (Nat.le_of_ble_eq_true rfl) rfl ?_
        obtain ⟨I11, h10, h⟩ := zk_bd1_e h
        refine e_callV (As := [.ref 16, .int a2, .ref 71]) (st := []) rfl lk_X7_213 rfl (Nat.le_of_ble_eq_true rfl) rfl rfl rfl (Nat.le_of_ble_eq_true rfl) rfl (k_X3_findPlaces (rfl : z_isP 71 = true) h10) ?_
        refine c_iconst rfl vi_0 ?_
        refine e_istore_n (L2 := [some (.ref 0), some (.int a1), some (.int a2), some (.int (0 : Int32))]) rfl rfl rfl rfl ?_
        refine c_drop [true, false, false, true] (L2 := [some (.ref 0), none, none, some (.int (0 : Int32))]) rfl ?_
        refine kl_X7_meet_64 (fun h => ?_) _ _ h
        refine c_iconst rfl vi_m1 ?_
        obtain ⟨rfl, rfl⟩ := zk_r2 h
        exact c_ireturn rfl rfl rfl
      · rw [if_pos q7] at h
        refine c_bipush rfl vb_m2 ?_
        obtain ⟨rfl, rfl⟩ := zk_r2 h
        exact c_ireturn rfl rfl rfl
def f_X7_slip (I : zk_I) (a1 : Int32) (a2 : Int32) : Option (Int32 × zk_I) := zk_lt (f_X6_hasReader I 3 a1) (fun (r2 : Int32) =>
  (if r2 = 0 then (
   some ((-2 : Int32), I)) else (
   zk_lt (f_X6_hasReader I 3 a2) (fun (r5 : Int32) =>
    (if r5 = 0 then (
     some ((-2 : Int32), I)) else (
     (if a1 = a2 then (
      some ((-2 : Int32), I)) else (
      zk_bd2 (f_X4_add I a1 a2) (fun (r9 : Int32) (I10 : zk_I) =>
       (if r9 = 0 then (
        some ((-5 : Int32), I10)) else (
        some ((I10 72 0), I10))))))))))))
set_option maxRecDepth 20000 in
theorem k_X7_slip {X : zk_X} {I : zk_I} {J : zk_J} {a1 : Int32} {a2 : Int32} {r : Int32} {IR : zk_I} (h : f_X7_slip I a1 a2 = some (r, IR)) : zC X 2 m_X7_slip 0 (zk_ent [.ref 0, .int a1, .int a2] 3) [] (z_Z, I, J) 0 0 (some (.int r)) (z_Z, IR, J) := by
  unfold f_X7_slip at h
  refine c_ent (L2 := [some (.ref 0), some (.int a1), some (.int a2)]) rfl ?_
  refine c_aload_n rfl rfl ?_
  refine c_getR rfl fk_X7_19 rfl (Nat.le_of_ble_eq_true rfl) rfl ?_
  refine c_iload_n rfl rfl ?_
  obtain ⟨r2, h1, h⟩ := zk_lt_g h
  refine e_callV (As := [.int a1]) (st := []) rfl lk_X7_109 rfl (Nat.le_of_ble_eq_true rfl) rfl rfl rfl (Nat.le_of_ble_eq_true rfl) rfl (k_X6_hasReader (rfl : z_isT 3 = true) h1.symm) ?_
  refine c_if_eq rfl (fun q3 => ?_) (fun q3 => ?_)
  · rw [if_pos q3] at h
    refine c_bipush rfl vb_m2 ?_
    obtain ⟨rfl, rfl⟩ := zk_r2 h
    exact c_ireturn rfl rfl rfl
  · rw [if_neg q3] at h
    refine c_aload_n rfl rfl ?_
    refine c_getR rfl fk_X7_19 rfl (Nat.le_of_ble_eq_true rfl) rfl ?_
    refine c_iload_n rfl rfl ?_
    obtain ⟨r5, h4, h⟩ := zk_lt_g h
    refine e_callV (As := [.int a2]) (st := []) rfl lk_X7_109 rfl (Nat.le_of_ble_eq_true rfl) rfl rfl rfl (Nat.le_of_ble_eq_true rfl) rfl (k_X6_hasReader (rfl : z_isT 3 = true) h4.symm) ?_
    refine c_if_eq rfl (fun q6 => ?_) (fun q6 => ?_)
    · rw [if_pos q6] at h
      refine c_bipush rfl vb_m2 ?_
      obtain ⟨rfl, rfl⟩ := zk_r2 h
      exact c_ireturn rfl rfl rfl
    · rw [if_neg q6] at h
      refine c_iload_n rfl rfl ?_
      refine c_iload_n rfl rfl ?_
      refine c_icmp_ne rfl (fun q7 => ?_) (fun q7 => ?_)
      · rw [if_neg q7] at h
        refine c_aload_n rfl rfl ?_
        refine c_getR rfl fk_X7_69 rfl (Nat.le_of_ble_eq_true rfl) rfl ?_
        refine c_iload_n rfl rfl ?_
        refine c_iload_n rfl rfl ?_
        obtain ⟨r9, I10, h8, h⟩ := zk_bd2_e h
        refine e_callV (As := [.int a1, .int a2]) (st := []) rfl lk_X7_217 rfl (Nat.le_of_ble_eq_true rfl) rfl rfl rfl (Nat.le_of_ble_eq_true rfl) rfl (k_X4_add h8) ?_
        refine c_if_eq rfl (fun q11 => ?_) (fun q11 => ?_)
        · rw [if_pos q11] at h
          refine c_bipush rfl vb_m5 ?_
          obtain ⟨rfl, rfl⟩ := zk_r2 h
          exact c_ireturn rfl rfl rfl
        · rw [if_neg q11] at h
          refine c_aload_n rfl rfl ?_
          refine c_getR rfl fk_X7_69 rfl (Nat.le_of_ble_eq_true rfl) rfl ?_
          refine c_getI rfl fk_X7_103 rfl (Nat.le_of_ble_eq_true rfl) ?_
          refine c_goto rfl ?_
          obtain ⟨rfl, rfl⟩ := zk_r2 h
          exact c_ireturn rfl rfl rfl
      · rw [if_pos q7] at h
        refine c_bipush rfl vb_m2 ?_
        obtain ⟨rfl, rfl⟩ := zk_r2 h
        exact c_ireturn rfl rfl rfl
def f_X7_burn (I : zk_I) : Option (Int32 × zk_I) := zk_lt (zk_sc I 72 (upd (I 72) 0 (0 : Int32))) (fun (I1 : zk_I) =>
  some ((I 72 0), I1))
set_option maxRecDepth 20000 in
theorem k_X7_burn {X : zk_X} {I : zk_I} {J : zk_J} {r : Int32} {IR : zk_I} (h : f_X7_burn I = some (r, IR)) : zC X 1 m_X7_burn 0 (zk_ent [.ref 0] 2) [] (z_Z, I, J) 0 0 (some (.int r)) (z_Z, IR, J) := by
  unfold f_X7_burn at h
  refine c_ent (L2 := [some (.ref 0), none]) rfl ?_
  refine c_aload_n rfl rfl ?_
  refine c_getR rfl fk_X7_69 rfl (Nat.le_of_ble_eq_true rfl) rfl ?_
  refine c_getI rfl fk_X7_103 rfl (Nat.le_of_ble_eq_true rfl) ?_
  refine e_istore_n (L2 := [some (.ref 0), some (.int (I 72 0))]) rfl rfl rfl rfl ?_
  refine c_aload_n rfl rfl ?_
  refine c_getR rfl fk_X7_69 rfl (Nat.le_of_ble_eq_true rfl) rfl ?_
  refine c_iconst rfl vi_0 ?_
  refine c_putI rfl fk_X7_103 rfl rfl (Nat.le_of_ble_eq_true rfl) ?_
  obtain ⟨I1, hI1, h⟩ := zk_lt_g h
  refine c_memI hI1 ?_
  refine c_iload_n rfl rfl ?_
  obtain ⟨rfl, rfl⟩ := zk_r2 h
  exact c_ireturn rfl rfl rfl
def f_X7_forged (I : zk_I) (a1 : Int32) : Option (Int32 × zk_I) := zk_jp0 (zk_bd2 (f_X4_forgedSet I) (fun (r4 : Int32) (I5 : zk_I) =>
   (if a1 = 0 then (
    zk_lt (f_J6_bitCount_0f7a4 r4) (fun (r8 : Int32) =>
     some (r8, I5))) else (
    some (r4, I5))))) (fun (K2 : Option (Int32 × zk_I)) =>
  (if a1 = 0 then (
   K2) else (
   (if a1 = (1 : Int32) then (
    K2) else (
    some ((-3 : Int32), I))))))
set_option maxRecDepth 20000 in
theorem k_X7_forged {X : zk_X} {I : zk_I} {J : zk_J} {a1 : Int32} {r : Int32} {IR : zk_I} (h : f_X7_forged I a1 = some (r, IR)) : zC X 7 m_X7_forged 0 (zk_ent [.ref 0, .int a1] 3) [] (z_Z, I, J) 0 0 (some (.int r)) (z_Z, IR, J) := by
  unfold f_X7_forged at h
  refine c_ent (L2 := [some (.ref 0), some (.int a1), none]) rfl ?_
  refine c_iload_n rfl rfl ?_
  refine zk_jp0_e (Z := zC X 7 m_X7_forged 12 [some (.ref 0), some (.int a1), none] [] (z_Z, I, J) 0 0 (some (.int r)) (z_Z, IR, J)) h (fun h => ?_) (fun K2 jK2 h => ?_)
  · refine c_aload_n rfl rfl ?_
    refine c_getR rfl fk_X7_69 rfl (Nat.le_of_ble_eq_true rfl) rfl ?_
    refine c_aload_n rfl rfl ?_
    refine c_getR rfl fk_X7_19 rfl (Nat.le_of_ble_eq_true rfl) rfl ?_
    obtain ⟨r4, I5, h3, h⟩ := zk_bd2_e h
    refine e_callV (As := [.ref 3]) (st := []) rfl lk_X7_220 rfl (Nat.le_of_ble_eq_true rfl) rfl rfl rfl (Nat.le_of_ble_eq_true rfl) rfl (k_X4_forgedSet h3) ?_
    refine e_istore_n (L2 := [some (.ref 0), some (.int a1), some (.int r4)]) rfl rfl rfl rfl ?_
    refine c_iload_n rfl rfl ?_
    refine c_if_ne rfl (fun q6 => ?_) (fun q6 => ?_)
    · rw [if_neg q6] at h
      refine c_iload_n rfl rfl ?_
      obtain ⟨rfl, rfl⟩ := zk_r2 h
      exact c_ireturn rfl rfl rfl
    · rw [if_pos q6] at h
      refine c_iload_n rfl rfl ?_
      obtain ⟨r8, h7, h⟩ := zk_lt_g h
      refine e_callS (As := [.int r4]) (st := []) rfl lk_X7_172 rfl rfl rfl (Nat.le_of_ble_eq_true rfl) rfl (k_J6_bitCount_0f7a4 h7.symm) ?_
      refine c_goto rfl ?_
      obtain ⟨rfl, rfl⟩ := zk_r2 h
      exact c_ireturn rfl rfl rfl
  · refine c_if_eq rfl (fun q1 => ?_) (fun q1 => ?_)
    · rw [if_pos q1] at h
      exact jK2 h
    · rw [if_neg q1] at h
      refine c_iload_n rfl rfl ?_
      refine c_iconst rfl vi_1 ?_
      refine c_icmp_eq rfl (fun q9 => ?_) (fun q9 => ?_)
      · rw [if_pos q9] at h
        exact jK2 h
      · rw [if_neg q9] at h
        refine c_bipush rfl vb_m3 ?_
        obtain ⟨rfl, rfl⟩ := zk_r2 h
        exact c_ireturn rfl rfl rfl
def f_X7_holder (I : zk_I) : Option (Int32 × zk_I) := zk_bd2 (f_X4_forgedSet I) (fun (r2 : Int32) (I3 : zk_I) =>
  zk_bd1 (f_X4_leastLastNamed I3 r2) (fun (r5 : Int32) =>
   some (r5, I3)))
set_option maxRecDepth 20000 in
theorem k_X7_holder {X : zk_X} {I : zk_I} {J : zk_J} {r : Int32} {IR : zk_I} (h : f_X7_holder I = some (r, IR)) : zC X 7 m_X7_holder 0 (zk_ent [.ref 0] 1) [] (z_Z, I, J) 0 0 (some (.int r)) (z_Z, IR, J) := by
  unfold f_X7_holder at h
  refine c_ent (L2 := [some (.ref 0)]) rfl ?_
  refine c_aload_n rfl rfl ?_
  refine c_getR rfl fk_X7_69 rfl (Nat.le_of_ble_eq_true rfl) rfl ?_
  refine c_aload_n rfl rfl ?_
  refine c_getR rfl fk_X7_69 rfl (Nat.le_of_ble_eq_true rfl) rfl ?_
  refine c_aload_n rfl rfl ?_
  refine c_getR rfl fk_X7_19 rfl (Nat.le_of_ble_eq_true rfl) rfl ?_
  obtain ⟨r2, I3, h1, h⟩ := zk_bd2_e h
  refine e_callV (As := [.ref 3]) (st := [.ref 72]) rfl lk_X7_220 rfl (Nat.le_of_ble_eq_true rfl) rfl rfl rfl (Nat.le_of_ble_eq_true rfl) rfl (k_X4_forgedSet h1) ?_
  obtain ⟨r5, h4, h⟩ := zk_bd1_e h
  refine e_callV (As := [.int r2]) (st := []) rfl lk_X7_223 rfl (Nat.le_of_ble_eq_true rfl) rfl rfl rfl (Nat.le_of_ble_eq_true rfl) rfl (k_X4_leastLastNamed h4) ?_
  obtain ⟨rfl, rfl⟩ := zk_r2 h
  exact c_ireturn rfl rfl rfl
def l_X7_namings_4 (I : zk_I) (K : Int32 → Option (Int32)) : Nat → Int32 → Int32 → Option (Int32)
  | 0, _, _ => none
  | n + 1, y1, y2 => (if (I 3 1) ≤ y2 then (
    K y1) else (
    zk_ck (zk_in y2 4) (
     zk_lt (f_J6_bitCount_0f7a4 (I 18 y2.toNatClampNeg)) (fun (r4 : Int32) =>
      zk_lt (y1 + (r4 - (1 : Int32))) (fun (x5 : Int32) =>
       l_X7_namings_4 I K n x5 (y2 + (1 : Int32)))))))
def f_X7_namings (I : zk_I) : Option (Int32) := l_X7_namings_4 I (fun (z6 : Int32) =>
  some z6) 3000 (0 : Int32) (0 : Int32)
set_option maxRecDepth 20000 in
theorem kl_X7_namings_4 {X : zk_X} {I : zk_I} {J : zk_J} {K : Int32 → Option (Int32)} {r : Int32} (jK : ∀ (z1 : Int32), K z1 = some r → zC X 2 m_X7_namings 38 [none, some (.int z1), none] [] (z_Z, I, J) 0 0 (some (.int r)) (z_Z, I, J)) : ∀ (n : Nat) (y1 : Int32) (y2 : Int32), l_X7_namings_4 I K n y1 y2 = some r → zC X 2 m_X7_namings 4 [some (.ref 0), some (.int y1), some (.int y2)] [] (z_Z, I, J) 0 0 (some (.int r)) (z_Z, I, J) := by
  intro n
  induction n with
  | zero =>
    intro y1 y2 h
    cases h
  | succ n ih =>
    intro y1 y2 h
    rw [l_X7_namings_4] at h
    refine c_iload_n rfl rfl ?_
    refine c_aload_n rfl rfl ?_
    refine c_getR rfl fk_X7_19 rfl (Nat.le_of_ble_eq_true rfl) rfl ?_
    refine c_getI rfl fk_X7_229 rfl (Nat.le_of_ble_eq_true rfl) ?_
    refine c_icmp_ge rfl (fun q1 => ?_) (fun q1 => ?_)
    · rw [if_pos q1] at h
      refine c_drop [false, true, false] (L2 := [none, some (.int y1), none]) rfl ?_
      exact jK _ h
    · rw [if_neg q1] at h
      refine c_iload_n rfl rfl ?_
      refine c_aload_n rfl rfl ?_
      refine c_getR rfl fk_X7_35 rfl (Nat.le_of_ble_eq_true rfl) rfl ?_
      refine c_getR rfl fk_X7_138 rfl (Nat.le_of_ble_eq_true rfl) rfl ?_
      refine c_iload_n rfl rfl ?_
      obtain ⟨q2, h⟩ := zk_ck_e h
      refine e_iald rfl rfl (Nat.le_of_ble_eq_true rfl) q2 rfl ?_
      obtain ⟨r4, h3, h⟩ := zk_lt_g h
      refine e_callS (As := [.int (I 18 y2.toNatClampNeg)]) (st := [.int y1]) rfl lk_X7_172 rfl rfl rfl (Nat.le_of_ble_eq_true rfl) rfl (k_J6_bitCount_0f7a4 h3.symm) ?_
      refine c_iconst rfl vi_1 ?_
      refine c_isub rfl ?_
      refine c_iadd rfl ?_
      obtain ⟨x5, hx5, h⟩ := zk_lt_g h
      refine c_topi hx5 ?_
      refine e_istore_n (L2 := [some (.ref 0), some (.int x5), some (.int y2)]) rfl rfl rfl rfl ?_
      refine e_iinc (L2 := [some (.ref 0), some (.int x5), some (.int (y2 + (1 : Int32)))]) rfl rfl vi_1 rfl rfl rfl ?_
      refine c_goto rfl ?_
      exact ih _ _ h
set_option maxRecDepth 20000 in
theorem k_X7_namings {X : zk_X} {I : zk_I} {J : zk_J} {r : Int32} (h : f_X7_namings I = some r) : zC X 2 m_X7_namings 0 (zk_ent [.ref 0] 3) [] (z_Z, I, J) 0 0 (some (.int r)) (z_Z, I, J) := by
  unfold f_X7_namings at h
  refine c_ent (L2 := [some (.ref 0), none, none]) rfl ?_
  refine c_iconst rfl vi_0 ?_
  refine e_istore_n (L2 := [some (.ref 0), some (.int (0 : Int32)), none]) rfl rfl rfl rfl ?_
  refine c_iconst rfl vi_0 ?_
  refine e_istore_n (L2 := [some (.ref 0), some (.int (0 : Int32)), some (.int (0 : Int32))]) rfl rfl rfl rfl ?_
  refine kl_X7_namings_4 (fun z6 h => ?_) _ _ _ h
  refine c_iload_n rfl rfl ?_
  have h := zk_r1 h
  subst h
  exact c_ireturn rfl rfl rfl
def l_X7_walledBooks_4 (I : zk_I) (K : Int32 → Option (Int32)) : Nat → Int32 → Int32 → Option (Int32)
  | 0, _, _ => none
  | n + 1, y1, y2 => (if (I 3 1) ≤ y2 then (
    K y1) else (
    zk_bd1 (f_X7_namableNow I y2) (fun (r3 : Int32) =>
     zk_jp1 (fun (v5 : Int32) =>
      l_X7_walledBooks_4 I K n v5 (y2 + (1 : Int32))) (fun (K6 : Int32 → Option (Int32)) =>
      (if r3 = 0 then (
       zk_lt (y1 ||| ((1 : Int32) <<< (y2 &&& 31))) (fun (x7 : Int32) =>
        K6 x7)) else (
       K6 y1))))))
def f_X7_walledBooks (I : zk_I) : Option (Int32) := l_X7_walledBooks_4 I (fun (z8 : Int32) =>
  some z8) 3000 (0 : Int32) (0 : Int32)
set_option maxRecDepth 20000 in
theorem kl_X7_walledBooks_4 {X : zk_X} {I : zk_I} {J : zk_J} {K : Int32 → Option (Int32)} {r : Int32} (jK : ∀ (z1 : Int32), K z1 = some r → zC X 6 m_X7_walledBooks 35 [none, some (.int z1), none] [] (z_Z, I, J) 0 0 (some (.int r)) (z_Z, I, J)) : ∀ (n : Nat) (y1 : Int32) (y2 : Int32), l_X7_walledBooks_4 I K n y1 y2 = some r → zC X 6 m_X7_walledBooks 4 [some (.ref 0), some (.int y1), some (.int y2)] [] (z_Z, I, J) 0 0 (some (.int r)) (z_Z, I, J) := by
  intro n
  induction n with
  | zero =>
    intro y1 y2 h
    cases h
  | succ n ih =>
    intro y1 y2 h
    rw [l_X7_walledBooks_4] at h
    refine c_iload_n rfl rfl ?_
    refine c_aload_n rfl rfl ?_
    refine c_getR rfl fk_X7_19 rfl (Nat.le_of_ble_eq_true rfl) rfl ?_
    refine c_getI rfl fk_X7_229 rfl (Nat.le_of_ble_eq_true rfl) ?_
    refine c_icmp_ge rfl (fun q1 => ?_) (fun q1 => ?_)
    · rw [if_pos q1] at h
      refine c_drop [false, true, false] (L2 := [none, some (.int y1), none]) rfl ?_
      exact jK _ h
    · rw [if_neg q1] at h
      refine c_aload_n rfl rfl ?_
      refine c_iload_n rfl rfl ?_
      obtain ⟨r3, h2, h⟩ := zk_bd1_e h
      refine e_callV (As := [.int y2]) (st := []) rfl lk_X7_147 rfl (Nat.le_of_ble_eq_true rfl) rfl rfl rfl (Nat.le_of_ble_eq_true rfl) rfl (k_X7_namableNow h2) ?_
      refine zk_jp1_e (Z := fun (v5 : Int32) => zC X 6 m_X7_walledBooks 29 [some (.ref 0), some (.int v5), some (.int y2)] [] (z_Z, I, J) 0 0 (some (.int r)) (z_Z, I, J)) h (fun v5 h => ?_) (fun K6 jK6 h => ?_)
      · refine e_iinc (L2 := [some (.ref 0), some (.int v5), some (.int (y2 + (1 : Int32)))]) rfl rfl vi_1 rfl rfl rfl ?_
        refine c_goto rfl ?_
        exact ih _ _ h
      · refine c_if_ne rfl (fun q4 => ?_) (fun q4 => ?_)
        · rw [if_neg q4] at h
          exact jK6 _ h
        · rw [if_pos q4] at h
          refine c_iload_n rfl rfl ?_
          refine c_iconst rfl vi_1 ?_
          refine c_iload_n rfl rfl ?_
          refine c_ishl rfl ?_
          refine c_ior rfl ?_
          obtain ⟨x7, hx7, h⟩ := zk_lt_g h
          refine c_topi hx7 ?_
          refine e_istore_n (L2 := [some (.ref 0), some (.int x7), some (.int y2)]) rfl rfl rfl rfl ?_
          exact jK6 _ h
set_option maxRecDepth 20000 in
theorem k_X7_walledBooks {X : zk_X} {I : zk_I} {J : zk_J} {r : Int32} (h : f_X7_walledBooks I = some r) : zC X 6 m_X7_walledBooks 0 (zk_ent [.ref 0] 3) [] (z_Z, I, J) 0 0 (some (.int r)) (z_Z, I, J) := by
  unfold f_X7_walledBooks at h
  refine c_ent (L2 := [some (.ref 0), none, none]) rfl ?_
  refine c_iconst rfl vi_0 ?_
  refine e_istore_n (L2 := [some (.ref 0), some (.int (0 : Int32)), none]) rfl rfl rfl rfl ?_
  refine c_iconst rfl vi_0 ?_
  refine e_istore_n (L2 := [some (.ref 0), some (.int (0 : Int32)), some (.int (0 : Int32))]) rfl rfl rfl rfl ?_
  refine kl_X7_walledBooks_4 (fun z8 h => ?_) _ _ _ h
  refine c_iload_n rfl rfl ?_
  have h := zk_r1 h
  subst h
  exact c_ireturn rfl rfl rfl
def f_X7_count (I : zk_I) (a1 : Int32) : Option (Int32) := (if a1 = (0 : Int32) then (
  some (I 3 0)) else if a1 = (1 : Int32) then (
  some (I 3 1)) else if a1 = (2 : Int32) then (
  some (I 16 0)) else if a1 = (3 : Int32) then (
  zk_bd1 (f_X6_feudPairs I 3) (fun (r3 : Int32) =>
   some r3)) else if a1 = (4 : Int32) then (
  zk_bd1 (f_X7_walledBooks I) (fun (r5 : Int32) =>
   some r5)) else if a1 = (5 : Int32) then (
  some (I 72 0)) else if a1 = (6 : Int32) then (
  zk_bd1 (f_X7_namings I) (fun (r7 : Int32) =>
   some r7)) else if a1 = (7 : Int32) then (
  some (I 20 0)) else if a1 = (8 : Int32) then (
  some (I 1 1)) else (
  some (-3 : Int32)))
set_option maxRecDepth 20000 in
theorem k_X7_count {X : zk_X} {I : zk_I} {J : zk_J} {a1 : Int32} {r : Int32} (h : f_X7_count I a1 = some r) : zC X 7 m_X7_count 0 (zk_ent [.ref 0, .int a1] 2) [] (z_Z, I, J) 0 0 (some (.int r)) (z_Z, I, J) := by
  unfold f_X7_count at h
  refine c_ent (L2 := [some (.ref 0), some (.int a1)]) rfl ?_
  refine c_iload_n rfl rfl ?_
  by_cases q1_0 : a1 = (0 : Int32)
  · rw [if_pos q1_0] at h
    refine c_topi q1_0.symm ?_
    refine c_swIn (off := 51) (tgt := 52) rfl (by decide) (by decide) (by decide +kernel) (by decide) ?_
    refine c_aload_n rfl rfl ?_
    refine c_getR rfl fk_X7_19 rfl (Nat.le_of_ble_eq_true rfl) rfl ?_
    refine c_getI rfl fk_X7_226 rfl (Nat.le_of_ble_eq_true rfl) ?_
    have h := zk_r1 h
    subst h
    exact c_ireturn rfl rfl rfl
  · rw [if_neg q1_0] at h
    by_cases q1_1 : a1 = (1 : Int32)
    · rw [if_pos q1_1] at h
      refine c_topi q1_1.symm ?_
      refine c_swIn (off := 59) (tgt := 60) rfl (by decide) (by decide) (by decide +kernel) (by decide) ?_
      refine c_aload_n rfl rfl ?_
      refine c_getR rfl fk_X7_19 rfl (Nat.le_of_ble_eq_true rfl) rfl ?_
      refine c_getI rfl fk_X7_229 rfl (Nat.le_of_ble_eq_true rfl) ?_
      have h := zk_r1 h
      subst h
      exact c_ireturn rfl rfl rfl
    · rw [if_neg q1_1] at h
      by_cases q1_2 : a1 = (2 : Int32)
      · rw [if_pos q1_2] at h
        refine c_topi q1_2.symm ?_
        refine c_swIn (off := 67) (tgt := 68) rfl (by decide) (by decide) (by decide +kernel) (by decide) ?_
        refine c_aload_n rfl rfl ?_
        refine c_getR rfl fk_X7_35 rfl (Nat.le_of_ble_eq_true rfl) rfl ?_
        refine c_getI rfl fk_X7_141 rfl (Nat.le_of_ble_eq_true rfl) ?_
        have h := zk_r1 h
        subst h
        exact c_ireturn rfl rfl rfl
      · rw [if_neg q1_2] at h
        by_cases q1_3 : a1 = (3 : Int32)
        · rw [if_pos q1_3] at h
          refine c_topi q1_3.symm ?_
          refine c_swIn (off := 75) (tgt := 76) rfl (by decide) (by decide) (by decide +kernel) (by decide) ?_
          refine c_aload_n rfl rfl ?_
          refine c_getR rfl fk_X7_19 rfl (Nat.le_of_ble_eq_true rfl) rfl ?_
          obtain ⟨r3, h2, h⟩ := zk_bd1_e h
          refine e_callV (As := []) (st := []) rfl lk_X7_232 rfl (Nat.le_of_ble_eq_true rfl) rfl rfl rfl (Nat.le_of_ble_eq_true rfl) rfl (k_X6_feudPairs (rfl : z_isT 3 = true) h2) ?_
          have h := zk_r1 h
          subst h
          exact c_ireturn rfl rfl rfl
        · rw [if_neg q1_3] at h
          by_cases q1_4 : a1 = (4 : Int32)
          · rw [if_pos q1_4] at h
            refine c_topi q1_4.symm ?_
            refine c_swIn (off := 83) (tgt := 84) rfl (by decide) (by decide) (by decide +kernel) (by decide) ?_
            refine c_aload_n rfl rfl ?_
            obtain ⟨r5, h4, h⟩ := zk_bd1_e h
            refine e_callV (As := []) (st := []) rfl lk_X7_235 rfl (Nat.le_of_ble_eq_true rfl) rfl rfl rfl (Nat.le_of_ble_eq_true rfl) rfl (k_X7_walledBooks h4) ?_
            have h := zk_r1 h
            subst h
            exact c_ireturn rfl rfl rfl
          · rw [if_neg q1_4] at h
            by_cases q1_5 : a1 = (5 : Int32)
            · rw [if_pos q1_5] at h
              refine c_topi q1_5.symm ?_
              refine c_swIn (off := 88) (tgt := 89) rfl (by decide) (by decide) (by decide +kernel) (by decide) ?_
              refine c_aload_n rfl rfl ?_
              refine c_getR rfl fk_X7_69 rfl (Nat.le_of_ble_eq_true rfl) rfl ?_
              refine c_getI rfl fk_X7_103 rfl (Nat.le_of_ble_eq_true rfl) ?_
              have h := zk_r1 h
              subst h
              exact c_ireturn rfl rfl rfl
            · rw [if_neg q1_5] at h
              by_cases q1_6 : a1 = (6 : Int32)
              · rw [if_pos q1_6] at h
                refine c_topi q1_6.symm ?_
                refine c_swIn (off := 96) (tgt := 97) rfl (by decide) (by decide) (by decide +kernel) (by decide) ?_
                refine c_aload_n rfl rfl ?_
                obtain ⟨r7, h6, h⟩ := zk_bd1_e h
                refine e_callV (As := []) (st := []) rfl lk_X7_238 rfl (Nat.le_of_ble_eq_true rfl) rfl rfl rfl (Nat.le_of_ble_eq_true rfl) rfl (k_X7_namings h6) ?_
                have h := zk_r1 h
                subst h
                exact c_ireturn rfl rfl rfl
              · rw [if_neg q1_6] at h
                by_cases q1_7 : a1 = (7 : Int32)
                · rw [if_pos q1_7] at h
                  refine c_topi q1_7.symm ?_
                  refine c_swIn (off := 101) (tgt := 102) rfl (by decide) (by decide) (by decide +kernel) (by decide) ?_
                  refine c_aload_n rfl rfl ?_
                  refine c_getR rfl fk_X7_42 rfl (Nat.le_of_ble_eq_true rfl) rfl ?_
                  refine c_getI rfl fk_X7_177 rfl (Nat.le_of_ble_eq_true rfl) ?_
                  have h := zk_r1 h
                  subst h
                  exact c_ireturn rfl rfl rfl
                · rw [if_neg q1_7] at h
                  by_cases q1_8 : a1 = (8 : Int32)
                  · rw [if_pos q1_8] at h
                    refine c_topi q1_8.symm ?_
                    refine c_swIn (off := 109) (tgt := 110) rfl (by decide) (by decide) (by decide +kernel) (by decide) ?_
                    refine c_aload_n rfl rfl ?_
                    refine c_getR rfl fk_X7_10 rfl (Nat.le_of_ble_eq_true rfl) rfl ?_
                    refine c_getI rfl fk_X7_77 rfl (Nat.le_of_ble_eq_true rfl) ?_
                    have h := zk_r1 h
                    subst h
                    exact c_ireturn rfl rfl rfl
                  · rw [if_neg q1_8] at h
                    refine c_swOut (tgt := 118) rfl (by
                      have := lv_neT (a := 0) q1_0 (by decide)
                      have := lv_neT (a := 1) q1_1 (by decide)
                      have := lv_neT (a := 2) q1_2 (by decide)
                      have := lv_neT (a := 3) q1_3 (by decide)
                      have := lv_neT (a := 4) q1_4 (by decide)
                      have := lv_neT (a := 5) q1_5 (by decide)
                      have := lv_neT (a := 6) q1_6 (by decide)
                      have := lv_neT (a := 7) q1_7 (by decide)
                      have := lv_neT (a := 8) q1_8 (by decide)
                      omega) (by decide) ?_
                    refine c_bipush rfl vb_m3 ?_
                    have h := zk_r1 h
                    subst h
                    exact c_ireturn rfl rfl rfl
def f_X8_in (a1 : Int32) (a2 : Int32) (a3 : Int32) : Int32 := zk_jp0 ((0 : Int32)) (fun (K2 : Int32) =>
  (if a1 < a2 then (
   K2) else (
   (if a3 < a1 then (
    K2) else (
    (1 : Int32))))))
set_option maxRecDepth 20000 in
theorem k_X8_in {X : zk_X} {I : zk_I} {J : zk_J} {a1 : Int32} {a2 : Int32} {a3 : Int32} {r : Int32} (h : f_X8_in a1 a2 a3 = r) : zC X 1 m_X8_in 0 (zk_ent [.int a1, .int a2, .int a3] 3) [] (z_Z, I, J) 0 0 (some (.int r)) (z_Z, I, J) := by
  unfold f_X8_in at h
  refine c_ent (L2 := [some (.int a1), some (.int a2), some (.int a3)]) rfl ?_
  refine c_iload_n rfl rfl ?_
  refine c_iload_n rfl rfl ?_
  refine zk_jp0_e (Z := zC X 1 m_X8_in 14 [none, none, none] [] (z_Z, I, J) 0 0 (some (.int r)) (z_Z, I, J)) h (fun h => ?_) (fun K2 jK2 h => ?_)
  · refine c_iconst rfl vi_0 ?_
    subst h
    exact c_ireturn rfl rfl zk_nb0
  · refine c_icmp_lt rfl (fun q1 => ?_) (fun q1 => ?_)
    · rw [if_pos q1] at h
      refine c_drop [false, false, false] (L2 := [none, none, none]) rfl ?_
      exact jK2 h
    · rw [if_neg q1] at h
      refine c_iload_n rfl rfl ?_
      refine c_iload_n rfl rfl ?_
      refine c_icmp_gt rfl (fun q3 => ?_) (fun q3 => ?_)
      · rw [if_pos q3] at h
        refine c_drop [false, false, false] (L2 := [none, none, none]) rfl ?_
        exact jK2 h
      · rw [if_neg q3] at h
        refine c_iconst rfl vi_1 ?_
        refine c_goto rfl ?_
        subst h
        exact c_ireturn rfl rfl zk_nb1
def f_X8_isReader (I : zk_I) (a1 : Int32) : Option (Int32) := zk_lt (f_X8_in a1 (0 : Int32) ((I 78 0) - (1 : Int32))) (fun (r2 : Int32) =>
  zk_ck (zk_01 r2) (
   some r2))
set_option maxRecDepth 20000 in
theorem k_X8_isReader {X : zk_X} {I : zk_I} {J : zk_J} {a1 : Int32} {r : Int32} (h : f_X8_isReader I a1 = some r) : zC X 2 m_X8_isReader 0 (zk_ent [.ref 76, .int a1] 2) [] (z_Z, I, J) 0 0 (some (.int r)) (z_Z, I, J) := by
  unfold f_X8_isReader at h
  refine c_ent (L2 := [some (.ref 76), some (.int a1)]) rfl ?_
  refine c_iload_n rfl rfl ?_
  refine c_iconst rfl vi_0 ?_
  refine c_aload_n rfl rfl ?_
  refine c_getR rfl fk_X8_13 rfl (Nat.le_of_ble_eq_true rfl) rfl ?_
  refine c_iconst rfl vi_0 ?_
  refine e_iald rfl rfl (Nat.le_of_ble_eq_true rfl) (by decide) zt_0 ?_
  refine c_iconst rfl vi_1 ?_
  refine c_isub rfl ?_
  obtain ⟨r2, h1, h⟩ := zk_lt_g h
  refine e_callS (As := [.int a1, .int (0 : Int32), .int ((I 78 0) - (1 : Int32))]) (st := []) rfl lk_X8_63 rfl rfl rfl (Nat.le_of_ble_eq_true rfl) rfl (k_X8_in h1.symm) ?_
  obtain ⟨q3, h⟩ := zk_ck_e h
  have h := zk_r1 h
  subst h
  exact c_ireturn rfl rfl (zk_01_n q3)
def f_X8_isBook (I : zk_I) (a1 : Int32) : Option (Int32) := zk_lt (f_X8_in a1 (0 : Int32) ((I 78 1) - (1 : Int32))) (fun (r2 : Int32) =>
  zk_ck (zk_01 r2) (
   some r2))
set_option maxRecDepth 20000 in
theorem k_X8_isBook {X : zk_X} {I : zk_I} {J : zk_J} {a1 : Int32} {r : Int32} (h : f_X8_isBook I a1 = some r) : zC X 2 m_X8_isBook 0 (zk_ent [.ref 76, .int a1] 2) [] (z_Z, I, J) 0 0 (some (.int r)) (z_Z, I, J) := by
  unfold f_X8_isBook at h
  refine c_ent (L2 := [some (.ref 76), some (.int a1)]) rfl ?_
  refine c_iload_n rfl rfl ?_
  refine c_iconst rfl vi_0 ?_
  refine c_aload_n rfl rfl ?_
  refine c_getR rfl fk_X8_13 rfl (Nat.le_of_ble_eq_true rfl) rfl ?_
  refine c_iconst rfl vi_1 ?_
  refine e_iald rfl rfl (Nat.le_of_ble_eq_true rfl) (by decide) zt_1 ?_
  refine c_iconst rfl vi_1 ?_
  refine c_isub rfl ?_
  obtain ⟨r2, h1, h⟩ := zk_lt_g h
  refine e_callS (As := [.int a1, .int (0 : Int32), .int ((I 78 1) - (1 : Int32))]) (st := []) rfl lk_X8_63 rfl rfl rfl (Nat.le_of_ble_eq_true rfl) rfl (k_X8_in h1.symm) ?_
  obtain ⟨q3, h⟩ := zk_ck_e h
  have h := zk_r1 h
  subst h
  exact c_ireturn rfl rfl (zk_01_n q3)
def l_X8_ones_4 (p0 : Int32) (K : Int32 → Option (Int32)) : Nat → Int32 → Int32 → Option (Int32)
  | 0, _, _ => none
  | n + 1, y1, y2 => (if (8 : Int32) ≤ y2 then (
    K y1) else (
    zk_lt (y1 + ((p0 >>> (y2 &&& 31)) &&& (1 : Int32))) (fun (x2 : Int32) =>
     l_X8_ones_4 p0 K n x2 (y2 + (1 : Int32)))))
def f_X8_ones (a1 : Int32) : Option (Int32) := l_X8_ones_4 a1 (fun (z3 : Int32) =>
  some z3) 3000 (0 : Int32) (0 : Int32)
set_option maxRecDepth 20000 in
theorem kl_X8_ones_4 {X : zk_X} {p0 : Int32} {I : zk_I} {J : zk_J} {K : Int32 → Option (Int32)} {r : Int32} (jK : ∀ (z1 : Int32), K z1 = some r → zC X 1 m_X8_ones 24 [none, some (.int z1), none] [] (z_Z, I, J) 0 0 (some (.int r)) (z_Z, I, J)) : ∀ (n : Nat) (y1 : Int32) (y2 : Int32), l_X8_ones_4 p0 K n y1 y2 = some r → zC X 1 m_X8_ones 4 [some (.int p0), some (.int y1), some (.int y2)] [] (z_Z, I, J) 0 0 (some (.int r)) (z_Z, I, J) := by
  intro n
  induction n with
  | zero =>
    intro y1 y2 h
    cases h
  | succ n ih =>
    intro y1 y2 h
    rw [l_X8_ones_4] at h
    refine c_iload_n rfl rfl ?_
    refine c_bipush rfl vb_8 ?_
    refine c_icmp_ge rfl (fun q1 => ?_) (fun q1 => ?_)
    · rw [if_pos q1] at h
      refine c_drop [false, true, false] (L2 := [none, some (.int y1), none]) rfl ?_
      exact jK _ h
    · rw [if_neg q1] at h
      refine c_iload_n rfl rfl ?_
      refine c_iload_n rfl rfl ?_
      refine c_iload_n rfl rfl ?_
      refine c_ishr rfl ?_
      refine c_iconst rfl vi_1 ?_
      refine c_iand rfl ?_
      refine c_iadd rfl ?_
      obtain ⟨x2, hx2, h⟩ := zk_lt_g h
      refine c_topi hx2 ?_
      refine e_istore_n (L2 := [some (.int p0), some (.int x2), some (.int y2)]) rfl rfl rfl rfl ?_
      refine e_iinc (L2 := [some (.int p0), some (.int x2), some (.int (y2 + (1 : Int32)))]) rfl rfl vi_1 rfl rfl rfl ?_
      refine c_goto rfl ?_
      exact ih _ _ h
set_option maxRecDepth 20000 in
theorem k_X8_ones {X : zk_X} {I : zk_I} {J : zk_J} {a1 : Int32} {r : Int32} (h : f_X8_ones a1 = some r) : zC X 1 m_X8_ones 0 (zk_ent [.int a1] 3) [] (z_Z, I, J) 0 0 (some (.int r)) (z_Z, I, J) := by
  unfold f_X8_ones at h
  refine c_ent (L2 := [some (.int a1), none, none]) rfl ?_
  refine c_iconst rfl vi_0 ?_
  refine e_istore_n (L2 := [some (.int a1), some (.int (0 : Int32)), none]) rfl rfl rfl rfl ?_
  refine c_iconst rfl vi_0 ?_
  refine e_istore_n (L2 := [some (.int a1), some (.int (0 : Int32)), some (.int (0 : Int32))]) rfl rfl rfl rfl ?_
  refine kl_X8_ones_4 (fun z3 h => ?_) _ _ _ h
  refine c_iload_n rfl rfl ?_
  have h := zk_r1 h
  subst h
  exact c_ireturn rfl rfl rfl
def f_X8_write (I : zk_I) (a1 : Int32) : Option (Int32 × zk_I) := zk_lt (f_X8_in a1 (0 : Int32) (255 : Int32)) (fun (r2 : Int32) =>
  (if r2 = 0 then (
   some ((-3 : Int32), I)) else (
   (if (I 76 1) = (160 : Int32) then (
    some ((-5 : Int32), I)) else (
    zk_ck (zk_in (I 76 1) 160) (
     zk_lt (zk_sc I 77 (upd (I 77) (I 76 1).toNatClampNeg a1)) (fun (I6 : zk_I) =>
      zk_lt (zk_sc I6 76 (upd (I6 76) 1 ((I6 76 1) + (1 : Int32)))) (fun (I7 : zk_I) =>
       some ((I7 76 1), I7)))))))))
set_option maxRecDepth 20000 in
theorem k_X8_write {X : zk_X} {I : zk_I} {J : zk_J} {a1 : Int32} {r : Int32} {IR : zk_I} (h : f_X8_write I a1 = some (r, IR)) : zC X 2 m_X8_write 0 (zk_ent [.ref 76, .int a1] 2) [] (z_Z, I, J) 0 0 (some (.int r)) (z_Z, IR, J) := by
  unfold f_X8_write at h
  refine c_ent (L2 := [some (.ref 76), some (.int a1)]) rfl ?_
  refine c_iload_n rfl rfl ?_
  refine c_iconst rfl vi_0 ?_
  refine c_sipush rfl vs_255 ?_
  obtain ⟨r2, h1, h⟩ := zk_lt_g h
  refine e_callS (As := [.int a1, .int (0 : Int32), .int (255 : Int32)]) (st := []) rfl lk_X8_63 rfl rfl rfl (Nat.le_of_ble_eq_true rfl) rfl (k_X8_in h1.symm) ?_
  refine c_if_ne rfl (fun q3 => ?_) (fun q3 => ?_)
  · rw [if_neg q3] at h
    refine c_aload_n rfl rfl ?_
    refine c_getI rfl fk_X8_67 rfl (Nat.le_of_ble_eq_true rfl) ?_
    refine c_sipush rfl vs_160 ?_
    refine c_icmp_ne rfl (fun q4 => ?_) (fun q4 => ?_)
    · rw [if_neg q4] at h
      refine c_aload_n rfl rfl ?_
      refine c_getR rfl fk_X8_7 rfl (Nat.le_of_ble_eq_true rfl) rfl ?_
      refine c_aload_n rfl rfl ?_
      refine c_getI rfl fk_X8_67 rfl (Nat.le_of_ble_eq_true rfl) ?_
      refine c_iload_n rfl rfl ?_
      obtain ⟨q5, h⟩ := zk_ck_e h
      refine e_iast rfl rfl (Nat.le_of_ble_eq_true rfl) q5 rfl ?_
      obtain ⟨I6, hI6, h⟩ := zk_lt_g h
      refine c_memI hI6 ?_
      refine c_aload_n rfl rfl ?_
      refine c_dup rfl rfl ?_
      refine c_getI rfl fk_X8_67 rfl (Nat.le_of_ble_eq_true rfl) ?_
      refine c_iconst rfl vi_1 ?_
      refine c_iadd rfl ?_
      refine c_putI rfl fk_X8_67 rfl rfl (Nat.le_of_ble_eq_true rfl) ?_
      obtain ⟨I7, hI7, h⟩ := zk_lt_g h
      refine c_memI hI7 ?_
      refine c_aload_n rfl rfl ?_
      refine c_getI rfl fk_X8_67 rfl (Nat.le_of_ble_eq_true rfl) ?_
      obtain ⟨rfl, rfl⟩ := zk_r2 h
      exact c_ireturn rfl rfl rfl
    · rw [if_pos q4] at h
      refine c_bipush rfl vb_m5 ?_
      obtain ⟨rfl, rfl⟩ := zk_r2 h
      exact c_ireturn rfl rfl rfl
  · rw [if_pos q3] at h
    refine c_bipush rfl vb_m3 ?_
    obtain ⟨rfl, rfl⟩ := zk_r2 h
    exact c_ireturn rfl rfl rfl
def f_X8_erase (I : zk_I) : Option (Int32 × zk_I) := zk_lt (zk_sc I 76 (upd (I 76) 1 (0 : Int32))) (fun (I1 : zk_I) =>
  some ((I 76 1), I1))
set_option maxRecDepth 20000 in
theorem k_X8_erase {X : zk_X} {I : zk_I} {J : zk_J} {r : Int32} {IR : zk_I} (h : f_X8_erase I = some (r, IR)) : zC X 1 m_X8_erase 0 (zk_ent [.ref 76] 2) [] (z_Z, I, J) 0 0 (some (.int r)) (z_Z, IR, J) := by
  unfold f_X8_erase at h
  refine c_ent (L2 := [some (.ref 76), none]) rfl ?_
  refine c_aload_n rfl rfl ?_
  refine c_getI rfl fk_X8_67 rfl (Nat.le_of_ble_eq_true rfl) ?_
  refine e_istore_n (L2 := [some (.ref 76), some (.int (I 76 1))]) rfl rfl rfl rfl ?_
  refine c_aload_n rfl rfl ?_
  refine c_iconst rfl vi_0 ?_
  refine c_putI rfl fk_X8_67 rfl rfl (Nat.le_of_ble_eq_true rfl) ?_
  obtain ⟨I1, hI1, h⟩ := zk_lt_g h
  refine c_memI hI1 ?_
  refine c_iload_n rfl rfl ?_
  obtain ⟨rfl, rfl⟩ := zk_r2 h
  exact c_ireturn rfl rfl rfl
def f_X8_letterAt (I : zk_I) (a1 : Int32) : Option (Int32) := (if (I 76 1) ≤ a1 then (
  some (-1 : Int32)) else (
  zk_ck (zk_in a1 160) (
   some (I 77 a1.toNatClampNeg))))
set_option maxRecDepth 20000 in
theorem k_X8_letterAt {X : zk_X} {I : zk_I} {J : zk_J} {a1 : Int32} {r : Int32} (h : f_X8_letterAt I a1 = some r) : zC X 1 m_X8_letterAt 0 (zk_ent [.ref 76, .int a1] 2) [] (z_Z, I, J) 0 0 (some (.int r)) (z_Z, I, J) := by
  unfold f_X8_letterAt at h
  refine c_ent (L2 := [some (.ref 76), some (.int a1)]) rfl ?_
  refine c_iload_n rfl rfl ?_
  refine c_aload_n rfl rfl ?_
  refine c_getI rfl fk_X8_67 rfl (Nat.le_of_ble_eq_true rfl) ?_
  refine c_icmp_ge rfl (fun q1 => ?_) (fun q1 => ?_)
  · rw [if_pos q1] at h
    refine c_iconst rfl vi_m1 ?_
    have h := zk_r1 h
    subst h
    exact c_ireturn rfl rfl rfl
  · rw [if_neg q1] at h
    refine c_aload_n rfl rfl ?_
    refine c_getR rfl fk_X8_7 rfl (Nat.le_of_ble_eq_true rfl) rfl ?_
    refine c_iload_n rfl rfl ?_
    obtain ⟨q2, h⟩ := zk_ck_e h
    refine e_iald rfl rfl (Nat.le_of_ble_eq_true rfl) q2 rfl ?_
    refine c_goto rfl ?_
    have h := zk_r1 h
    subst h
    exact c_ireturn rfl rfl rfl
def f_X8_isLetter (a1 : Int32) : Option (Int32) := zk_lt (f_X8_in a1 (97 : Int32) (122 : Int32)) (fun (r2 : Int32) =>
  zk_ck (zk_01 r2) (
   some r2))
set_option maxRecDepth 20000 in
theorem k_X8_isLetter {X : zk_X} {I : zk_I} {J : zk_J} {a1 : Int32} {r : Int32} (h : f_X8_isLetter a1 = some r) : zC X 2 m_X8_isLetter 0 (zk_ent [.int a1] 1) [] (z_Z, I, J) 0 0 (some (.int r)) (z_Z, I, J) := by
  unfold f_X8_isLetter at h
  refine c_ent (L2 := [some (.int a1)]) rfl ?_
  refine c_iload_n rfl rfl ?_
  refine c_bipush rfl vb_97 ?_
  refine c_bipush rfl vb_122 ?_
  obtain ⟨r2, h1, h⟩ := zk_lt_g h
  refine e_callS (As := [.int a1, .int (97 : Int32), .int (122 : Int32)]) (st := []) rfl lk_X8_63 rfl rfl rfl (Nat.le_of_ble_eq_true rfl) rfl (k_X8_in h1.symm) ?_
  obtain ⟨q3, h⟩ := zk_ck_e h
  have h := zk_r1 h
  subst h
  exact c_ireturn rfl rfl (zk_01_n q3)
def f_X8_isDigit (a1 : Int32) : Option (Int32) := zk_lt (f_X8_in a1 (48 : Int32) (57 : Int32)) (fun (r2 : Int32) =>
  zk_ck (zk_01 r2) (
   some r2))
set_option maxRecDepth 20000 in
theorem k_X8_isDigit {X : zk_X} {I : zk_I} {J : zk_J} {a1 : Int32} {r : Int32} (h : f_X8_isDigit a1 = some r) : zC X 2 m_X8_isDigit 0 (zk_ent [.int a1] 1) [] (z_Z, I, J) 0 0 (some (.int r)) (z_Z, I, J) := by
  unfold f_X8_isDigit at h
  refine c_ent (L2 := [some (.int a1)]) rfl ?_
  refine c_iload_n rfl rfl ?_
  refine c_bipush rfl vb_48 ?_
  refine c_bipush rfl vb_57 ?_
  obtain ⟨r2, h1, h⟩ := zk_lt_g h
  refine e_callS (As := [.int a1, .int (48 : Int32), .int (57 : Int32)]) (st := []) rfl lk_X8_63 rfl rfl rfl (Nat.le_of_ble_eq_true rfl) rfl (k_X8_in h1.symm) ?_
  obtain ⟨q3, h⟩ := zk_ck_e h
  have h := zk_r1 h
  subst h
  exact c_ireturn rfl rfl (zk_01_n q3)
def l_X8_token_0  (K : zk_I → Option (zk_I)) : Nat → zk_I → Option (zk_I)
  | 0, _ => none
  | n + 1, Iy => zk_bd1 (f_X8_letterAt Iy (Iy 76 13)) (fun (r2 : Int32) =>
    (if r2 = (32 : Int32) then (
     zk_lt (zk_sc Iy 76 (upd (Iy 76) 13 ((Iy 76 13) + (1 : Int32)))) (fun (I4 : zk_I) =>
      l_X8_token_0 K n I4)) else (
     K Iy)))
def l_X8_token_83  (K : zk_I → Option (zk_I)) : Nat → zk_I → Option (zk_I)
  | 0, _ => none
  | n + 1, Iy => (if (Iy 76 11) = (1 : Int32) then (
    zk_bd1 (f_X8_letterAt Iy (Iy 76 13)) (fun (r16 : Int32) =>
     zk_bd1 (f_X8_isLetter r16) (fun (r18 : Int32) =>
      (if r18 = 0 then (
       K Iy) else (
       zk_lt (zk_sc Iy 76 (upd (Iy 76) 13 ((Iy 76 13) + (1 : Int32)))) (fun (I20 : zk_I) =>
        l_X8_token_83 K n I20)))))) else (
    K Iy))
def l_X8_token_118  (K : zk_I → Option (zk_I)) : Nat → zk_I → Option (zk_I)
  | 0, _ => none
  | n + 1, Iy => (if (Iy 76 11) = (2 : Int32) then (
    zk_bd1 (f_X8_letterAt Iy (Iy 76 13)) (fun (r24 : Int32) =>
     zk_bd1 (f_X8_isDigit r24) (fun (r26 : Int32) =>
      (if r26 = 0 then (
       K Iy) else (
       zk_jp1 (fun (v29 : Int32) =>
        zk_lt (zk_sc Iy 76 (upd (Iy 76) 14 v29)) (fun (I31 : zk_I) =>
         zk_lt (zk_sc I31 76 (upd (I31 76) 13 ((I31 76 13) + (1 : Int32)))) (fun (I32 : zk_I) =>
          l_X8_token_118 K n I32))) (fun (K30 : Int32 → Option (zk_I)) =>
        (if (2 : Int32) ≤ ((Iy 76 13) - (Iy 76 12)) then (
         K30 (100 : Int32)) else (
         zk_ck (zk_in (Iy 76 13) 160) (
          K30 ((((10 : Int32) * (Iy 76 14)) + (Iy 77 (Iy 76 13).toNatClampNeg)) - (48 : Int32))))))))))) else (
    K Iy))
def f_X8_token (I : zk_I) : Option (zk_I) := l_X8_token_0 (fun (I5 : zk_I) =>
  zk_lt (zk_sc I5 76 (upd (I5 76) 12 (I5 76 13))) (fun (I6 : zk_I) =>
   zk_bd1 (f_X8_letterAt I6 (I6 76 13)) (fun (r8 : Int32) =>
    zk_jp1 (fun (v10 : Int32) =>
     zk_lt (zk_sc I6 76 (upd (I6 76) 11 v10)) (fun (I12 : zk_I) =>
      zk_lt (zk_sc I12 76 (upd (I12 76) 14 (0 : Int32))) (fun (I13 : zk_I) =>
       l_X8_token_83 (fun (I21 : zk_I) =>
        l_X8_token_118 (fun (I34 : zk_I) =>
         (if (I34 76 11) = (3 : Int32) then (
          zk_lt (zk_sc I34 76 (upd (I34 76) 13 ((I34 76 13) + (1 : Int32)))) (fun (I37 : zk_I) =>
           some I37)) else (
          zk_lt (zk_sc I34 76 (upd (I34 76) 13 ((I34 76 13) + (0 : Int32)))) (fun (I36 : zk_I) =>
           some I36)))) 3000 I21) 3000 I13))) (fun (K11 : Int32 → Option (zk_I)) =>
     (if 0 ≤ r8 then (
      zk_bd1 (f_X8_isLetter r8) (fun (r39 : Int32) =>
       (if r39 = 0 then (
        zk_bd1 (f_X8_isDigit r8) (fun (r42 : Int32) =>
         (if r42 = 0 then (
          K11 (3 : Int32)) else (
          K11 (2 : Int32))))) else (
        K11 (1 : Int32))))) else (
      K11 (0 : Int32))))))) 3000 I
set_option maxRecDepth 20000 in
theorem kl_X8_token_0 {X : zk_X} {J : zk_J} {K : zk_I → Option (zk_I)} {IR : zk_I} (jK : ∀ (Iz : zk_I), K Iz = some IR → zC X 3 m_X8_token 26 [some (.ref 76), none] [] (z_Z, Iz, J) 0 0 none (z_Z, IR, J)) : ∀ (n : Nat) (Iy : zk_I), l_X8_token_0 K n Iy = some IR → zC X 3 m_X8_token 0 [some (.ref 76), none] [] (z_Z, Iy, J) 0 0 none (z_Z, IR, J) := by
  intro n
  induction n with
  | zero =>
    intro Iy h
    cases h
  | succ n ih =>
    intro Iy h
    rw [l_X8_token_0] at h
    refine c_aload_n rfl rfl ?_
    refine c_aload_n rfl rfl ?_
    refine c_getI rfl fk_X8_71 rfl (Nat.le_of_ble_eq_true rfl) ?_
    obtain ⟨r2, h1, h⟩ := zk_bd1_e h
    refine e_callV (As := [.int (Iy 76 13)]) (st := []) rfl lk_X8_74 rfl (Nat.le_of_ble_eq_true rfl) rfl rfl rfl (Nat.le_of_ble_eq_true rfl) rfl (k_X8_letterAt h1) ?_
    refine c_bipush rfl vb_32 ?_
    refine c_icmp_ne rfl (fun q3 => ?_) (fun q3 => ?_)
    · rw [if_neg q3] at h
      exact jK _ h
    · rw [if_pos q3] at h
      refine c_aload_n rfl rfl ?_
      refine c_dup rfl rfl ?_
      refine c_getI rfl fk_X8_71 rfl (Nat.le_of_ble_eq_true rfl) ?_
      refine c_iconst rfl vi_1 ?_
      refine c_iadd rfl ?_
      refine c_putI rfl fk_X8_71 rfl rfl (Nat.le_of_ble_eq_true rfl) ?_
      obtain ⟨I4, hI4, h⟩ := zk_lt_g h
      refine c_memI hI4 ?_
      refine c_goto rfl ?_
      exact ih _ h
set_option maxRecDepth 20000 in
theorem kl_X8_token_83 {X : zk_X} {J : zk_J} {K : zk_I → Option (zk_I)} {IR : zk_I} (jK : ∀ (Iz : zk_I), K Iz = some IR → zC X 3 m_X8_token 118 [some (.ref 76), none] [] (z_Z, Iz, J) 0 0 none (z_Z, IR, J)) : ∀ (n : Nat) (Iy : zk_I), l_X8_token_83 K n Iy = some IR → zC X 3 m_X8_token 83 [some (.ref 76), none] [] (z_Z, Iy, J) 0 0 none (z_Z, IR, J) := by
  intro n
  induction n with
  | zero =>
    intro Iy h
    cases h
  | succ n ih =>
    intro Iy h
    rw [l_X8_token_83] at h
    refine c_aload_n rfl rfl ?_
    refine c_getI rfl fk_X8_88 rfl (Nat.le_of_ble_eq_true rfl) ?_
    refine c_iconst rfl vi_1 ?_
    refine c_icmp_ne rfl (fun q14 => ?_) (fun q14 => ?_)
    · rw [if_neg q14] at h
      exact jK _ h
    · rw [if_pos q14] at h
      refine c_aload_n rfl rfl ?_
      refine c_aload_n rfl rfl ?_
      refine c_getI rfl fk_X8_71 rfl (Nat.le_of_ble_eq_true rfl) ?_
      obtain ⟨r16, h15, h⟩ := zk_bd1_e h
      refine e_callV (As := [.int (Iy 76 13)]) (st := []) rfl lk_X8_74 rfl (Nat.le_of_ble_eq_true rfl) rfl rfl rfl (Nat.le_of_ble_eq_true rfl) rfl (k_X8_letterAt h15) ?_
      obtain ⟨r18, h17, h⟩ := zk_bd1_e h
      refine e_callS (As := [.int r16]) (st := []) rfl lk_X8_81 rfl rfl rfl (Nat.le_of_ble_eq_true rfl) rfl (k_X8_isLetter h17) ?_
      refine c_if_eq rfl (fun q19 => ?_) (fun q19 => ?_)
      · rw [if_pos q19] at h
        exact jK _ h
      · rw [if_neg q19] at h
        refine c_aload_n rfl rfl ?_
        refine c_dup rfl rfl ?_
        refine c_getI rfl fk_X8_71 rfl (Nat.le_of_ble_eq_true rfl) ?_
        refine c_iconst rfl vi_1 ?_
        refine c_iadd rfl ?_
        refine c_putI rfl fk_X8_71 rfl rfl (Nat.le_of_ble_eq_true rfl) ?_
        obtain ⟨I20, hI20, h⟩ := zk_lt_g h
        refine c_memI hI20 ?_
        refine c_goto rfl ?_
        exact ih _ h
set_option maxRecDepth 20000 in
theorem kl_X8_token_118 {X : zk_X} {J : zk_J} {K : zk_I → Option (zk_I)} {IR : zk_I} (jK : ∀ (Iz : zk_I), K Iz = some IR → zC X 3 m_X8_token 195 [some (.ref 76), none] [] (z_Z, Iz, J) 0 0 none (z_Z, IR, J)) : ∀ (n : Nat) (Iy : zk_I), l_X8_token_118 K n Iy = some IR → zC X 3 m_X8_token 118 [some (.ref 76), none] [] (z_Z, Iy, J) 0 0 none (z_Z, IR, J) := by
  intro n
  induction n with
  | zero =>
    intro Iy h
    cases h
  | succ n ih =>
    intro Iy h
    rw [l_X8_token_118] at h
    refine c_aload_n rfl rfl ?_
    refine c_getI rfl fk_X8_88 rfl (Nat.le_of_ble_eq_true rfl) ?_
    refine c_iconst rfl vi_2 ?_
    refine c_icmp_ne rfl (fun q22 => ?_) (fun q22 => ?_)
    · rw [if_neg q22] at h
      exact jK _ h
    · rw [if_pos q22] at h
      refine c_aload_n rfl rfl ?_
      refine c_aload_n rfl rfl ?_
      refine c_getI rfl fk_X8_71 rfl (Nat.le_of_ble_eq_true rfl) ?_
      obtain ⟨r24, h23, h⟩ := zk_bd1_e h
      refine e_callV (As := [.int (Iy 76 13)]) (st := []) rfl lk_X8_74 rfl (Nat.le_of_ble_eq_true rfl) rfl rfl rfl (Nat.le_of_ble_eq_true rfl) rfl (k_X8_letterAt h23) ?_
      obtain ⟨r26, h25, h⟩ := zk_bd1_e h
      refine e_callS (As := [.int r24]) (st := []) rfl lk_X8_85 rfl rfl rfl (Nat.le_of_ble_eq_true rfl) rfl (k_X8_isDigit h25) ?_
      refine c_if_eq rfl (fun q27 => ?_) (fun q27 => ?_)
      · rw [if_pos q27] at h
        exact jK _ h
      · rw [if_neg q27] at h
        refine c_aload_n rfl rfl ?_
        refine c_aload_n rfl rfl ?_
        refine c_getI rfl fk_X8_71 rfl (Nat.le_of_ble_eq_true rfl) ?_
        refine c_aload_n rfl rfl ?_
        refine c_getI rfl fk_X8_78 rfl (Nat.le_of_ble_eq_true rfl) ?_
        refine c_isub rfl ?_
        refine c_iconst rfl vi_2 ?_
        refine zk_jp1_e (Z := fun (v29 : Int32) => zC X 3 m_X8_token 179 [some (.ref 76), none] [.int v29, .ref 76] (z_Z, Iy, J) 0 0 none (z_Z, IR, J)) h (fun v29 h => ?_) (fun K30 jK30 h => ?_)
        · refine c_putI rfl fk_X8_91 rfl rfl (Nat.le_of_ble_eq_true rfl) ?_
          obtain ⟨I31, hI31, h⟩ := zk_lt_g h
          refine c_memI hI31 ?_
          refine c_aload_n rfl rfl ?_
          refine c_dup rfl rfl ?_
          refine c_getI rfl fk_X8_71 rfl (Nat.le_of_ble_eq_true rfl) ?_
          refine c_iconst rfl vi_1 ?_
          refine c_iadd rfl ?_
          refine c_putI rfl fk_X8_71 rfl rfl (Nat.le_of_ble_eq_true rfl) ?_
          obtain ⟨I32, hI32, h⟩ := zk_lt_g h
          refine c_memI hI32 ?_
          refine c_goto rfl ?_
          exact ih _ h
        · refine c_icmp_ge rfl (fun q28 => ?_) (fun q28 => ?_)
          · rw [if_pos q28] at h
            refine c_bipush rfl vb_100 ?_
            exact jK30 _ h
          · rw [if_neg q28] at h
            refine c_bipush rfl vb_10 ?_
            refine c_aload_n rfl rfl ?_
            refine c_getI rfl fk_X8_91 rfl (Nat.le_of_ble_eq_true rfl) ?_
            refine c_imul rfl ?_
            refine c_aload_n rfl rfl ?_
            refine c_getR rfl fk_X8_7 rfl (Nat.le_of_ble_eq_true rfl) rfl ?_
            refine c_aload_n rfl rfl ?_
            refine c_getI rfl fk_X8_71 rfl (Nat.le_of_ble_eq_true rfl) ?_
            obtain ⟨q33, h⟩ := zk_ck_e h
            refine e_iald rfl rfl (Nat.le_of_ble_eq_true rfl) q33 rfl ?_
            refine c_iadd rfl ?_
            refine c_bipush rfl vb_48 ?_
            refine c_isub rfl ?_
            refine c_goto rfl ?_
            exact jK30 _ h
set_option maxRecDepth 20000 in
theorem k_X8_token {X : zk_X} {I : zk_I} {J : zk_J} {IR : zk_I} (h : f_X8_token I = some IR) : zC X 3 m_X8_token 0 (zk_ent [.ref 76] 2) [] (z_Z, I, J) 0 0 none (z_Z, IR, J) := by
  unfold f_X8_token at h
  refine c_ent (L2 := [some (.ref 76), none]) rfl ?_
  refine kl_X8_token_0 (fun I5 h => ?_) _ _ h
  refine c_aload_n rfl rfl ?_
  refine c_aload_n rfl rfl ?_
  refine c_getI rfl fk_X8_71 rfl (Nat.le_of_ble_eq_true rfl) ?_
  refine c_putI rfl fk_X8_78 rfl rfl (Nat.le_of_ble_eq_true rfl) ?_
  obtain ⟨I6, hI6, h⟩ := zk_lt_g h
  refine c_memI hI6 ?_
  refine c_aload_n rfl rfl ?_
  refine c_aload_n rfl rfl ?_
  refine c_getI rfl fk_X8_71 rfl (Nat.le_of_ble_eq_true rfl) ?_
  obtain ⟨r8, h7, h⟩ := zk_bd1_e h
  refine e_callV (As := [.int (I6 76 13)]) (st := []) rfl lk_X8_74 rfl (Nat.le_of_ble_eq_true rfl) rfl rfl rfl (Nat.le_of_ble_eq_true rfl) rfl (k_X8_letterAt h7) ?_
  refine e_istore_n (L2 := [some (.ref 76), some (.int r8)]) rfl rfl rfl rfl ?_
  refine c_aload_n rfl rfl ?_
  refine c_iload_n rfl rfl ?_
  refine zk_jp1_e (Z := fun (v10 : Int32) => zC X 3 m_X8_token 75 [some (.ref 76), none] [.int v10, .ref 76] (z_Z, I6, J) 0 0 none (z_Z, IR, J)) h (fun v10 h => ?_) (fun K11 jK11 h => ?_)
  · refine c_putI rfl fk_X8_88 rfl rfl (Nat.le_of_ble_eq_true rfl) ?_
    obtain ⟨I12, hI12, h⟩ := zk_lt_g h
    refine c_memI hI12 ?_
    refine c_aload_n rfl rfl ?_
    refine c_iconst rfl vi_0 ?_
    refine c_putI rfl fk_X8_91 rfl rfl (Nat.le_of_ble_eq_true rfl) ?_
    obtain ⟨I13, hI13, h⟩ := zk_lt_g h
    refine c_memI hI13 ?_
    refine kl_X8_token_83 (fun I21 h => ?_) _ _ h
    refine kl_X8_token_118 (fun I34 h => ?_) _ _ h
    refine c_aload_n rfl rfl ?_
    refine c_dup rfl rfl ?_
    refine c_getI rfl fk_X8_71 rfl (Nat.le_of_ble_eq_true rfl) ?_
    refine c_aload_n rfl rfl ?_
    refine c_getI rfl fk_X8_88 rfl (Nat.le_of_ble_eq_true rfl) ?_
    refine c_iconst rfl vi_3 ?_
    refine c_icmp_ne rfl (fun q35 => ?_) (fun q35 => ?_)
    · rw [if_neg q35] at h
      refine c_iconst rfl vi_0 ?_
      refine c_iadd rfl ?_
      refine c_putI rfl fk_X8_71 rfl rfl (Nat.le_of_ble_eq_true rfl) ?_
      obtain ⟨I36, hI36, h⟩ := zk_lt_g h
      refine c_memI hI36 ?_
      have h := zk_r1 h
      subst h
      exact c_return rfl rfl
    · rw [if_pos q35] at h
      refine c_iconst rfl vi_1 ?_
      refine c_goto rfl ?_
      refine c_iadd rfl ?_
      refine c_putI rfl fk_X8_71 rfl rfl (Nat.le_of_ble_eq_true rfl) ?_
      obtain ⟨I37, hI37, h⟩ := zk_lt_g h
      refine c_memI hI37 ?_
      have h := zk_r1 h
      subst h
      exact c_return rfl rfl
  · refine c_if_ge rfl (fun q9 => ?_) (fun q9 => ?_)
    · rw [if_pos q9] at h
      refine c_iload_n rfl rfl ?_
      obtain ⟨r39, h38, h⟩ := zk_bd1_e h
      refine e_callS (As := [.int r8]) (st := [.ref 76]) rfl lk_X8_81 rfl rfl rfl (Nat.le_of_ble_eq_true rfl) rfl (k_X8_isLetter h38) ?_
      refine c_if_eq rfl (fun q40 => ?_) (fun q40 => ?_)
      · rw [if_pos q40] at h
        refine c_iload_n rfl rfl ?_
        obtain ⟨r42, h41, h⟩ := zk_bd1_e h
        refine e_callS (As := [.int r8]) (st := [.ref 76]) rfl lk_X8_85 rfl rfl rfl (Nat.le_of_ble_eq_true rfl) rfl (k_X8_isDigit h41) ?_
        refine c_if_eq rfl (fun q43 => ?_) (fun q43 => ?_)
        · rw [if_pos q43] at h
          refine c_iconst rfl vi_3 ?_
          refine c_drop [true, false] (L2 := [some (.ref 76), none]) rfl ?_
          exact jK11 _ h
        · rw [if_neg q43] at h
          refine c_iconst rfl vi_2 ?_
          refine c_goto rfl ?_
          refine c_drop [true, false] (L2 := [some (.ref 76), none]) rfl ?_
          exact jK11 _ h
      · rw [if_neg q40] at h
        refine c_iconst rfl vi_1 ?_
        refine c_goto rfl ?_
        refine c_drop [true, false] (L2 := [some (.ref 76), none]) rfl ?_
        exact jK11 _ h
    · rw [if_neg q9] at h
      refine c_iconst rfl vi_0 ?_
      refine c_goto rfl ?_
      refine c_drop [true, false] (L2 := [some (.ref 76), none]) rfl ?_
      exact jK11 _ h

def l_X7_booksHeldBy_4 (I : zk_I) (p1 : Int32) (K : Int32 → Option (Int32)) : Nat → Int32 → Int32 → Option (Int32)
  | 0, _, _ => none
  | n + 1, y2, y3 => (if (I 3 1) ≤ y3 then (
    K y2) else (
    zk_ck (zk_in y3 4) (
     zk_jp1 (fun (v4 : Int32) =>
      l_X7_booksHeldBy_4 I p1 K n v4 (y3 + (1 : Int32))) (fun (K5 : Int32 → Option (Int32)) =>
      (if (I 17 y3.toNatClampNeg) = p1 then (
       zk_lt (y2 ||| ((1 : Int32) <<< (y3 &&& 31))) (fun (x6 : Int32) =>
        K5 x6)) else (
       K5 y2))))))
def f_X7_booksHeldBy (I : zk_I) (a1 : Int32) : Option (Int32) := l_X7_booksHeldBy_4 I a1 (fun (z7 : Int32) =>
  some z7) 3000 (0 : Int32) (0 : Int32)
set_option maxRecDepth 20000 in
theorem kl_X7_booksHeldBy_4 {X : zk_X} {I : zk_I} {p1 : Int32} {J : zk_J} {K : Int32 → Option (Int32)} {r : Int32} (jK : ∀ (z2 : Int32), K z2 = some r → zC X 1 m_X7_booksHeldBy 40 [none, none, some (.int z2), none] [] (z_Z, I, J) 0 0 (some (.int r)) (z_Z, I, J)) : ∀ (n : Nat) (y2 : Int32) (y3 : Int32), l_X7_booksHeldBy_4 I p1 K n y2 y3 = some r → zC X 1 m_X7_booksHeldBy 4 [some (.ref 0), some (.int p1), some (.int y2), some (.int y3)] [] (z_Z, I, J) 0 0 (some (.int r)) (z_Z, I, J) := by
  intro n
  induction n with
  | zero =>
    intro y2 y3 h
    cases h
  | succ n ih =>
    intro y2 y3 h
    rw [l_X7_booksHeldBy_4] at h
    refine c_iload_n rfl rfl ?_
    refine c_aload_n rfl rfl ?_
    refine c_getR rfl fk_X7_19 rfl (Nat.le_of_ble_eq_true rfl) rfl ?_
    refine c_getI rfl fk_X7_229 rfl (Nat.le_of_ble_eq_true rfl) ?_
    refine c_icmp_ge rfl (fun q1 => ?_) (fun q1 => ?_)
    · rw [if_pos q1] at h
      refine c_drop [false, false, true, false] (L2 := [none, none, some (.int y2), none]) rfl ?_
      exact jK _ h
    · rw [if_neg q1] at h
      refine c_aload_n rfl rfl ?_
      refine c_getR rfl fk_X7_35 rfl (Nat.le_of_ble_eq_true rfl) rfl ?_
      refine c_getR rfl fk_X7_135 rfl (Nat.le_of_ble_eq_true rfl) rfl ?_
      refine c_iload_n rfl rfl ?_
      obtain ⟨q2, h⟩ := zk_ck_e h
      refine e_iald rfl rfl (Nat.le_of_ble_eq_true rfl) q2 rfl ?_
      refine c_iload_n rfl rfl ?_
      refine zk_jp1_e (Z := fun (v4 : Int32) => zC X 1 m_X7_booksHeldBy 34 [some (.ref 0), some (.int p1), some (.int v4), some (.int y3)] [] (z_Z, I, J) 0 0 (some (.int r)) (z_Z, I, J)) h (fun v4 h => ?_) (fun K5 jK5 h => ?_)
      · refine e_iinc (L2 := [some (.ref 0), some (.int p1), some (.int v4), some (.int (y3 + (1 : Int32)))]) rfl rfl vi_1 rfl rfl rfl ?_
        refine c_goto rfl ?_
        exact ih _ _ h
      · refine c_icmp_ne rfl (fun q3 => ?_) (fun q3 => ?_)
        · rw [if_neg q3] at h
          exact jK5 _ h
        · rw [if_pos q3] at h
          refine c_iload_n rfl rfl ?_
          refine c_iconst rfl vi_1 ?_
          refine c_iload_n rfl rfl ?_
          refine c_ishl rfl ?_
          refine c_ior rfl ?_
          obtain ⟨x6, hx6, h⟩ := zk_lt_g h
          refine c_topi hx6 ?_
          refine e_istore_n (L2 := [some (.ref 0), some (.int p1), some (.int x6), some (.int y3)]) rfl rfl rfl rfl ?_
          exact jK5 _ h
set_option maxRecDepth 20000 in
theorem k_X7_booksHeldBy {X : zk_X} {I : zk_I} {J : zk_J} {a1 : Int32} {r : Int32} (h : f_X7_booksHeldBy I a1 = some r) : zC X 1 m_X7_booksHeldBy 0 (zk_ent [.ref 0, .int a1] 4) [] (z_Z, I, J) 0 0 (some (.int r)) (z_Z, I, J) := by
  unfold f_X7_booksHeldBy at h
  refine c_ent (L2 := [some (.ref 0), some (.int a1), none, none]) rfl ?_
  refine c_iconst rfl vi_0 ?_
  refine e_istore_n (L2 := [some (.ref 0), some (.int a1), some (.int (0 : Int32)), none]) rfl rfl rfl rfl ?_
  refine c_iconst rfl vi_0 ?_
  refine e_istore_n (L2 := [some (.ref 0), some (.int a1), some (.int (0 : Int32)), some (.int (0 : Int32))]) rfl rfl rfl rfl ?_
  refine kl_X7_booksHeldBy_4 (fun z7 h => ?_) _ _ _ h
  refine c_iload_n rfl rfl ?_
  have h := zk_r1 h
  subst h
  exact c_ireturn rfl rfl rfl
def f_X7_reader (I : zk_I) (a1 : Int32) (a2 : Int32) : Option (Int32) := zk_lt (f_X6_hasReader I 3 a1) (fun (r2 : Int32) =>
  (if r2 = 0 then (
   some (-2 : Int32)) else (
   (if a2 = (0 : Int32) then (
    zk_ck (zk_in a1 8) (
     some (I 4 a1.toNatClampNeg))) else if a2 = (1 : Int32) then (
    zk_ck (zk_in a1 8) (
     some (I 5 a1.toNatClampNeg))) else if a2 = (2 : Int32) then (
    zk_ck (zk_in a1 8) (
     some (I 6 a1.toNatClampNeg))) else if a2 = (3 : Int32) then (
    zk_ck (zk_in a1 8) (
     some (I 7 a1.toNatClampNeg))) else if a2 = (4 : Int32) then (
    zk_bd1 (f_X7_booksHeldBy I a1) (fun (r10 : Int32) =>
     some r10)) else if a2 = (5 : Int32) then (
    zk_bd1 (f_X7_booksHadBy I a1) (fun (r12 : Int32) =>
     some r12)) else (
    some (-3 : Int32))))))
set_option maxRecDepth 20000 in
theorem k_X7_reader {X : zk_X} {I : zk_I} {J : zk_J} {a1 : Int32} {a2 : Int32} {r : Int32} (h : f_X7_reader I a1 a2 = some r) : zC X 3 m_X7_reader 0 (zk_ent [.ref 0, .int a1, .int a2] 3) [] (z_Z, I, J) 0 0 (some (.int r)) (z_Z, I, J) := by
  unfold f_X7_reader at h
  refine c_ent (L2 := [some (.ref 0), some (.int a1), some (.int a2)]) rfl ?_
  refine c_aload_n rfl rfl ?_
  refine c_getR rfl fk_X7_19 rfl (Nat.le_of_ble_eq_true rfl) rfl ?_
  refine c_iload_n rfl rfl ?_
  obtain ⟨r2, h1, h⟩ := zk_lt_g h
  refine e_callV (As := [.int a1]) (st := []) rfl lk_X7_109 rfl (Nat.le_of_ble_eq_true rfl) rfl rfl rfl (Nat.le_of_ble_eq_true rfl) rfl (k_X6_hasReader (rfl : z_isT 3 = true) h1.symm) ?_
  refine c_if_ne rfl (fun q3 => ?_) (fun q3 => ?_)
  · rw [if_neg q3] at h
    refine c_iload_n rfl rfl ?_
    by_cases q4_0 : a2 = (0 : Int32)
    · rw [if_pos q4_0] at h
      refine c_topi q4_0.symm ?_
      refine c_swIn (off := 37) (tgt := 52) rfl (by decide) (by decide) (by decide +kernel) (by decide) ?_
      refine c_aload_n rfl rfl ?_
      refine c_getR rfl fk_X7_19 rfl (Nat.le_of_ble_eq_true rfl) rfl ?_
      refine c_getR rfl fk_X7_113 rfl (Nat.le_of_ble_eq_true rfl) rfl ?_
      refine c_iload_n rfl rfl ?_
      obtain ⟨q5, h⟩ := zk_ck_e h
      refine e_iald rfl rfl (Nat.le_of_ble_eq_true rfl) q5 rfl ?_
      have h := zk_r1 h
      subst h
      exact c_ireturn rfl rfl rfl
    · rw [if_neg q4_0] at h
      by_cases q4_1 : a2 = (1 : Int32)
      · rw [if_pos q4_1] at h
        refine c_topi q4_1.symm ?_
        refine c_swIn (off := 47) (tgt := 62) rfl (by decide) (by decide) (by decide +kernel) (by decide) ?_
        refine c_aload_n rfl rfl ?_
        refine c_getR rfl fk_X7_19 rfl (Nat.le_of_ble_eq_true rfl) rfl ?_
        refine c_getR rfl fk_X7_116 rfl (Nat.le_of_ble_eq_true rfl) rfl ?_
        refine c_iload_n rfl rfl ?_
        obtain ⟨q6, h⟩ := zk_ck_e h
        refine e_iald rfl rfl (Nat.le_of_ble_eq_true rfl) q6 rfl ?_
        have h := zk_r1 h
        subst h
        exact c_ireturn rfl rfl rfl
      · rw [if_neg q4_1] at h
        by_cases q4_2 : a2 = (2 : Int32)
        · rw [if_pos q4_2] at h
          refine c_topi q4_2.symm ?_
          refine c_swIn (off := 57) (tgt := 72) rfl (by decide) (by decide) (by decide +kernel) (by decide) ?_
          refine c_aload_n rfl rfl ?_
          refine c_getR rfl fk_X7_19 rfl (Nat.le_of_ble_eq_true rfl) rfl ?_
          refine c_getR rfl fk_X7_119 rfl (Nat.le_of_ble_eq_true rfl) rfl ?_
          refine c_iload_n rfl rfl ?_
          obtain ⟨q7, h⟩ := zk_ck_e h
          refine e_iald rfl rfl (Nat.le_of_ble_eq_true rfl) q7 rfl ?_
          have h := zk_r1 h
          subst h
          exact c_ireturn rfl rfl rfl
        · rw [if_neg q4_2] at h
          by_cases q4_3 : a2 = (3 : Int32)
          · rw [if_pos q4_3] at h
            refine c_topi q4_3.symm ?_
            refine c_swIn (off := 67) (tgt := 82) rfl (by decide) (by decide) (by decide +kernel) (by decide) ?_
            refine c_aload_n rfl rfl ?_
            refine c_getR rfl fk_X7_19 rfl (Nat.le_of_ble_eq_true rfl) rfl ?_
            refine c_getR rfl fk_X7_122 rfl (Nat.le_of_ble_eq_true rfl) rfl ?_
            refine c_iload_n rfl rfl ?_
            obtain ⟨q8, h⟩ := zk_ck_e h
            refine e_iald rfl rfl (Nat.le_of_ble_eq_true rfl) q8 rfl ?_
            have h := zk_r1 h
            subst h
            exact c_ireturn rfl rfl rfl
          · rw [if_neg q4_3] at h
            by_cases q4_4 : a2 = (4 : Int32)
            · rw [if_pos q4_4] at h
              refine c_topi q4_4.symm ?_
              refine c_swIn (off := 77) (tgt := 92) rfl (by decide) (by decide) (by decide +kernel) (by decide) ?_
              refine c_aload_n rfl rfl ?_
              refine c_iload_n rfl rfl ?_
              obtain ⟨r10, h9, h⟩ := zk_bd1_e h
              refine e_callV (As := [.int a1]) (st := []) rfl lk_X7_125 rfl (Nat.le_of_ble_eq_true rfl) rfl rfl rfl (Nat.le_of_ble_eq_true rfl) rfl (k_X7_booksHeldBy h9) ?_
              have h := zk_r1 h
              subst h
              exact c_ireturn rfl rfl rfl
            · rw [if_neg q4_4] at h
              by_cases q4_5 : a2 = (5 : Int32)
              · rw [if_pos q4_5] at h
                refine c_topi q4_5.symm ?_
                refine c_swIn (off := 83) (tgt := 98) rfl (by decide) (by decide) (by decide +kernel) (by decide) ?_
                refine c_aload_n rfl rfl ?_
                refine c_iload_n rfl rfl ?_
                obtain ⟨r12, h11, h⟩ := zk_bd1_e h
                refine e_callV (As := [.int a1]) (st := []) rfl lk_X7_129 rfl (Nat.le_of_ble_eq_true rfl) rfl rfl rfl (Nat.le_of_ble_eq_true rfl) rfl (k_X7_booksHadBy h11) ?_
                have h := zk_r1 h
                subst h
                exact c_ireturn rfl rfl rfl
              · rw [if_neg q4_5] at h
                refine c_swOut (tgt := 104) rfl (by
                  have := lv_neT (a := 0) q4_0 (by decide)
                  have := lv_neT (a := 1) q4_1 (by decide)
                  have := lv_neT (a := 2) q4_2 (by decide)
                  have := lv_neT (a := 3) q4_3 (by decide)
                  have := lv_neT (a := 4) q4_4 (by decide)
                  have := lv_neT (a := 5) q4_5 (by decide)
                  omega) (by decide) ?_
                refine c_bipush rfl vb_m3 ?_
                have h := zk_r1 h
                subst h
                exact c_ireturn rfl rfl rfl
  · rw [if_pos q3] at h
    refine c_bipush rfl vb_m2 ?_
    have h := zk_r1 h
    subst h
    exact c_ireturn rfl rfl rfl
def f_X7_namableNow (I : zk_I) (a1 : Int32) : Option (Int32) := zk_ck (zk_in a1 4) (
  zk_bd1 (f_X6_namable I 3 (I 17 a1.toNatClampNeg) (I 16 0)) (fun (r3 : Int32) =>
   zk_ck (zk_in a1 4) (
    some (r3 &&& ((I 18 a1.toNatClampNeg) ^^^ (-1 : Int32))))))
set_option maxRecDepth 20000 in
theorem k_X7_namableNow {X : zk_X} {I : zk_I} {J : zk_J} {a1 : Int32} {r : Int32} (h : f_X7_namableNow I a1 = some r) : zC X 5 m_X7_namableNow 0 (zk_ent [.ref 0, .int a1] 2) [] (z_Z, I, J) 0 0 (some (.int r)) (z_Z, I, J) := by
  unfold f_X7_namableNow at h
  refine c_ent (L2 := [some (.ref 0), some (.int a1)]) rfl ?_
  refine c_aload_n rfl rfl ?_
  refine c_getR rfl fk_X7_19 rfl (Nat.le_of_ble_eq_true rfl) rfl ?_
  refine c_aload_n rfl rfl ?_
  refine c_getR rfl fk_X7_35 rfl (Nat.le_of_ble_eq_true rfl) rfl ?_
  refine c_getR rfl fk_X7_135 rfl (Nat.le_of_ble_eq_true rfl) rfl ?_
  refine c_iload_n rfl rfl ?_
  obtain ⟨q1, h⟩ := zk_ck_e h
  refine e_iald rfl rfl (Nat.le_of_ble_eq_true rfl) q1 rfl ?_
  refine c_aload_n rfl rfl ?_
  refine c_getR rfl fk_X7_35 rfl (Nat.le_of_ble_eq_true rfl) rfl ?_
  refine c_getI rfl fk_X7_141 rfl (Nat.le_of_ble_eq_true rfl) ?_
  obtain ⟨r3, h2, h⟩ := zk_bd1_e h
  refine e_callV (As := [.int (I 17 a1.toNatClampNeg), .int (I 16 0)]) (st := []) rfl lk_X7_160 rfl (Nat.le_of_ble_eq_true rfl) rfl rfl rfl (Nat.le_of_ble_eq_true rfl) rfl (k_X6_namable (rfl : z_isT 3 = true) h2) ?_
  refine c_aload_n rfl rfl ?_
  refine c_getR rfl fk_X7_35 rfl (Nat.le_of_ble_eq_true rfl) rfl ?_
  refine c_getR rfl fk_X7_138 rfl (Nat.le_of_ble_eq_true rfl) rfl ?_
  refine c_iload_n rfl rfl ?_
  obtain ⟨q4, h⟩ := zk_ck_e h
  refine e_iald rfl rfl (Nat.le_of_ble_eq_true rfl) q4 rfl ?_
  refine c_iconst rfl vi_m1 ?_
  refine c_ixor rfl ?_
  refine c_iand rfl ?_
  have h := zk_r1 h
  subst h
  exact c_ireturn rfl rfl rfl
def f_X7_book (I : zk_I) (a1 : Int32) (a2 : Int32) : Option (Int32) := zk_lt (f_X6_hasBook I 3 a1) (fun (r2 : Int32) =>
  (if r2 = 0 then (
   some (-2 : Int32)) else (
   (if a2 = (0 : Int32) then (
    zk_ck (zk_in a1 4) (
     some (I 17 a1.toNatClampNeg))) else if a2 = (1 : Int32) then (
    zk_ck (zk_in a1 4) (
     some (I 18 a1.toNatClampNeg))) else if a2 = (2 : Int32) then (
    zk_ck (zk_in a1 4) (
     some ((I 16 0) - (I 19 a1.toNatClampNeg)))) else if a2 = (3 : Int32) then (
    zk_bd1 (f_X7_namableNow I a1) (fun (r9 : Int32) =>
     (if r9 = 0 then (
      some (1 : Int32)) else (
      some (0 : Int32))))) else if a2 = (4 : Int32) then (
    zk_ck (zk_in a1 4) (
     some (I 8 a1.toNatClampNeg))) else (
    some (-3 : Int32))))))
set_option maxRecDepth 20000 in
theorem k_X7_book {X : zk_X} {I : zk_I} {J : zk_J} {a1 : Int32} {a2 : Int32} {r : Int32} (h : f_X7_book I a1 a2 = some r) : zC X 6 m_X7_book 0 (zk_ent [.ref 0, .int a1, .int a2] 3) [] (z_Z, I, J) 0 0 (some (.int r)) (z_Z, I, J) := by
  unfold f_X7_book at h
  refine c_ent (L2 := [some (.ref 0), some (.int a1), some (.int a2)]) rfl ?_
  refine c_aload_n rfl rfl ?_
  refine c_getR rfl fk_X7_19 rfl (Nat.le_of_ble_eq_true rfl) rfl ?_
  refine c_iload_n rfl rfl ?_
  obtain ⟨r2, h1, h⟩ := zk_lt_g h
  refine e_callV (As := [.int a1]) (st := []) rfl lk_X7_132 rfl (Nat.le_of_ble_eq_true rfl) rfl rfl rfl (Nat.le_of_ble_eq_true rfl) rfl (k_X6_hasBook (rfl : z_isT 3 = true) h1.symm) ?_
  refine c_if_ne rfl (fun q3 => ?_) (fun q3 => ?_)
  · rw [if_neg q3] at h
    refine c_iload_n rfl rfl ?_
    by_cases q4_0 : a2 = (0 : Int32)
    · rw [if_pos q4_0] at h
      refine c_topi q4_0.symm ?_
      refine c_swIn (off := 33) (tgt := 48) rfl (by decide) (by decide) (by decide +kernel) (by decide) ?_
      refine c_aload_n rfl rfl ?_
      refine c_getR rfl fk_X7_35 rfl (Nat.le_of_ble_eq_true rfl) rfl ?_
      refine c_getR rfl fk_X7_135 rfl (Nat.le_of_ble_eq_true rfl) rfl ?_
      refine c_iload_n rfl rfl ?_
      obtain ⟨q5, h⟩ := zk_ck_e h
      refine e_iald rfl rfl (Nat.le_of_ble_eq_true rfl) q5 rfl ?_
      have h := zk_r1 h
      subst h
      exact c_ireturn rfl rfl rfl
    · rw [if_neg q4_0] at h
      by_cases q4_1 : a2 = (1 : Int32)
      · rw [if_pos q4_1] at h
        refine c_topi q4_1.symm ?_
        refine c_swIn (off := 43) (tgt := 58) rfl (by decide) (by decide) (by decide +kernel) (by decide) ?_
        refine c_aload_n rfl rfl ?_
        refine c_getR rfl fk_X7_35 rfl (Nat.le_of_ble_eq_true rfl) rfl ?_
        refine c_getR rfl fk_X7_138 rfl (Nat.le_of_ble_eq_true rfl) rfl ?_
        refine c_iload_n rfl rfl ?_
        obtain ⟨q6, h⟩ := zk_ck_e h
        refine e_iald rfl rfl (Nat.le_of_ble_eq_true rfl) q6 rfl ?_
        have h := zk_r1 h
        subst h
        exact c_ireturn rfl rfl rfl
      · rw [if_neg q4_1] at h
        by_cases q4_2 : a2 = (2 : Int32)
        · rw [if_pos q4_2] at h
          refine c_topi q4_2.symm ?_
          refine c_swIn (off := 53) (tgt := 68) rfl (by decide) (by decide) (by decide +kernel) (by decide) ?_
          refine c_aload_n rfl rfl ?_
          refine c_getR rfl fk_X7_35 rfl (Nat.le_of_ble_eq_true rfl) rfl ?_
          refine c_getI rfl fk_X7_141 rfl (Nat.le_of_ble_eq_true rfl) ?_
          refine c_aload_n rfl rfl ?_
          refine c_getR rfl fk_X7_35 rfl (Nat.le_of_ble_eq_true rfl) rfl ?_
          refine c_getR rfl fk_X7_144 rfl (Nat.le_of_ble_eq_true rfl) rfl ?_
          refine c_iload_n rfl rfl ?_
          obtain ⟨q7, h⟩ := zk_ck_e h
          refine e_iald rfl rfl (Nat.le_of_ble_eq_true rfl) q7 rfl ?_
          refine c_isub rfl ?_
          have h := zk_r1 h
          subst h
          exact c_ireturn rfl rfl rfl
        · rw [if_neg q4_2] at h
          by_cases q4_3 : a2 = (3 : Int32)
          · rw [if_pos q4_3] at h
            refine c_topi q4_3.symm ?_
            refine c_swIn (off := 71) (tgt := 86) rfl (by decide) (by decide) (by decide +kernel) (by decide) ?_
            refine c_aload_n rfl rfl ?_
            refine c_iload_n rfl rfl ?_
            obtain ⟨r9, h8, h⟩ := zk_bd1_e h
            refine e_callV (As := [.int a1]) (st := []) rfl lk_X7_147 rfl (Nat.le_of_ble_eq_true rfl) rfl rfl rfl (Nat.le_of_ble_eq_true rfl) rfl (k_X7_namableNow h8) ?_
            refine c_if_ne rfl (fun q10 => ?_) (fun q10 => ?_)
            · rw [if_neg q10] at h
              refine c_iconst rfl vi_0 ?_
              have h := zk_r1 h
              subst h
              exact c_ireturn rfl rfl rfl
            · rw [if_pos q10] at h
              refine c_iconst rfl vi_1 ?_
              refine c_goto rfl ?_
              have h := zk_r1 h
              subst h
              exact c_ireturn rfl rfl rfl
          · rw [if_neg q4_3] at h
            by_cases q4_4 : a2 = (4 : Int32)
            · rw [if_pos q4_4] at h
              refine c_topi q4_4.symm ?_
              refine c_swIn (off := 85) (tgt := 100) rfl (by decide) (by decide) (by decide +kernel) (by decide) ?_
              refine c_aload_n rfl rfl ?_
              refine c_getR rfl fk_X7_19 rfl (Nat.le_of_ble_eq_true rfl) rfl ?_
              refine c_getR rfl fk_X7_150 rfl (Nat.le_of_ble_eq_true rfl) rfl ?_
              refine c_iload_n rfl rfl ?_
              obtain ⟨q11, h⟩ := zk_ck_e h
              refine e_iald rfl rfl (Nat.le_of_ble_eq_true rfl) q11 rfl ?_
              have h := zk_r1 h
              subst h
              exact c_ireturn rfl rfl rfl
            · rw [if_neg q4_4] at h
              refine c_swOut (tgt := 110) rfl (by
                have := lv_neT (a := 0) q4_0 (by decide)
                have := lv_neT (a := 1) q4_1 (by decide)
                have := lv_neT (a := 2) q4_2 (by decide)
                have := lv_neT (a := 3) q4_3 (by decide)
                have := lv_neT (a := 4) q4_4 (by decide)
                omega) (by decide) ?_
              refine c_bipush rfl vb_m3 ?_
              have h := zk_r1 h
              subst h
              exact c_ireturn rfl rfl rfl
  · rw [if_pos q3] at h
    refine c_bipush rfl vb_m2 ?_
    have h := zk_r1 h
    subst h
    exact c_ireturn rfl rfl rfl
def f_X7_as (I : zk_I) (a1 : Int32) (a2 : Int32) : Option (Int32) := zk_lt (f_X6_hasReader I 3 a1) (fun (r2 : Int32) =>
  (if r2 = 0 then (
   some (-2 : Int32)) else (
   (if a2 < 0 then (
    some (-3 : Int32)) else (
    (if a2 < (5 : Int32) then (
     zk_ck (zk_in a1 8) (
      zk_ck (zk_in (I 4 a1.toNatClampNeg) 4) (
       zk_lt (f_X7_hasBit (zk_wh (I 4 a1.toNatClampNeg).toNatClampNeg) a2) (fun (r9 : Int32) =>
        (if r9 = 0 then (
         some (-4 : Int32)) else (
         zk_bd1 (f_X6_namable I 3 a1 (I 16 0)) (fun (r12 : Int32) =>
          some r12))))))) else (
     some (-3 : Int32))))))))
set_option maxRecDepth 20000 in
theorem k_X7_as {X : zk_X} {I : zk_I} {J : zk_J} {a1 : Int32} {a2 : Int32} {r : Int32} (h : f_X7_as I a1 a2 = some r) : zC X 5 m_X7_as 0 (zk_ent [.ref 0, .int a1, .int a2] 3) [] (z_Z, I, J) 0 0 (some (.int r)) (z_Z, I, J) := by
  unfold f_X7_as at h
  refine c_ent (L2 := [some (.ref 0), some (.int a1), some (.int a2)]) rfl ?_
  refine c_aload_n rfl rfl ?_
  refine c_getR rfl fk_X7_19 rfl (Nat.le_of_ble_eq_true rfl) rfl ?_
  refine c_iload_n rfl rfl ?_
  obtain ⟨r2, h1, h⟩ := zk_lt_g h
  refine e_callV (As := [.int a1]) (st := []) rfl lk_X7_109 rfl (Nat.le_of_ble_eq_true rfl) rfl rfl rfl (Nat.le_of_ble_eq_true rfl) rfl (k_X6_hasReader (rfl : z_isT 3 = true) h1.symm) ?_
  refine c_if_ne rfl (fun q3 => ?_) (fun q3 => ?_)
  · rw [if_neg q3] at h
    refine c_iload_n rfl rfl ?_
    refine c_if_lt rfl (fun q4 => ?_) (fun q4 => ?_)
    · rw [if_pos q4] at h
      refine c_bipush rfl vb_m3 ?_
      have h := zk_r1 h
      subst h
      exact c_ireturn rfl rfl rfl
    · rw [if_neg q4] at h
      refine c_iload_n rfl rfl ?_
      refine c_iconst rfl vi_5 ?_
      refine c_icmp_lt rfl (fun q5 => ?_) (fun q5 => ?_)
      · rw [if_pos q5] at h
        refine c_getsWH rfl fk_X7_153 ?_
        refine c_aload_n rfl rfl ?_
        refine c_getR rfl fk_X7_19 rfl (Nat.le_of_ble_eq_true rfl) rfl ?_
        refine c_getR rfl fk_X7_113 rfl (Nat.le_of_ble_eq_true rfl) rfl ?_
        refine c_iload_n rfl rfl ?_
        obtain ⟨q6, h⟩ := zk_ck_e h
        refine e_iald rfl rfl (Nat.le_of_ble_eq_true rfl) q6 rfl ?_
        obtain ⟨q7, h⟩ := zk_ck_e h
        refine c_ialdWH rfl q7 ?_
        refine c_iload_n rfl rfl ?_
        obtain ⟨r9, h8, h⟩ := zk_lt_g h
        refine e_callS (As := [.int (zk_wh (I 4 a1.toNatClampNeg).toNatClampNeg), .int a2]) (st := []) rfl lk_X7_156 rfl rfl rfl (Nat.le_of_ble_eq_true rfl) rfl (k_X7_hasBit h8.symm) ?_
        refine c_if_eq rfl (fun q10 => ?_) (fun q10 => ?_)
        · rw [if_pos q10] at h
          refine c_bipush rfl vb_m4 ?_
          have h := zk_r1 h
          subst h
          exact c_ireturn rfl rfl rfl
        · rw [if_neg q10] at h
          refine c_aload_n rfl rfl ?_
          refine c_getR rfl fk_X7_19 rfl (Nat.le_of_ble_eq_true rfl) rfl ?_
          refine c_iload_n rfl rfl ?_
          refine c_aload_n rfl rfl ?_
          refine c_getR rfl fk_X7_35 rfl (Nat.le_of_ble_eq_true rfl) rfl ?_
          refine c_getI rfl fk_X7_141 rfl (Nat.le_of_ble_eq_true rfl) ?_
          obtain ⟨r12, h11, h⟩ := zk_bd1_e h
          refine e_callV (As := [.int a1, .int (I 16 0)]) (st := []) rfl lk_X7_160 rfl (Nat.le_of_ble_eq_true rfl) rfl rfl rfl (Nat.le_of_ble_eq_true rfl) rfl (k_X6_namable (rfl : z_isT 3 = true) h11) ?_
          refine c_goto rfl ?_
          have h := zk_r1 h
          subst h
          exact c_ireturn rfl rfl rfl
      · rw [if_neg q5] at h
        refine c_bipush rfl vb_m3 ?_
        have h := zk_r1 h
        subst h
        exact c_ireturn rfl rfl rfl
  · rw [if_pos q3] at h
    refine c_bipush rfl vb_m2 ?_
    have h := zk_r1 h
    subst h
    exact c_ireturn rfl rfl rfl
def f_X7_may (I : zk_I) (a1 : Int32) (a2 : Int32) : Option (Int32) := zk_lt (f_X6_hasBook I 3 a1) (fun (r2 : Int32) =>
  (if r2 = 0 then (
   some (-2 : Int32)) else (
   zk_lt (f_X6_hasReader I 3 a2) (fun (r5 : Int32) =>
    (if r5 = 0 then (
     some (-2 : Int32)) else (
     zk_bd1 (f_X7_namableNow I a1) (fun (r8 : Int32) =>
      zk_lt (f_X7_hasBit r8 a2) (fun (r10 : Int32) =>
       (if r10 = 0 then (
        some (0 : Int32)) else (
        some (1 : Int32)))))))))))
set_option maxRecDepth 20000 in
theorem k_X7_may {X : zk_X} {I : zk_I} {J : zk_J} {a1 : Int32} {a2 : Int32} {r : Int32} (h : f_X7_may I a1 a2 = some r) : zC X 6 m_X7_may 0 (zk_ent [.ref 0, .int a1, .int a2] 3) [] (z_Z, I, J) 0 0 (some (.int r)) (z_Z, I, J) := by
  unfold f_X7_may at h
  refine c_ent (L2 := [some (.ref 0), some (.int a1), some (.int a2)]) rfl ?_
  refine c_aload_n rfl rfl ?_
  refine c_getR rfl fk_X7_19 rfl (Nat.le_of_ble_eq_true rfl) rfl ?_
  refine c_iload_n rfl rfl ?_
  obtain ⟨r2, h1, h⟩ := zk_lt_g h
  refine e_callV (As := [.int a1]) (st := []) rfl lk_X7_132 rfl (Nat.le_of_ble_eq_true rfl) rfl rfl rfl (Nat.le_of_ble_eq_true rfl) rfl (k_X6_hasBook (rfl : z_isT 3 = true) h1.symm) ?_
  refine c_if_eq rfl (fun q3 => ?_) (fun q3 => ?_)
  · rw [if_pos q3] at h
    refine c_bipush rfl vb_m2 ?_
    have h := zk_r1 h
    subst h
    exact c_ireturn rfl rfl rfl
  · rw [if_neg q3] at h
    refine c_aload_n rfl rfl ?_
    refine c_getR rfl fk_X7_19 rfl (Nat.le_of_ble_eq_true rfl) rfl ?_
    refine c_iload_n rfl rfl ?_
    obtain ⟨r5, h4, h⟩ := zk_lt_g h
    refine e_callV (As := [.int a2]) (st := []) rfl lk_X7_109 rfl (Nat.le_of_ble_eq_true rfl) rfl rfl rfl (Nat.le_of_ble_eq_true rfl) rfl (k_X6_hasReader (rfl : z_isT 3 = true) h4.symm) ?_
    refine c_if_ne rfl (fun q6 => ?_) (fun q6 => ?_)
    · rw [if_neg q6] at h
      refine c_aload_n rfl rfl ?_
      refine c_iload_n rfl rfl ?_
      obtain ⟨r8, h7, h⟩ := zk_bd1_e h
      refine e_callV (As := [.int a1]) (st := []) rfl lk_X7_147 rfl (Nat.le_of_ble_eq_true rfl) rfl rfl rfl (Nat.le_of_ble_eq_true rfl) rfl (k_X7_namableNow h7) ?_
      refine c_iload_n rfl rfl ?_
      obtain ⟨r10, h9, h⟩ := zk_lt_g h
      refine e_callS (As := [.int r8, .int a2]) (st := []) rfl lk_X7_156 rfl rfl rfl (Nat.le_of_ble_eq_true rfl) rfl (k_X7_hasBit h9.symm) ?_
      refine c_if_eq rfl (fun q11 => ?_) (fun q11 => ?_)
      · rw [if_pos q11] at h
        refine c_iconst rfl vi_0 ?_
        have h := zk_r1 h
        subst h
        exact c_ireturn rfl rfl rfl
      · rw [if_neg q11] at h
        refine c_iconst rfl vi_1 ?_
        refine c_goto rfl ?_
        have h := zk_r1 h
        subst h
        exact c_ireturn rfl rfl rfl
    · rw [if_pos q6] at h
      refine c_bipush rfl vb_m2 ?_
      have h := zk_r1 h
      subst h
      exact c_ireturn rfl rfl rfl
def f_X7_name (I : zk_I) (a1 : Int32) (a2 : Int32) : Option (Int32 × zk_I) := zk_lt (f_X6_hasBook I 3 a1) (fun (r2 : Int32) =>
  (if r2 = 0 then (
   some ((-2 : Int32), I)) else (
   zk_lt (f_X6_hasReader I 3 a2) (fun (r5 : Int32) =>
    (if r5 = 0 then (
     some ((-2 : Int32), I)) else (
     zk_bd1 (f_X7_namableNow I a1) (fun (r8 : Int32) =>
      zk_lt (f_X7_hasBit r8 a2) (fun (r10 : Int32) =>
       (if r10 = 0 then (
        some ((-4 : Int32), I)) else (
        (if (I 16 0) < (999 : Int32) then (
         zk_bd1 (f_X2_remember I) (fun (I14 : zk_I) =>
          zk_bd1 (f_X1_passOn I14 16 a1 a2) (fun (I16 : zk_I) =>
           zk_ck (zk_in a1 4) (
            zk_lt (f_J6_bitCount_0f7a4 (I16 18 a1.toNatClampNeg)) (fun (r19 : Int32) =>
             some (r19, I16)))))) else (
         some ((-5 : Int32), I)))))))))))))
set_option maxRecDepth 20000 in
theorem k_X7_name {X : zk_X} {I : zk_I} {J : zk_J} {a1 : Int32} {a2 : Int32} {r : Int32} {IR : zk_I} (h : f_X7_name I a1 a2 = some (r, IR)) : zC X 6 m_X7_name 0 (zk_ent [.ref 0, .int a1, .int a2] 3) [] (z_Z, I, J) 0 0 (some (.int r)) (z_Z, IR, J) := by
  unfold f_X7_name at h
  refine c_ent (L2 := [some (.ref 0), some (.int a1), some (.int a2)]) rfl ?_
  refine c_aload_n rfl rfl ?_
  refine c_getR rfl fk_X7_19 rfl (Nat.le_of_ble_eq_true rfl) rfl ?_
  refine c_iload_n rfl rfl ?_
  obtain ⟨r2, h1, h⟩ := zk_lt_g h
  refine e_callV (As := [.int a1]) (st := []) rfl lk_X7_132 rfl (Nat.le_of_ble_eq_true rfl) rfl rfl rfl (Nat.le_of_ble_eq_true rfl) rfl (k_X6_hasBook (rfl : z_isT 3 = true) h1.symm) ?_
  refine c_if_eq rfl (fun q3 => ?_) (fun q3 => ?_)
  · rw [if_pos q3] at h
    refine c_bipush rfl vb_m2 ?_
    obtain ⟨rfl, rfl⟩ := zk_r2 h
    exact c_ireturn rfl rfl rfl
  · rw [if_neg q3] at h
    refine c_aload_n rfl rfl ?_
    refine c_getR rfl fk_X7_19 rfl (Nat.le_of_ble_eq_true rfl) rfl ?_
    refine c_iload_n rfl rfl ?_
    obtain ⟨r5, h4, h⟩ := zk_lt_g h
    refine e_callV (As := [.int a2]) (st := []) rfl lk_X7_109 rfl (Nat.le_of_ble_eq_true rfl) rfl rfl rfl (Nat.le_of_ble_eq_true rfl) rfl (k_X6_hasReader (rfl : z_isT 3 = true) h4.symm) ?_
    refine c_if_ne rfl (fun q6 => ?_) (fun q6 => ?_)
    · rw [if_neg q6] at h
      refine c_aload_n rfl rfl ?_
      refine c_iload_n rfl rfl ?_
      obtain ⟨r8, h7, h⟩ := zk_bd1_e h
      refine e_callV (As := [.int a1]) (st := []) rfl lk_X7_147 rfl (Nat.le_of_ble_eq_true rfl) rfl rfl rfl (Nat.le_of_ble_eq_true rfl) rfl (k_X7_namableNow h7) ?_
      refine c_iload_n rfl rfl ?_
      obtain ⟨r10, h9, h⟩ := zk_lt_g h
      refine e_callS (As := [.int r8, .int a2]) (st := []) rfl lk_X7_156 rfl rfl rfl (Nat.le_of_ble_eq_true rfl) rfl (k_X7_hasBit h9.symm) ?_
      refine c_if_ne rfl (fun q11 => ?_) (fun q11 => ?_)
      · rw [if_neg q11] at h
        refine c_aload_n rfl rfl ?_
        refine c_getR rfl fk_X7_35 rfl (Nat.le_of_ble_eq_true rfl) rfl ?_
        refine c_getI rfl fk_X7_141 rfl (Nat.le_of_ble_eq_true rfl) ?_
        refine c_sipush rfl vs_999 ?_
        refine c_icmp_lt rfl (fun q12 => ?_) (fun q12 => ?_)
        · rw [if_pos q12] at h
          refine c_aload_n rfl rfl ?_
          refine c_getR rfl fk_X7_42 rfl (Nat.le_of_ble_eq_true rfl) rfl ?_
          refine c_aload_n rfl rfl ?_
          refine c_getR rfl fk_X7_35 rfl (Nat.le_of_ble_eq_true rfl) rfl ?_
          obtain ⟨I14, h13, h⟩ := zk_bd1_e h
          refine e_callV (As := [.ref 16]) (st := []) rfl lk_X7_164 rfl (Nat.le_of_ble_eq_true rfl) rfl rfl rfl (Nat.le_of_ble_eq_true rfl) rfl (k_X2_remember h13) ?_
          refine c_aload_n rfl rfl ?_
          refine c_getR rfl fk_X7_35 rfl (Nat.le_of_ble_eq_true rfl) rfl ?_
          refine c_iload_n rfl rfl ?_
          refine c_iload_n rfl rfl ?_
          obtain ⟨I16, h15, h⟩ := zk_bd1_e h
          refine e_callV (As := [.int a1, .int a2]) (st := []) rfl lk_X7_168 rfl (Nat.le_of_ble_eq_true rfl) rfl rfl rfl (Nat.le_of_ble_eq_true rfl) rfl (k_X1_passOn (rfl : z_isD 16 = true) h15) ?_
          refine c_aload_n rfl rfl ?_
          refine c_getR rfl fk_X7_35 rfl (Nat.le_of_ble_eq_true rfl) rfl ?_
          refine c_getR rfl fk_X7_138 rfl (Nat.le_of_ble_eq_true rfl) rfl ?_
          refine c_iload_n rfl rfl ?_
          obtain ⟨q17, h⟩ := zk_ck_e h
          refine e_iald rfl rfl (Nat.le_of_ble_eq_true rfl) q17 rfl ?_
          obtain ⟨r19, h18, h⟩ := zk_lt_g h
          refine e_callS (As := [.int (I16 18 a1.toNatClampNeg)]) (st := []) rfl lk_X7_172 rfl rfl rfl (Nat.le_of_ble_eq_true rfl) rfl (k_J6_bitCount_0f7a4 h18.symm) ?_
          obtain ⟨rfl, rfl⟩ := zk_r2 h
          exact c_ireturn rfl rfl rfl
        · rw [if_neg q12] at h
          refine c_bipush rfl vb_m5 ?_
          obtain ⟨rfl, rfl⟩ := zk_r2 h
          exact c_ireturn rfl rfl rfl
      · rw [if_pos q11] at h
        refine c_bipush rfl vb_m4 ?_
        obtain ⟨rfl, rfl⟩ := zk_r2 h
        exact c_ireturn rfl rfl rfl
    · rw [if_pos q6] at h
      refine c_bipush rfl vb_m2 ?_
      obtain ⟨rfl, rfl⟩ := zk_r2 h
      exact c_ireturn rfl rfl rfl
def f_X7_day (I : zk_I) : Option (Int32 × zk_I) := (if (I 16 0) < (999 : Int32) then (
  zk_bd1 (f_X2_remember I) (fun (I3 : zk_I) =>
   zk_lt (zk_sc I3 16 (upd (I3 16) 0 ((I3 16 0) + (1 : Int32)))) (fun (I4 : zk_I) =>
    some ((I4 16 0), I4)))) else (
  some ((-5 : Int32), I)))
set_option maxRecDepth 20000 in
theorem k_X7_day {X : zk_X} {I : zk_I} {J : zk_J} {r : Int32} {IR : zk_I} (h : f_X7_day I = some (r, IR)) : zC X 3 m_X7_day 0 (zk_ent [.ref 0] 1) [] (z_Z, I, J) 0 0 (some (.int r)) (z_Z, IR, J) := by
  unfold f_X7_day at h
  refine c_ent (L2 := [some (.ref 0)]) rfl ?_
  refine c_aload_n rfl rfl ?_
  refine c_getR rfl fk_X7_35 rfl (Nat.le_of_ble_eq_true rfl) rfl ?_
  refine c_getI rfl fk_X7_141 rfl (Nat.le_of_ble_eq_true rfl) ?_
  refine c_sipush rfl vs_999 ?_
  refine c_icmp_lt rfl (fun q1 => ?_) (fun q1 => ?_)
  · rw [if_pos q1] at h
    refine c_aload_n rfl rfl ?_
    refine c_getR rfl fk_X7_42 rfl (Nat.le_of_ble_eq_true rfl) rfl ?_
    refine c_aload_n rfl rfl ?_
    refine c_getR rfl fk_X7_35 rfl (Nat.le_of_ble_eq_true rfl) rfl ?_
    obtain ⟨I3, h2, h⟩ := zk_bd1_e h
    refine e_callV (As := [.ref 16]) (st := []) rfl lk_X7_164 rfl (Nat.le_of_ble_eq_true rfl) rfl rfl rfl (Nat.le_of_ble_eq_true rfl) rfl (k_X2_remember h2) ?_
    refine c_aload_n rfl rfl ?_
    refine c_getR rfl fk_X7_35 rfl (Nat.le_of_ble_eq_true rfl) rfl ?_
    refine c_dup rfl rfl ?_
    refine c_getI rfl fk_X7_141 rfl (Nat.le_of_ble_eq_true rfl) ?_
    refine c_iconst rfl vi_1 ?_
    refine c_iadd rfl ?_
    refine c_putI rfl fk_X7_141 rfl rfl (Nat.le_of_ble_eq_true rfl) ?_
    obtain ⟨I4, hI4, h⟩ := zk_lt_g h
    refine c_memI hI4 ?_
    refine c_aload_n rfl rfl ?_
    refine c_getR rfl fk_X7_35 rfl (Nat.le_of_ble_eq_true rfl) rfl ?_
    refine c_getI rfl fk_X7_141 rfl (Nat.le_of_ble_eq_true rfl) ?_
    obtain ⟨rfl, rfl⟩ := zk_r2 h
    exact c_ireturn rfl rfl rfl
  · rw [if_neg q1] at h
    refine c_bipush rfl vb_m5 ?_
    obtain ⟨rfl, rfl⟩ := zk_r2 h
    exact c_ireturn rfl rfl rfl
def f_X7_undo (I : zk_I) : Option (Int32 × zk_I) := (if (I 20 0) = 0 then (
  some ((-4 : Int32), I)) else (
  zk_bd1 (f_X2_takeBack I) (fun (I3 : zk_I) =>
   some ((I3 20 0), I3))))
set_option maxRecDepth 20000 in
theorem k_X7_undo {X : zk_X} {I : zk_I} {J : zk_J} {r : Int32} {IR : zk_I} (h : f_X7_undo I = some (r, IR)) : zC X 3 m_X7_undo 0 (zk_ent [.ref 0] 1) [] (z_Z, I, J) 0 0 (some (.int r)) (z_Z, IR, J) := by
  unfold f_X7_undo at h
  refine c_ent (L2 := [some (.ref 0)]) rfl ?_
  refine c_aload_n rfl rfl ?_
  refine c_getR rfl fk_X7_42 rfl (Nat.le_of_ble_eq_true rfl) rfl ?_
  refine c_getI rfl fk_X7_177 rfl (Nat.le_of_ble_eq_true rfl) ?_
  refine c_if_ne rfl (fun q1 => ?_) (fun q1 => ?_)
  · rw [if_neg q1] at h
    refine c_aload_n rfl rfl ?_
    refine c_getR rfl fk_X7_42 rfl (Nat.le_of_ble_eq_true rfl) rfl ?_
    refine c_aload_n rfl rfl ?_
    refine c_getR rfl fk_X7_35 rfl (Nat.le_of_ble_eq_true rfl) rfl ?_
    obtain ⟨I3, h2, h⟩ := zk_bd1_e h
    refine e_callV (As := [.ref 16]) (st := []) rfl lk_X7_178 rfl (Nat.le_of_ble_eq_true rfl) rfl rfl rfl (Nat.le_of_ble_eq_true rfl) rfl (k_X2_takeBack h2) ?_
    refine c_aload_n rfl rfl ?_
    refine c_getR rfl fk_X7_42 rfl (Nat.le_of_ble_eq_true rfl) rfl ?_
    refine c_getI rfl fk_X7_177 rfl (Nat.le_of_ble_eq_true rfl) ?_
    obtain ⟨rfl, rfl⟩ := zk_r2 h
    exact c_ireturn rfl rfl rfl
  · rw [if_pos q1] at h
    refine c_bipush rfl vb_m4 ?_
    obtain ⟨rfl, rfl⟩ := zk_r2 h
    exact c_ireturn rfl rfl rfl
def f_X7_keep (I : zk_I) (a1 : Int32) : Option (Int32 × zk_I) := (if a1 < 0 then (
  some ((-2 : Int32), I)) else (
  (if a1 < (2 : Int32) then (
   zk_ck (zk_in a1 2) (
    zk_lt (f_X1_copyFrom I (55 + 4 * a1.toNatClampNeg) 16) (fun (I5 : zk_I) =>
     zk_lt (zk_sc I5 0 (upd (I5 0) 6 ((I5 0 6) ||| ((1 : Int32) <<< (a1 &&& 31))))) (fun (I6 : zk_I) =>
      some ((I6 16 0), I6))))) else (
   some ((-2 : Int32), I)))))
set_option maxRecDepth 20000 in
theorem k_X7_keep {X : zk_X} {I : zk_I} {J : zk_J} {a1 : Int32} {r : Int32} {IR : zk_I} (h : f_X7_keep I a1 = some (r, IR)) : zC X 2 m_X7_keep 0 (zk_ent [.ref 0, .int a1] 2) [] (z_Z, I, J) 0 0 (some (.int r)) (z_Z, IR, J) := by
  unfold f_X7_keep at h
  refine c_ent (L2 := [some (.ref 0), some (.int a1)]) rfl ?_
  refine c_iload_n rfl rfl ?_
  refine c_if_lt rfl (fun q1 => ?_) (fun q1 => ?_)
  · rw [if_pos q1] at h
    refine c_bipush rfl vb_m2 ?_
    obtain ⟨rfl, rfl⟩ := zk_r2 h
    exact c_ireturn rfl rfl rfl
  · rw [if_neg q1] at h
    refine c_iload_n rfl rfl ?_
    refine c_iconst rfl vi_2 ?_
    refine c_icmp_lt rfl (fun q2 => ?_) (fun q2 => ?_)
    · rw [if_pos q2] at h
      refine c_aload_n rfl rfl ?_
      refine c_getR rfl fk_X7_46 rfl (Nat.le_of_ble_eq_true rfl) rfl ?_
      refine c_iload_n rfl rfl ?_
      obtain ⟨q3, h⟩ := zk_ck_e h
      refine c_aald rfl rfl (Nat.le_of_ble_eq_true rfl) q3 (z_kept _ (z_in_lt q3)).1 ?_
      refine c_aload_n rfl rfl ?_
      refine c_getR rfl fk_X7_35 rfl (Nat.le_of_ble_eq_true rfl) rfl ?_
      obtain ⟨I5, h4, h⟩ := zk_lt_g h
      refine e_callV (As := [.ref 16]) (st := []) rfl lk_X7_181 (zD_S (z_kept _ (z_in_lt q3)).2) (zD_z (z_kept _ (z_in_lt q3)).2) rfl rfl rfl (Nat.le_of_ble_eq_true rfl) rfl (k_X1_copyFrom (z_kept _ (z_in_lt q3)).2 (rfl : z_isD 16 = true) h4.symm) ?_
      refine c_aload_n rfl rfl ?_
      refine c_dup rfl rfl ?_
      refine c_getI rfl fk_X7_100 rfl (Nat.le_of_ble_eq_true rfl) ?_
      refine c_iconst rfl vi_1 ?_
      refine c_iload_n rfl rfl ?_
      refine c_ishl rfl ?_
      refine c_ior rfl ?_
      refine c_putI rfl fk_X7_100 rfl rfl (Nat.le_of_ble_eq_true rfl) ?_
      obtain ⟨I6, hI6, h⟩ := zk_lt_g h
      refine c_memI hI6 ?_
      refine c_aload_n rfl rfl ?_
      refine c_getR rfl fk_X7_35 rfl (Nat.le_of_ble_eq_true rfl) rfl ?_
      refine c_getI rfl fk_X7_141 rfl (Nat.le_of_ble_eq_true rfl) ?_
      obtain ⟨rfl, rfl⟩ := zk_r2 h
      exact c_ireturn rfl rfl rfl
    · rw [if_neg q2] at h
      refine c_bipush rfl vb_m2 ?_
      obtain ⟨rfl, rfl⟩ := zk_r2 h
      exact c_ireturn rfl rfl rfl
def f_X7_back (I : zk_I) (a1 : Int32) : Option (Int32 × zk_I) := (if a1 < 0 then (
  some ((-2 : Int32), I)) else (
  (if a1 < (2 : Int32) then (
   zk_lt (f_X7_hasBit (I 0 6) a1) (fun (r4 : Int32) =>
    (if r4 = 0 then (
     some ((-4 : Int32), I)) else (
     zk_ck (zk_in a1 2) (
      zk_lt (f_X1_copyFrom I 16 (55 + 4 * a1.toNatClampNeg)) (fun (I8 : zk_I) =>
       zk_lt (f_X2_forget I8) (fun (I10 : zk_I) =>
        some ((I10 16 0), I10)))))))) else (
   some ((-2 : Int32), I)))))
set_option maxRecDepth 20000 in
theorem k_X7_back {X : zk_X} {I : zk_I} {J : zk_J} {a1 : Int32} {r : Int32} {IR : zk_I} (h : f_X7_back I a1 = some (r, IR)) : zC X 2 m_X7_back 0 (zk_ent [.ref 0, .int a1] 2) [] (z_Z, I, J) 0 0 (some (.int r)) (z_Z, IR, J) := by
  unfold f_X7_back at h
  refine c_ent (L2 := [some (.ref 0), some (.int a1)]) rfl ?_
  refine c_iload_n rfl rfl ?_
  refine c_if_lt rfl (fun q1 => ?_) (fun q1 => ?_)
  · rw [if_pos q1] at h
    refine c_bipush rfl vb_m2 ?_
    obtain ⟨rfl, rfl⟩ := zk_r2 h
    exact c_ireturn rfl rfl rfl
  · rw [if_neg q1] at h
    refine c_iload_n rfl rfl ?_
    refine c_iconst rfl vi_2 ?_
    refine c_icmp_lt rfl (fun q2 => ?_) (fun q2 => ?_)
    · rw [if_pos q2] at h
      refine c_aload_n rfl rfl ?_
      refine c_getI rfl fk_X7_100 rfl (Nat.le_of_ble_eq_true rfl) ?_
      refine c_iload_n rfl rfl ?_
      obtain ⟨r4, h3, h⟩ := zk_lt_g h
      refine e_callS (As := [.int (I 0 6), .int a1]) (st := []) rfl lk_X7_156 rfl rfl rfl (Nat.le_of_ble_eq_true rfl) rfl (k_X7_hasBit h3.symm) ?_
      refine c_if_ne rfl (fun q5 => ?_) (fun q5 => ?_)
      · rw [if_neg q5] at h
        refine c_aload_n rfl rfl ?_
        refine c_getR rfl fk_X7_35 rfl (Nat.le_of_ble_eq_true rfl) rfl ?_
        refine c_aload_n rfl rfl ?_
        refine c_getR rfl fk_X7_46 rfl (Nat.le_of_ble_eq_true rfl) rfl ?_
        refine c_iload_n rfl rfl ?_
        obtain ⟨q6, h⟩ := zk_ck_e h
        refine c_aald rfl rfl (Nat.le_of_ble_eq_true rfl) q6 (z_kept _ (z_in_lt q6)).1 ?_
        obtain ⟨I8, h7, h⟩ := zk_lt_g h
        refine e_callV (As := [.ref (55 + 4 * a1.toNatClampNeg)]) (st := []) rfl lk_X7_181 rfl (Nat.le_of_ble_eq_true rfl) rfl rfl rfl (Nat.le_of_ble_eq_true rfl) rfl (k_X1_copyFrom (rfl : z_isD 16 = true) (z_kept _ (z_in_lt q6)).2 h7.symm) ?_
        refine c_aload_n rfl rfl ?_
        refine c_getR rfl fk_X7_42 rfl (Nat.le_of_ble_eq_true rfl) rfl ?_
        obtain ⟨I10, h9, h⟩ := zk_lt_g h
        refine e_callV (As := []) (st := []) rfl lk_X7_97 rfl (Nat.le_of_ble_eq_true rfl) rfl rfl rfl (Nat.le_of_ble_eq_true rfl) rfl (k_X2_forget h9.symm) ?_
        refine c_aload_n rfl rfl ?_
        refine c_getR rfl fk_X7_35 rfl (Nat.le_of_ble_eq_true rfl) rfl ?_
        refine c_getI rfl fk_X7_141 rfl (Nat.le_of_ble_eq_true rfl) ?_
        obtain ⟨rfl, rfl⟩ := zk_r2 h
        exact c_ireturn rfl rfl rfl
      · rw [if_pos q5] at h
        refine c_bipush rfl vb_m4 ?_
        obtain ⟨rfl, rfl⟩ := zk_r2 h
        exact c_ireturn rfl rfl rfl
    · rw [if_neg q2] at h
      refine c_bipush rfl vb_m2 ?_
      obtain ⟨rfl, rfl⟩ := zk_r2 h
      exact c_ireturn rfl rfl rfl
def f_X7_longest (I : zk_I) (J : zk_J) (a1 : Int32) (a2 : Int32) : Option (Int32 × zk_I × zk_J) := zk_lt (f_X6_hasBook I 3 a1) (fun (r2 : Int32) =>
  (if r2 = 0 then (
   some ((-2 : Int32), I, J)) else (
   zk_jp0 (zk_lt ((if a2 = 0 then (0 : Int32) else (1 : Int32))) (fun (v7 : Int32) =>
     zk_bd3 (f_X3_foretell I J a1 v7) (fun (r10 : Int64) (I11 : zk_I) (J12 : zk_J) =>
      some (r10.toInt32, I11, J12)))) (fun (K5 : Option (Int32 × zk_I × zk_J)) =>
    (if a2 = 0 then (
     K5) else (
     (if a2 = (1 : Int32) then (
      K5) else (
      some ((-3 : Int32), I, J)))))))))
set_option maxRecDepth 20000 in
theorem k_X7_longest {X : zk_X} {I : zk_I} {J : zk_J} {a1 : Int32} {a2 : Int32} {r : Int32} {IR : zk_I} {JR : zk_J} (h : f_X7_longest I J a1 a2 = some (r, IR, JR)) : zC X 7 m_X7_longest 0 (zk_ent [.ref 0, .int a1, .int a2] 3) [] (z_Z, I, J) 0 0 (some (.int r)) (z_Z, IR, JR) := by
  unfold f_X7_longest at h
  refine c_ent (L2 := [some (.ref 0), some (.int a1), some (.int a2)]) rfl ?_
  refine c_aload_n rfl rfl ?_
  refine c_getR rfl fk_X7_19 rfl (Nat.le_of_ble_eq_true rfl) rfl ?_
  refine c_iload_n rfl rfl ?_
  obtain ⟨r2, h1, h⟩ := zk_lt_g h
  refine e_callV (As := [.int a1]) (st := []) rfl lk_X7_132 rfl (Nat.le_of_ble_eq_true rfl) rfl rfl rfl (Nat.le_of_ble_eq_true rfl) rfl (k_X6_hasBook (rfl : z_isT 3 = true) h1.symm) ?_
  refine c_if_ne rfl (fun q3 => ?_) (fun q3 => ?_)
  · rw [if_neg q3] at h
    refine c_iload_n rfl rfl ?_
    refine zk_jp0_e (Z := zC X 7 m_X7_longest 26 [some (.ref 0), some (.int a1), some (.int a2)] [] (z_Z, I, J) 0 0 (some (.int r)) (z_Z, IR, JR)) h (fun h => ?_) (fun K5 jK5 h => ?_)
    · refine c_aload_n rfl rfl ?_
      refine c_getR rfl fk_X7_55 rfl (Nat.le_of_ble_eq_true rfl) rfl ?_
      refine c_aload_n rfl rfl ?_
      refine c_getR rfl fk_X7_35 rfl (Nat.le_of_ble_eq_true rfl) rfl ?_
      refine c_iload_n rfl rfl ?_
      refine c_iload_n rfl rfl ?_
      refine zk_lt1K (Z := fun (v7 : Int32) => zC X 7 m_X7_longest 44 [none, none, none] [.int v7, .int a1, .ref 16, .ref 63] (z_Z, I, J) 0 0 (some (.int r)) (z_Z, IR, JR)) h (fun v7 h => ?_) (fun hz => ?_)
      · obtain ⟨r10, I11, J12, h9, h⟩ := zk_bd3_e h
        refine e_callV (As := [.ref 16, .int a1, .int v7]) (st := []) rfl lk_X7_183 rfl (Nat.le_of_ble_eq_true rfl) rfl rfl rfl (Nat.le_of_ble_eq_true rfl) rfl (k_X3_foretell h9) ?_
        refine c_l2i rfl ?_
        obtain ⟨rfl, rfl, rfl⟩ := zk_r3 h
        exact c_ireturn rfl rfl rfl
      · refine c_if_ne rfl (fun q6 => ?_) (fun q6 => ?_)
        · refine c_iconst rfl vi_1 ?_
          refine c_drop [false, false, false] (L2 := [none, none, none]) rfl ?_
          rw [if_neg q6] at hz
          exact hz
        · refine c_iconst rfl vi_0 ?_
          refine c_goto rfl ?_
          refine c_drop [false, false, false] (L2 := [none, none, none]) rfl ?_
          rw [if_pos q6] at hz
          exact hz
    · refine c_if_eq rfl (fun q4 => ?_) (fun q4 => ?_)
      · rw [if_pos q4] at h
        exact jK5 h
      · rw [if_neg q4] at h
        refine c_iload_n rfl rfl ?_
        refine c_iconst rfl vi_1 ?_
        refine c_icmp_eq rfl (fun q13 => ?_) (fun q13 => ?_)
        · rw [if_pos q13] at h
          exact jK5 h
        · rw [if_neg q13] at h
          refine c_bipush rfl vb_m3 ?_
          obtain ⟨rfl, rfl, rfl⟩ := zk_r3 h
          exact c_ireturn rfl rfl rfl
  · rw [if_pos q3] at h
    refine c_bipush rfl vb_m2 ?_
    obtain ⟨rfl, rfl, rfl⟩ := zk_r3 h
    exact c_ireturn rfl rfl rfl
def f_X7_row (I : zk_I) (J : zk_J) (a1 : Int32) (a2 : Int32) : Option (Int32 × zk_I × zk_J) := zk_lt (f_X6_hasBook I 3 a1) (fun (r2 : Int32) =>
  (if r2 = 0 then (
   some ((-2 : Int32), I, J)) else (
   (if 0 ≤ a2 then (
    zk_bd3 (f_X3_readerOfFirstRow I J a1 a2) (fun (r6 : Int32) (I7 : zk_I) (J8 : zk_J) =>
     some (r6, I7, J8))) else (
    some ((-3 : Int32), I, J))))))
set_option maxRecDepth 20000 in
theorem k_X7_row {X : zk_X} {I : zk_I} {J : zk_J} {a1 : Int32} {a2 : Int32} {r : Int32} {IR : zk_I} {JR : zk_J} (h : f_X7_row I J a1 a2 = some (r, IR, JR)) : zC X 7 m_X7_row 0 (zk_ent [.ref 0, .int a1, .int a2] 3) [] (z_Z, I, J) 0 0 (some (.int r)) (z_Z, IR, JR) := by
  unfold f_X7_row at h
  refine c_ent (L2 := [some (.ref 0), some (.int a1), some (.int a2)]) rfl ?_
  refine c_aload_n rfl rfl ?_
  refine c_getR rfl fk_X7_19 rfl (Nat.le_of_ble_eq_true rfl) rfl ?_
  refine c_iload_n rfl rfl ?_
  obtain ⟨r2, h1, h⟩ := zk_lt_g h
  refine e_callV (As := [.int a1]) (st := []) rfl lk_X7_132 rfl (Nat.le_of_ble_eq_true rfl) rfl rfl rfl (Nat.le_of_ble_eq_true rfl) rfl (k_X6_hasBook (rfl : z_isT 3 = true) h1.symm) ?_
  refine c_if_ne rfl (fun q3 => ?_) (fun q3 => ?_)
  · rw [if_neg q3] at h
    refine c_iload_n rfl rfl ?_
    refine c_if_ge rfl (fun q4 => ?_) (fun q4 => ?_)
    · rw [if_pos q4] at h
      refine c_aload_n rfl rfl ?_
      refine c_getR rfl fk_X7_55 rfl (Nat.le_of_ble_eq_true rfl) rfl ?_
      refine c_aload_n rfl rfl ?_
      refine c_getR rfl fk_X7_35 rfl (Nat.le_of_ble_eq_true rfl) rfl ?_
      refine c_iload_n rfl rfl ?_
      refine c_iload_n rfl rfl ?_
      obtain ⟨r6, I7, J8, h5, h⟩ := zk_bd3_e h
      refine e_callV (As := [.ref 16, .int a1, .int a2]) (st := []) rfl lk_X7_187 rfl (Nat.le_of_ble_eq_true rfl) rfl rfl rfl (Nat.le_of_ble_eq_true rfl) rfl (k_X3_readerOfFirstRow h5) ?_
      obtain ⟨rfl, rfl, rfl⟩ := zk_r3 h
      exact c_ireturn rfl rfl rfl
    · rw [if_neg q4] at h
      refine c_bipush rfl vb_m3 ?_
      obtain ⟨rfl, rfl, rfl⟩ := zk_r3 h
      exact c_ireturn rfl rfl rfl
  · rw [if_pos q3] at h
    refine c_bipush rfl vb_m2 ?_
    obtain ⟨rfl, rfl, rfl⟩ := zk_r3 h
    exact c_ireturn rfl rfl rfl
def f_X7_shortest (I : zk_I) (J : zk_J) (a1 : Int32) : Option (Int32 × zk_I × zk_J) := zk_lt (f_X6_hasBook I 3 a1) (fun (r2 : Int32) =>
  (if r2 = 0 then (
   some ((-2 : Int32), I, J)) else (
   zk_bd3 (f_X3_foretell I J a1 (2 : Int32)) (fun (r5 : Int64) (I6 : zk_I) (J7 : zk_J) =>
    some (r5.toInt32, I6, J7)))))
set_option maxRecDepth 20000 in
theorem k_X7_shortest {X : zk_X} {I : zk_I} {J : zk_J} {a1 : Int32} {r : Int32} {IR : zk_I} {JR : zk_J} (h : f_X7_shortest I J a1 = some (r, IR, JR)) : zC X 7 m_X7_shortest 0 (zk_ent [.ref 0, .int a1] 2) [] (z_Z, I, J) 0 0 (some (.int r)) (z_Z, IR, JR) := by
  unfold f_X7_shortest at h
  refine c_ent (L2 := [some (.ref 0), some (.int a1)]) rfl ?_
  refine c_aload_n rfl rfl ?_
  refine c_getR rfl fk_X7_19 rfl (Nat.le_of_ble_eq_true rfl) rfl ?_
  refine c_iload_n rfl rfl ?_
  obtain ⟨r2, h1, h⟩ := zk_lt_g h
  refine e_callV (As := [.int a1]) (st := []) rfl lk_X7_132 rfl (Nat.le_of_ble_eq_true rfl) rfl rfl rfl (Nat.le_of_ble_eq_true rfl) rfl (k_X6_hasBook (rfl : z_isT 3 = true) h1.symm) ?_
  refine c_if_eq rfl (fun q3 => ?_) (fun q3 => ?_)
  · rw [if_pos q3] at h
    refine c_bipush rfl vb_m2 ?_
    obtain ⟨rfl, rfl, rfl⟩ := zk_r3 h
    exact c_ireturn rfl rfl rfl
  · rw [if_neg q3] at h
    refine c_aload_n rfl rfl ?_
    refine c_getR rfl fk_X7_55 rfl (Nat.le_of_ble_eq_true rfl) rfl ?_
    refine c_aload_n rfl rfl ?_
    refine c_getR rfl fk_X7_35 rfl (Nat.le_of_ble_eq_true rfl) rfl ?_
    refine c_iload_n rfl rfl ?_
    refine c_iconst rfl vi_2 ?_
    obtain ⟨r5, I6, J7, h4, h⟩ := zk_bd3_e h
    refine e_callV (As := [.ref 16, .int a1, .int (2 : Int32)]) (st := []) rfl lk_X7_183 rfl (Nat.le_of_ble_eq_true rfl) rfl rfl rfl (Nat.le_of_ble_eq_true rfl) rfl (k_X3_foretell h4) ?_
    refine c_l2i rfl ?_
    refine c_goto rfl ?_
    obtain ⟨rfl, rfl, rfl⟩ := zk_r3 h
    exact c_ireturn rfl rfl rfl
def f_X7_can (I : zk_I) (J : zk_J) (a1 : Int32) : Option (Int32 × zk_I × zk_J) := zk_lt (f_X6_hasBook I 3 a1) (fun (r2 : Int32) =>
  (if r2 = 0 then (
   some ((-2 : Int32), I, J)) else (
   zk_bd3 (f_X3_foretell I J a1 (3 : Int32)) (fun (r5 : Int64) (I6 : zk_I) (J7 : zk_J) =>
    some (r5.toInt32, I6, J7)))))
set_option maxRecDepth 20000 in
theorem k_X7_can {X : zk_X} {I : zk_I} {J : zk_J} {a1 : Int32} {r : Int32} {IR : zk_I} {JR : zk_J} (h : f_X7_can I J a1 = some (r, IR, JR)) : zC X 7 m_X7_can 0 (zk_ent [.ref 0, .int a1] 2) [] (z_Z, I, J) 0 0 (some (.int r)) (z_Z, IR, JR) := by
  unfold f_X7_can at h
  refine c_ent (L2 := [some (.ref 0), some (.int a1)]) rfl ?_
  refine c_aload_n rfl rfl ?_
  refine c_getR rfl fk_X7_19 rfl (Nat.le_of_ble_eq_true rfl) rfl ?_
  refine c_iload_n rfl rfl ?_
  obtain ⟨r2, h1, h⟩ := zk_lt_g h
  refine e_callV (As := [.int a1]) (st := []) rfl lk_X7_132 rfl (Nat.le_of_ble_eq_true rfl) rfl rfl rfl (Nat.le_of_ble_eq_true rfl) rfl (k_X6_hasBook (rfl : z_isT 3 = true) h1.symm) ?_
  refine c_if_eq rfl (fun q3 => ?_) (fun q3 => ?_)
  · rw [if_pos q3] at h
    refine c_bipush rfl vb_m2 ?_
    obtain ⟨rfl, rfl, rfl⟩ := zk_r3 h
    exact c_ireturn rfl rfl rfl
  · rw [if_neg q3] at h
    refine c_aload_n rfl rfl ?_
    refine c_getR rfl fk_X7_55 rfl (Nat.le_of_ble_eq_true rfl) rfl ?_
    refine c_aload_n rfl rfl ?_
    refine c_getR rfl fk_X7_35 rfl (Nat.le_of_ble_eq_true rfl) rfl ?_
    refine c_iload_n rfl rfl ?_
    refine c_iconst rfl vi_3 ?_
    obtain ⟨r5, I6, J7, h4, h⟩ := zk_bd3_e h
    refine e_callV (As := [.ref 16, .int a1, .int (3 : Int32)]) (st := []) rfl lk_X7_183 rfl (Nat.le_of_ble_eq_true rfl) rfl rfl rfl (Nat.le_of_ble_eq_true rfl) rfl (k_X3_foretell h4) ?_
    refine c_l2i rfl ?_
    refine c_goto rfl ?_
    obtain ⟨rfl, rfl, rfl⟩ := zk_r3 h
    exact c_ireturn rfl rfl rfl
def f_X7_all (I : zk_I) (J : zk_J) (a1 : Int32) : Option (Int32 × zk_I × zk_J) := zk_lt (f_X6_hasBook I 3 a1) (fun (r2 : Int32) =>
  (if r2 = 0 then (
   some ((-2 : Int32), I, J)) else (
   zk_bd3 (f_X3_foretell I J a1 (4 : Int32)) (fun (r5 : Int64) (I6 : zk_I) (J7 : zk_J) =>
    some (r5.toInt32, I6, J7)))))
set_option maxRecDepth 20000 in
theorem k_X7_all {X : zk_X} {I : zk_I} {J : zk_J} {a1 : Int32} {r : Int32} {IR : zk_I} {JR : zk_J} (h : f_X7_all I J a1 = some (r, IR, JR)) : zC X 7 m_X7_all 0 (zk_ent [.ref 0, .int a1] 2) [] (z_Z, I, J) 0 0 (some (.int r)) (z_Z, IR, JR) := by
  unfold f_X7_all at h
  refine c_ent (L2 := [some (.ref 0), some (.int a1)]) rfl ?_
  refine c_aload_n rfl rfl ?_
  refine c_getR rfl fk_X7_19 rfl (Nat.le_of_ble_eq_true rfl) rfl ?_
  refine c_iload_n rfl rfl ?_
  obtain ⟨r2, h1, h⟩ := zk_lt_g h
  refine e_callV (As := [.int a1]) (st := []) rfl lk_X7_132 rfl (Nat.le_of_ble_eq_true rfl) rfl rfl rfl (Nat.le_of_ble_eq_true rfl) rfl (k_X6_hasBook (rfl : z_isT 3 = true) h1.symm) ?_
  refine c_if_eq rfl (fun q3 => ?_) (fun q3 => ?_)
  · rw [if_pos q3] at h
    refine c_bipush rfl vb_m2 ?_
    obtain ⟨rfl, rfl, rfl⟩ := zk_r3 h
    exact c_ireturn rfl rfl rfl
  · rw [if_neg q3] at h
    refine c_aload_n rfl rfl ?_
    refine c_getR rfl fk_X7_55 rfl (Nat.le_of_ble_eq_true rfl) rfl ?_
    refine c_aload_n rfl rfl ?_
    refine c_getR rfl fk_X7_35 rfl (Nat.le_of_ble_eq_true rfl) rfl ?_
    refine c_iload_n rfl rfl ?_
    refine c_iconst rfl vi_4 ?_
    obtain ⟨r5, I6, J7, h4, h⟩ := zk_bd3_e h
    refine e_callV (As := [.ref 16, .int a1, .int (4 : Int32)]) (st := []) rfl lk_X7_183 rfl (Nat.le_of_ble_eq_true rfl) rfl rfl rfl (Nat.le_of_ble_eq_true rfl) rfl (k_X3_foretell h4) ?_
    refine c_l2i rfl ?_
    refine c_goto rfl ?_
    obtain ⟨rfl, rfl, rfl⟩ := zk_r3 h
    exact c_ireturn rfl rfl rfl
def f_X7_fame (I : zk_I) (J : zk_J) (a1 : Int32) : Option (Int32 × zk_I × zk_J) := zk_lt (f_X6_hasBook I 3 a1) (fun (r2 : Int32) =>
  (if r2 = 0 then (
   some ((-2 : Int32), I, J)) else (
   zk_bd3 (f_X3_foretell I J a1 (5 : Int32)) (fun (r5 : Int64) (I6 : zk_I) (J7 : zk_J) =>
    some (r5.toInt32, I6, J7)))))
set_option maxRecDepth 20000 in
theorem k_X7_fame {X : zk_X} {I : zk_I} {J : zk_J} {a1 : Int32} {r : Int32} {IR : zk_I} {JR : zk_J} (h : f_X7_fame I J a1 = some (r, IR, JR)) : zC X 7 m_X7_fame 0 (zk_ent [.ref 0, .int a1] 2) [] (z_Z, I, J) 0 0 (some (.int r)) (z_Z, IR, JR) := by
  unfold f_X7_fame at h
  refine c_ent (L2 := [some (.ref 0), some (.int a1)]) rfl ?_
  refine c_aload_n rfl rfl ?_
  refine c_getR rfl fk_X7_19 rfl (Nat.le_of_ble_eq_true rfl) rfl ?_
  refine c_iload_n rfl rfl ?_
  obtain ⟨r2, h1, h⟩ := zk_lt_g h
  refine e_callV (As := [.int a1]) (st := []) rfl lk_X7_132 rfl (Nat.le_of_ble_eq_true rfl) rfl rfl rfl (Nat.le_of_ble_eq_true rfl) rfl (k_X6_hasBook (rfl : z_isT 3 = true) h1.symm) ?_
  refine c_if_eq rfl (fun q3 => ?_) (fun q3 => ?_)
  · rw [if_pos q3] at h
    refine c_bipush rfl vb_m2 ?_
    obtain ⟨rfl, rfl, rfl⟩ := zk_r3 h
    exact c_ireturn rfl rfl rfl
  · rw [if_neg q3] at h
    refine c_aload_n rfl rfl ?_
    refine c_getR rfl fk_X7_55 rfl (Nat.le_of_ble_eq_true rfl) rfl ?_
    refine c_aload_n rfl rfl ?_
    refine c_getR rfl fk_X7_35 rfl (Nat.le_of_ble_eq_true rfl) rfl ?_
    refine c_iload_n rfl rfl ?_
    refine c_iconst rfl vi_5 ?_
    obtain ⟨r5, I6, J7, h4, h⟩ := zk_bd3_e h
    refine e_callV (As := [.ref 16, .int a1, .int (5 : Int32)]) (st := []) rfl lk_X7_183 rfl (Nat.le_of_ble_eq_true rfl) rfl rfl rfl (Nat.le_of_ble_eq_true rfl) rfl (k_X3_foretell h4) ?_
    refine c_l2i rfl ?_
    refine c_goto rfl ?_
    obtain ⟨rfl, rfl, rfl⟩ := zk_r3 h
    exact c_ireturn rfl rfl rfl
def l_X7_lowestTerms_9 (p0 : Int64) (p2 : Int64) (p4 : Int32) (K : Int64 → Option (Int64)) : Nat → Int64 → Int64 → Int32 → Option (Int64)
  | 0, _, _, _ => none
  | n + 1, y5, y7, y9 => (if (100 : Int32) ≤ y9 then (
    K y5) else (
    (if (lg_cmp y7 (0 : Int64)) = 0 then (
     K y5) else (
     zk_ck (zk_nzl y7) (
      l_X7_lowestTerms_9 p0 p2 p4 K n y7 (y5 - y5 / y7 * y7) (y9 + (1 : Int32)))))))
def f_X7_lowestTerms (a1 : Int64) (a2 : Int64) (a3 : Int32) : Option (Int64) := l_X7_lowestTerms_9 a1 a2 a3 (fun (z4 : Int64) =>
  (if (lg_cmp z4 (0 : Int64)) = 0 then (
   some (-3 : Int64)) else (
   (if a3 = 0 then (
    zk_ck (zk_nzl z4) (
     some (a1 / z4))) else (
    zk_ck (zk_nzl z4) (
     some (a2 / z4))))))) 3000 a2 a1 (0 : Int32)
set_option maxRecDepth 20000 in
theorem kl_X7_lowestTerms_9 {X : zk_X} {p0 : Int64} {p2 : Int64} {p4 : Int32} {I : zk_I} {J : zk_J} {K : Int64 → Option (Int64)} {r : Int64} (jK : ∀ (z5 : Int64), K z5 = some r → zC X 1 m_X7_lowestTerms 44 [some (.long p0), none, some (.long p2), none, some (.int p4), some (.long z5), none, none, none, none, none, none] [] (z_Z, I, J) 0 0 (some (.long r)) (z_Z, I, J)) : ∀ (n : Nat) (y5 : Int64) (y7 : Int64) (y9 : Int32), l_X7_lowestTerms_9 p0 p2 p4 K n y5 y7 y9 = some r → zC X 1 m_X7_lowestTerms 9 [some (.long p0), none, some (.long p2), none, some (.int p4), some (.long y5), none, some (.long y7), none, some (.int y9), none, none] [] (z_Z, I, J) 0 0 (some (.long r)) (z_Z, I, J) := by
  intro n
  induction n with
  | zero =>
    intro y5 y7 y9 h
    cases h
  | succ n ih =>
    intro y5 y7 y9 h
    rw [l_X7_lowestTerms_9] at h
    refine c_iload rfl rfl ?_
    refine c_bipush rfl vb_100 ?_
    refine c_icmp_ge rfl (fun q1 => ?_) (fun q1 => ?_)
    · rw [if_pos q1] at h
      refine c_drop [true, true, true, true, true, true, true, false, true, false, true, true] (L2 := [some (.long p0), none, some (.long p2), none, some (.int p4), some (.long y5), none, none, none, none, none, none]) rfl ?_
      exact jK _ h
    · rw [if_neg q1] at h
      refine c_lload rfl rfl ?_
      refine c_lconst rfl vl_0 ?_
      refine c_lcmp rfl ?_
      refine c_if_eq rfl (fun q2 => ?_) (fun q2 => ?_)
      · rw [if_pos q2] at h
        refine c_drop [true, true, true, true, true, true, true, false, true, false, true, true] (L2 := [some (.long p0), none, some (.long p2), none, some (.int p4), some (.long y5), none, none, none, none, none, none]) rfl ?_
        exact jK _ h
      · rw [if_neg q2] at h
        refine c_lload rfl rfl ?_
        refine c_lload rfl rfl ?_
        obtain ⟨q3, h⟩ := zk_ck_e h
        refine c_lrem rfl (zk_nzl_n q3) ?_
        refine e_lstore (L2 := [some (.long p0), none, some (.long p2), none, some (.int p4), some (.long y5), none, some (.long y7), none, some (.int y9), some (.long (y5 - y5 / y7 * y7)), none]) rfl rfl rfl rfl ?_
        refine c_lload rfl rfl ?_
        refine e_lstore (L2 := [some (.long p0), none, some (.long p2), none, some (.int p4), some (.long y7), none, some (.long y7), none, some (.int y9), some (.long (y5 - y5 / y7 * y7)), none]) rfl rfl rfl rfl ?_
        refine c_lload rfl rfl ?_
        refine e_lstore (L2 := [some (.long p0), none, some (.long p2), none, some (.int p4), some (.long y7), none, some (.long (y5 - y5 / y7 * y7)), none, some (.int y9), some (.long (y5 - y5 / y7 * y7)), none]) rfl rfl rfl rfl ?_
        refine e_iinc (L2 := [some (.long p0), none, some (.long p2), none, some (.int p4), some (.long y7), none, some (.long (y5 - y5 / y7 * y7)), none, some (.int (y9 + (1 : Int32))), some (.long (y5 - y5 / y7 * y7)), none]) rfl rfl vi_1 rfl rfl rfl ?_
        refine c_goto rfl ?_
        refine c_drop [true, true, true, true, true, true, true, true, true, true, false, true] (L2 := [some (.long p0), none, some (.long p2), none, some (.int p4), some (.long y7), none, some (.long (y5 - y5 / y7 * y7)), none, some (.int (y9 + (1 : Int32))), none, none]) rfl ?_
        exact ih _ _ _ h
set_option maxRecDepth 20000 in
theorem k_X7_lowestTerms {X : zk_X} {I : zk_I} {J : zk_J} {a1 : Int64} {a2 : Int64} {a3 : Int32} {r : Int64} (h : f_X7_lowestTerms a1 a2 a3 = some r) : zC X 1 m_X7_lowestTerms 0 (zk_ent [.long a1, .long a2, .int a3] 12) [] (z_Z, I, J) 0 0 (some (.long r)) (z_Z, I, J) := by
  unfold f_X7_lowestTerms at h
  refine c_ent (L2 := [some (.long a1), none, some (.long a2), none, some (.int a3), none, none, none, none, none, none, none]) rfl ?_
  refine c_lload_n rfl rfl ?_
  refine e_lstore (L2 := [some (.long a1), none, some (.long a2), none, some (.int a3), some (.long a2), none, none, none, none, none, none]) rfl rfl rfl rfl ?_
  refine c_lload_n rfl rfl ?_
  refine e_lstore (L2 := [some (.long a1), none, some (.long a2), none, some (.int a3), some (.long a2), none, some (.long a1), none, none, none, none]) rfl rfl rfl rfl ?_
  refine c_iconst rfl vi_0 ?_
  refine e_istore (L2 := [some (.long a1), none, some (.long a2), none, some (.int a3), some (.long a2), none, some (.long a1), none, some (.int (0 : Int32)), none, none]) rfl rfl rfl rfl ?_
  refine kl_X7_lowestTerms_9 (fun z4 h => ?_) _ _ _ _ h
  refine c_lload rfl rfl ?_
  refine c_lconst rfl vl_0 ?_
  refine c_lcmp rfl ?_
  refine c_if_ne rfl (fun q5 => ?_) (fun q5 => ?_)
  · rw [if_neg q5] at h
    refine c_iload rfl rfl ?_
    refine c_if_ne rfl (fun q6 => ?_) (fun q6 => ?_)
    · rw [if_neg q6] at h
      refine c_lload_n rfl rfl ?_
      refine c_lload rfl rfl ?_
      obtain ⟨q7, h⟩ := zk_ck_e h
      refine c_ldiv rfl (zk_nzl_n q7) ?_
      have h := zk_r1 h
      subst h
      exact c_lreturn rfl rfl
    · rw [if_pos q6] at h
      refine c_lload_n rfl rfl ?_
      refine c_goto rfl ?_
      refine c_lload rfl rfl ?_
      obtain ⟨q8, h⟩ := zk_ck_e h
      refine c_ldiv rfl (zk_nzl_n q8) ?_
      have h := zk_r1 h
      subst h
      exact c_lreturn rfl rfl
  · rw [if_pos q5] at h
    refine c_ldc2 rfl vc_X7_193 ?_
    have h := zk_r1 h
    subst h
    exact c_lreturn rfl rfl
def f_X7_mean (I : zk_I) (J : zk_J) (a1 : Int32) (a2 : Int32) : Option (Int64 × zk_I × zk_J) := zk_lt (f_X6_hasBook I 3 a1) (fun (r2 : Int32) =>
  (if r2 = 0 then (
   some ((-2 : Int64), I, J)) else (
   zk_jp0 (zk_bd3 (f_X3_foretell I J a1 (6 : Int32)) (fun (r7 : Int64) (I8 : zk_I) (J9 : zk_J) =>
     zk_bd1 (f_X3_lotsBelow I8) (fun (r11 : Int64) =>
      zk_bd1 (f_X7_lowestTerms r7 r11 a2) (fun (r13 : Int64) =>
       some (r13, I8, J9))))) (fun (K5 : Option (Int64 × zk_I × zk_J)) =>
    (if a2 = 0 then (
     K5) else (
     (if a2 = (1 : Int32) then (
      K5) else (
      some ((-3 : Int64), I, J)))))))))
set_option maxRecDepth 20000 in
theorem k_X7_mean {X : zk_X} {I : zk_I} {J : zk_J} {a1 : Int32} {a2 : Int32} {r : Int64} {IR : zk_I} {JR : zk_J} (h : f_X7_mean I J a1 a2 = some (r, IR, JR)) : zC X 7 m_X7_mean 0 (zk_ent [.ref 0, .int a1, .int a2] 5) [] (z_Z, I, J) 0 0 (some (.long r)) (z_Z, IR, JR) := by
  unfold f_X7_mean at h
  refine c_ent (L2 := [some (.ref 0), some (.int a1), some (.int a2), none, none]) rfl ?_
  refine c_aload_n rfl rfl ?_
  refine c_getR rfl fk_X7_19 rfl (Nat.le_of_ble_eq_true rfl) rfl ?_
  refine c_iload_n rfl rfl ?_
  obtain ⟨r2, h1, h⟩ := zk_lt_g h
  refine e_callV (As := [.int a1]) (st := []) rfl lk_X7_132 rfl (Nat.le_of_ble_eq_true rfl) rfl rfl rfl (Nat.le_of_ble_eq_true rfl) rfl (k_X6_hasBook (rfl : z_isT 3 = true) h1.symm) ?_
  refine c_if_ne rfl (fun q3 => ?_) (fun q3 => ?_)
  · rw [if_neg q3] at h
    refine c_iload_n rfl rfl ?_
    refine zk_jp0_e (Z := zC X 7 m_X7_mean 28 [some (.ref 0), some (.int a1), some (.int a2), none, none] [] (z_Z, I, J) 0 0 (some (.long r)) (z_Z, IR, JR)) h (fun h => ?_) (fun K5 jK5 h => ?_)
    · refine c_aload_n rfl rfl ?_
      refine c_getR rfl fk_X7_55 rfl (Nat.le_of_ble_eq_true rfl) rfl ?_
      refine c_aload_n rfl rfl ?_
      refine c_getR rfl fk_X7_35 rfl (Nat.le_of_ble_eq_true rfl) rfl ?_
      refine c_iload_n rfl rfl ?_
      refine c_bipush rfl vb_6 ?_
      obtain ⟨r7, I8, J9, h6, h⟩ := zk_bd3_e h
      refine e_callV (As := [.ref 16, .int a1, .int (6 : Int32)]) (st := []) rfl lk_X7_183 rfl (Nat.le_of_ble_eq_true rfl) rfl rfl rfl (Nat.le_of_ble_eq_true rfl) rfl (k_X3_foretell h6) ?_
      refine e_lstore_n (L2 := [some (.ref 0), some (.int a1), some (.int a2), some (.long r7), none]) rfl rfl rfl rfl ?_
      refine c_lload_n rfl rfl ?_
      refine c_aload_n rfl rfl ?_
      refine c_getR rfl fk_X7_55 rfl (Nat.le_of_ble_eq_true rfl) rfl ?_
      obtain ⟨r11, h10, h⟩ := zk_bd1_e h
      refine e_callV (As := []) (st := [.long r7]) rfl lk_X7_195 rfl (Nat.le_of_ble_eq_true rfl) rfl rfl rfl (Nat.le_of_ble_eq_true rfl) rfl (k_X3_lotsBelow h10) ?_
      refine c_iload_n rfl rfl ?_
      obtain ⟨r13, h12, h⟩ := zk_bd1_e h
      refine e_callS (As := [.long r7, .long r11, .int a2]) (st := []) rfl lk_X7_199 rfl rfl rfl (Nat.le_of_ble_eq_true rfl) rfl (k_X7_lowestTerms h12) ?_
      obtain ⟨rfl, rfl, rfl⟩ := zk_r3 h
      exact c_lreturn rfl rfl
    · refine c_if_eq rfl (fun q4 => ?_) (fun q4 => ?_)
      · rw [if_pos q4] at h
        exact jK5 h
      · rw [if_neg q4] at h
        refine c_iload_n rfl rfl ?_
        refine c_iconst rfl vi_1 ?_
        refine c_icmp_eq rfl (fun q14 => ?_) (fun q14 => ?_)
        · rw [if_pos q14] at h
          exact jK5 h
        · rw [if_neg q14] at h
          refine c_ldc2 rfl vc_X7_193 ?_
          obtain ⟨rfl, rfl, rfl⟩ := zk_r3 h
          exact c_lreturn rfl rfl
  · rw [if_pos q3] at h
    refine c_ldc2 rfl vc_X7_191 ?_
    obtain ⟨rfl, rfl, rfl⟩ := zk_r3 h
    exact c_lreturn rfl rfl
def f_X7_odds (I : zk_I) (J : zk_J) (a1 : Int32) (a2 : Int32) (a3 : Int32) : Option (Int64 × zk_I × zk_J) := zk_lt (f_X6_hasBook I 3 a1) (fun (r2 : Int32) =>
  (if r2 = 0 then (
   some ((-2 : Int64), I, J)) else (
   zk_lt (f_X6_hasReader I 3 a2) (fun (r5 : Int32) =>
    (if r5 = 0 then (
     some ((-2 : Int64), I, J)) else (
     zk_jp0 (zk_ck (zk_in a1 4) (
       zk_lt (f_X7_hasBit (I 18 a1.toNatClampNeg) a2) (fun (r11 : Int32) =>
        (if r11 = 0 then (
         zk_lt (zk_sc I 63 (upd (I 63) 0 a2)) (fun (I13 : zk_I) =>
          zk_bd3 (f_X3_foretell I13 J a1 (7 : Int32)) (fun (r15 : Int64) (I16 : zk_I) (J17 : zk_J) =>
           zk_bd1 (f_X3_lotsBelow I16) (fun (r19 : Int64) =>
            zk_bd1 (f_X7_lowestTerms r15 r19 a3) (fun (r21 : Int64) =>
             some (r21, I16, J17)))))) else (
         some ((1 : Int64), I, J)))))) (fun (K8 : Option (Int64 × zk_I × zk_J)) =>
      (if a3 = 0 then (
       K8) else (
       (if a3 = (1 : Int32) then (
        K8) else (
        some ((-3 : Int64), I, J))))))))))))
set_option maxRecDepth 20000 in
theorem k_X7_odds {X : zk_X} {I : zk_I} {J : zk_J} {a1 : Int32} {a2 : Int32} {a3 : Int32} {r : Int64} {IR : zk_I} {JR : zk_J} (h : f_X7_odds I J a1 a2 a3 = some (r, IR, JR)) : zC X 7 m_X7_odds 0 (zk_ent [.ref 0, .int a1, .int a2, .int a3] 6) [] (z_Z, I, J) 0 0 (some (.long r)) (z_Z, IR, JR) := by
  unfold f_X7_odds at h
  refine c_ent (L2 := [some (.ref 0), some (.int a1), some (.int a2), some (.int a3), none, none]) rfl ?_
  refine c_aload_n rfl rfl ?_
  refine c_getR rfl fk_X7_19 rfl (Nat.le_of_ble_eq_true rfl) rfl ?_
  refine c_iload_n rfl rfl ?_
  obtain ⟨r2, h1, h⟩ := zk_lt_g h
  refine e_callV (As := [.int a1]) (st := []) rfl lk_X7_132 rfl (Nat.le_of_ble_eq_true rfl) rfl rfl rfl (Nat.le_of_ble_eq_true rfl) rfl (k_X6_hasBook (rfl : z_isT 3 = true) h1.symm) ?_
  refine c_if_eq rfl (fun q3 => ?_) (fun q3 => ?_)
  · rw [if_pos q3] at h
    refine c_ldc2 rfl vc_X7_191 ?_
    obtain ⟨rfl, rfl, rfl⟩ := zk_r3 h
    exact c_lreturn rfl rfl
  · rw [if_neg q3] at h
    refine c_aload_n rfl rfl ?_
    refine c_getR rfl fk_X7_19 rfl (Nat.le_of_ble_eq_true rfl) rfl ?_
    refine c_iload_n rfl rfl ?_
    obtain ⟨r5, h4, h⟩ := zk_lt_g h
    refine e_callV (As := [.int a2]) (st := []) rfl lk_X7_109 rfl (Nat.le_of_ble_eq_true rfl) rfl rfl rfl (Nat.le_of_ble_eq_true rfl) rfl (k_X6_hasReader (rfl : z_isT 3 = true) h4.symm) ?_
    refine c_if_ne rfl (fun q6 => ?_) (fun q6 => ?_)
    · rw [if_neg q6] at h
      refine c_iload_n rfl rfl ?_
      refine zk_jp0_e (Z := zC X 7 m_X7_odds 39 [some (.ref 0), some (.int a1), some (.int a2), some (.int a3), none, none] [] (z_Z, I, J) 0 0 (some (.long r)) (z_Z, IR, JR)) h (fun h => ?_) (fun K8 jK8 h => ?_)
      · refine c_aload_n rfl rfl ?_
        refine c_getR rfl fk_X7_35 rfl (Nat.le_of_ble_eq_true rfl) rfl ?_
        refine c_getR rfl fk_X7_138 rfl (Nat.le_of_ble_eq_true rfl) rfl ?_
        refine c_iload_n rfl rfl ?_
        obtain ⟨q9, h⟩ := zk_ck_e h
        refine e_iald rfl rfl (Nat.le_of_ble_eq_true rfl) q9 rfl ?_
        refine c_iload_n rfl rfl ?_
        obtain ⟨r11, h10, h⟩ := zk_lt_g h
        refine e_callS (As := [.int (I 18 a1.toNatClampNeg), .int a2]) (st := []) rfl lk_X7_156 rfl rfl rfl (Nat.le_of_ble_eq_true rfl) rfl (k_X7_hasBit h10.symm) ?_
        refine c_if_eq rfl (fun q12 => ?_) (fun q12 => ?_)
        · rw [if_pos q12] at h
          refine c_aload_n rfl rfl ?_
          refine c_getR rfl fk_X7_55 rfl (Nat.le_of_ble_eq_true rfl) rfl ?_
          refine c_iload_n rfl rfl ?_
          refine c_putI rfl fk_X7_203 rfl rfl (Nat.le_of_ble_eq_true rfl) ?_
          obtain ⟨I13, hI13, h⟩ := zk_lt_g h
          refine c_memI hI13 ?_
          refine c_aload_n rfl rfl ?_
          refine c_getR rfl fk_X7_55 rfl (Nat.le_of_ble_eq_true rfl) rfl ?_
          refine c_aload_n rfl rfl ?_
          refine c_getR rfl fk_X7_35 rfl (Nat.le_of_ble_eq_true rfl) rfl ?_
          refine c_iload_n rfl rfl ?_
          refine c_bipush rfl vb_7 ?_
          obtain ⟨r15, I16, J17, h14, h⟩ := zk_bd3_e h
          refine e_callV (As := [.ref 16, .int a1, .int (7 : Int32)]) (st := []) rfl lk_X7_183 rfl (Nat.le_of_ble_eq_true rfl) rfl rfl rfl (Nat.le_of_ble_eq_true rfl) rfl (k_X3_foretell h14) ?_
          refine e_lstore (L2 := [some (.ref 0), some (.int a1), some (.int a2), some (.int a3), some (.long r15), none]) rfl rfl rfl rfl ?_
          refine c_lload rfl rfl ?_
          refine c_aload_n rfl rfl ?_
          refine c_getR rfl fk_X7_55 rfl (Nat.le_of_ble_eq_true rfl) rfl ?_
          obtain ⟨r19, h18, h⟩ := zk_bd1_e h
          refine e_callV (As := []) (st := [.long r15]) rfl lk_X7_195 rfl (Nat.le_of_ble_eq_true rfl) rfl rfl rfl (Nat.le_of_ble_eq_true rfl) rfl (k_X3_lotsBelow h18) ?_
          refine c_iload_n rfl rfl ?_
          obtain ⟨r21, h20, h⟩ := zk_bd1_e h
          refine e_callS (As := [.long r15, .long r19, .int a3]) (st := []) rfl lk_X7_199 rfl rfl rfl (Nat.le_of_ble_eq_true rfl) rfl (k_X7_lowestTerms h20) ?_
          obtain ⟨rfl, rfl, rfl⟩ := zk_r3 h
          exact c_lreturn rfl rfl
        · rw [if_neg q12] at h
          refine c_lconst rfl vl_1 ?_
          obtain ⟨rfl, rfl, rfl⟩ := zk_r3 h
          exact c_lreturn rfl rfl
      · refine c_if_eq rfl (fun q7 => ?_) (fun q7 => ?_)
        · rw [if_pos q7] at h
          exact jK8 h
        · rw [if_neg q7] at h
          refine c_iload_n rfl rfl ?_
          refine c_iconst rfl vi_1 ?_
          refine c_icmp_eq rfl (fun q22 => ?_) (fun q22 => ?_)
          · rw [if_pos q22] at h
            exact jK8 h
          · rw [if_neg q22] at h
            refine c_ldc2 rfl vc_X7_193 ?_
            obtain ⟨rfl, rfl, rfl⟩ := zk_r3 h
            exact c_lreturn rfl rfl
    · rw [if_pos q6] at h
      refine c_ldc2 rfl vc_X7_191 ?_
      obtain ⟨rfl, rfl, rfl⟩ := zk_r3 h
      exact c_lreturn rfl rfl

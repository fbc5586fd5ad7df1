def f_X3_throughOne (I : zk_I) (a1 : Int32) (a2 : Int64) (a3 : Int32) (a4 : Int32) : Option (Int64) := (if a1 = (1 : Int32) then (
  some a2) else if a1 = (2 : Int32) then (
  some (a2 + (1 : Int64))) else if a1 = (3 : Int32) then (
  some (a2 ||| ((1 : Int64) <<< (a4.toInt64 &&& 63)))) else if a1 = (4 : Int32) then (
  some (a2 ||| ((1 : Int64) <<< (a4.toInt64 &&& 63)))) else if a1 = (5 : Int32) then (
  zk_ck (zk_in a4 8) (
   some (a2 + (I 5 a4.toNatClampNeg).toInt64))) else if a1 = (6 : Int32) then (
  zk_lt (f_X3_unread I a3) (fun (r4 : Int32) =>
   zk_bd1 (f_X3_lotsOf (r4 - (1 : Int32))) (fun (r6 : Int64) =>
    some (a2 + r6)))) else if a1 = (7 : Int32) then (
  (if a4 = (I 63 0) then (
   zk_lt (f_X3_unread I a3) (fun (r9 : Int32) =>
    zk_bd1 (f_X3_lotsOf (r9 - (1 : Int32))) (fun (r11 : Int64) =>
     some r11))) else (
   some a2))) else if a1 = (8 : Int32) then (
  some ((1 : Int64) - a2)) else (
  some (a2 + (1 : Int64))))
set_option maxRecDepth 20000 in
theorem k_X3_throughOne {X : zk_X} {I : zk_I} {J : zk_J} {a1 : Int32} {a2 : Int64} {a3 : Int32} {a4 : Int32} {r : Int64} (h : f_X3_throughOne I a1 a2 a3 a4 = some r) : zC X 3 m_X3_throughOne 0 (zk_ent [.ref 63, .int a1, .long a2, .int a3, .int a4] 6) [] (z_Z, I, J) 0 0 (some (.long r)) (z_Z, I, J) := by
  unfold f_X3_throughOne at h
  refine c_ent (L2 := [some (.ref 63), some (.int a1), some (.long a2), none, some (.int a3), some (.int a4)]) rfl ?_
  refine c_iload_n rfl rfl ?_
  by_cases q1_1 : a1 = (1 : Int32)
  · rw [if_pos q1_1] at h
    refine c_topi q1_1.symm ?_
    refine c_swIn (off := 47) (tgt := 48) rfl (by decide) (by decide) (by decide +kernel) (by decide) ?_
    refine c_lload_n rfl rfl ?_
    have h := zk_r1 h
    subst h
    exact c_lreturn rfl rfl
  · rw [if_neg q1_1] at h
    by_cases q1_2 : a1 = (2 : Int32)
    · rw [if_pos q1_2] at h
      refine c_topi q1_2.symm ?_
      refine c_swIn (off := 120) (tgt := 121) rfl (by decide) (by decide) (by decide +kernel) (by decide) ?_
      refine c_lload_n rfl rfl ?_
      refine c_lconst rfl vl_1 ?_
      refine c_ladd rfl ?_
      have h := zk_r1 h
      subst h
      exact c_lreturn rfl rfl
    · rw [if_neg q1_2] at h
      by_cases q1_3 : a1 = (3 : Int32)
      · rw [if_pos q1_3] at h
        refine c_topi q1_3.symm ?_
        refine c_swIn (off := 49) (tgt := 50) rfl (by decide) (by decide) (by decide +kernel) (by decide) ?_
        refine c_lload_n rfl rfl ?_
        refine c_lconst rfl vl_1 ?_
        refine c_iload rfl rfl ?_
        refine c_lshl rfl ?_
        refine c_lor rfl ?_
        have h := zk_r1 h
        subst h
        exact c_lreturn rfl rfl
      · rw [if_neg q1_3] at h
        by_cases q1_4 : a1 = (4 : Int32)
        · rw [if_pos q1_4] at h
          refine c_topi q1_4.symm ?_
          refine c_swIn (off := 56) (tgt := 57) rfl (by decide) (by decide) (by decide +kernel) (by decide) ?_
          refine c_lload_n rfl rfl ?_
          refine c_lconst rfl vl_1 ?_
          refine c_iload rfl rfl ?_
          refine c_lshl rfl ?_
          refine c_lor rfl ?_
          have h := zk_r1 h
          subst h
          exact c_lreturn rfl rfl
        · rw [if_neg q1_4] at h
          by_cases q1_5 : a1 = (5 : Int32)
          · rw [if_pos q1_5] at h
            refine c_topi q1_5.symm ?_
            refine c_swIn (off := 63) (tgt := 64) rfl (by decide) (by decide) (by decide +kernel) (by decide) ?_
            refine c_lload_n rfl rfl ?_
            refine c_aload_n rfl rfl ?_
            refine c_getR rfl fk_X3_31 rfl (Nat.le_of_ble_eq_true rfl) rfl ?_
            refine c_getR rfl fk_X3_145 rfl (Nat.le_of_ble_eq_true rfl) rfl ?_
            refine c_iload rfl rfl ?_
            obtain ⟨q2, h⟩ := zk_ck_e h
            refine e_iald rfl rfl (Nat.le_of_ble_eq_true rfl) q2 rfl ?_
            refine c_i2l rfl ?_
            refine c_ladd rfl ?_
            have h := zk_r1 h
            subst h
            exact c_lreturn rfl rfl
          · rw [if_neg q1_5] at h
            by_cases q1_6 : a1 = (6 : Int32)
            · rw [if_pos q1_6] at h
              refine c_topi q1_6.symm ?_
              refine c_swIn (off := 77) (tgt := 78) rfl (by decide) (by decide) (by decide +kernel) (by decide) ?_
              refine c_lload_n rfl rfl ?_
              refine c_aload_n rfl rfl ?_
              refine c_iload rfl rfl ?_
              obtain ⟨r4, h3, h⟩ := zk_lt_g h
              refine e_callV (As := [.int a3]) (st := [.long a2]) rfl lk_X3_54 rfl (Nat.le_of_ble_eq_true rfl) rfl rfl rfl (Nat.le_of_ble_eq_true rfl) rfl (k_X3_unread h3.symm) ?_
              refine c_iconst rfl vi_1 ?_
              refine c_isub rfl ?_
              obtain ⟨r6, h5, h⟩ := zk_bd1_e h
              refine e_callS (As := [.int (r4 - (1 : Int32))]) (st := [.long a2]) rfl lk_X3_58 rfl rfl rfl (Nat.le_of_ble_eq_true rfl) rfl (k_X3_lotsOf h5) ?_
              refine c_ladd rfl ?_
              have h := zk_r1 h
              subst h
              exact c_lreturn rfl rfl
            · rw [if_neg q1_6] at h
              by_cases q1_7 : a1 = (7 : Int32)
              · rw [if_pos q1_7] at h
                refine c_topi q1_7.symm ?_
                refine c_swIn (off := 91) (tgt := 92) rfl (by decide) (by decide) (by decide +kernel) (by decide) ?_
                refine c_iload rfl rfl ?_
                refine c_aload_n rfl rfl ?_
                refine c_getI rfl fk_X3_148 rfl (Nat.le_of_ble_eq_true rfl) ?_
                refine c_icmp_ne rfl (fun q7 => ?_) (fun q7 => ?_)
                · rw [if_neg q7] at h
                  refine c_lload_n rfl rfl ?_
                  have h := zk_r1 h
                  subst h
                  exact c_lreturn rfl rfl
                · rw [if_pos q7] at h
                  refine c_aload_n rfl rfl ?_
                  refine c_iload rfl rfl ?_
                  obtain ⟨r9, h8, h⟩ := zk_lt_g h
                  refine e_callV (As := [.int a3]) (st := []) rfl lk_X3_54 rfl (Nat.le_of_ble_eq_true rfl) rfl rfl rfl (Nat.le_of_ble_eq_true rfl) rfl (k_X3_unread h8.symm) ?_
                  refine c_iconst rfl vi_1 ?_
                  refine c_isub rfl ?_
                  obtain ⟨r11, h10, h⟩ := zk_bd1_e h
                  refine e_callS (As := [.int (r9 - (1 : Int32))]) (st := []) rfl lk_X3_58 rfl rfl rfl (Nat.le_of_ble_eq_true rfl) rfl (k_X3_lotsOf h10) ?_
                  refine c_goto rfl ?_
                  have h := zk_r1 h
                  subst h
                  exact c_lreturn rfl rfl
              · rw [if_neg q1_7] at h
                by_cases q1_8 : a1 = (8 : Int32)
                · rw [if_pos q1_8] at h
                  refine c_topi q1_8.symm ?_
                  refine c_swIn (off := 116) (tgt := 117) rfl (by decide) (by decide) (by decide +kernel) (by decide) ?_
                  refine c_lconst rfl vl_1 ?_
                  refine c_lload_n rfl rfl ?_
                  refine c_lsub rfl ?_
                  have h := zk_r1 h
                  subst h
                  exact c_lreturn rfl rfl
                · rw [if_neg q1_8] at h
                  refine c_swOut (tgt := 121) rfl (by
                    have := lv_neT (a := 1) q1_1 (by decide)
                    have := lv_neT (a := 2) q1_2 (by decide)
                    have := lv_neT (a := 3) q1_3 (by decide)
                    have := lv_neT (a := 4) q1_4 (by decide)
                    have := lv_neT (a := 5) q1_5 (by decide)
                    have := lv_neT (a := 6) q1_6 (by decide)
                    have := lv_neT (a := 7) q1_7 (by decide)
                    have := lv_neT (a := 8) q1_8 (by decide)
                    omega) (by decide) ?_
                  refine c_lload_n rfl rfl ?_
                  refine c_lconst rfl vl_1 ?_
                  refine c_ladd rfl ?_
                  have h := zk_r1 h
                  subst h
                  exact c_lreturn rfl rfl
def l_X3_measureOf_65 (I : zk_I) (J : zk_J) (tb : Nat) (p1 : Int32) (p3 : Int32) (p6 : Int32) (K : Int64 → Option (Int64)) : Nat → Int64 → Int32 → Option (Int64)
  | 0, _, _ => none
  | n + 1, y7, y9 => (if (I 3 0) ≤ y9 then (
    K y7) else (
    zk_lt (f_X7_hasBit p6 y9) (fun (r10 : Int32) =>
     zk_jp1 (fun (v12 : Int64) =>
      l_X3_measureOf_65 I J tb p1 p3 p6 K n v12 (y9 + (1 : Int32))) (fun (K13 : Int64 → Option (Int64)) =>
      (if r10 = 0 then (
       K13 y7) else (
       zk_lt (f_X3_stateBehind p3 y9) (fun (r15 : Int32) =>
        zk_ck (zk_in r15 2048) (
         zk_bd1 (f_X3_throughOne I p1 (J tb r15.toNatClampNeg) p3 y9) (fun (r18 : Int64) =>
          zk_jp1 (fun (v20 : Int64) =>
           K13 v20) (fun (K21 : Int64 → Option (Int64)) =>
           (if (lg_cmp y7 (-1 : Int64)) = 0 then (
            K21 r18) else (
            zk_lt (f_X3_join p1 y7 r18) (fun (r23 : Int64) =>
             K21 r23)))))))))))))
def f_X3_measureOf (I : zk_I) (J : zk_J) (a1 : Int32) (tb : Nat) (a3 : Int32) (a4 : Int32) : Option (Int64) := zk_jp1 (fun (v2 : Int32) =>
  zk_jp1 (fun (v5 : Int32) =>
   (if v5 = 0 then (
    (if a1 = (1 : Int32) then (
     some (1 : Int64)) else (
     some (0 : Int64)))) else (
    l_X3_measureOf_65 I J tb a1 a3 v5 (fun (z24 : Int64) =>
     zk_jp1 (fun (v26 : Int32) =>
      (if v26 = 0 then (
       some z24) else (
       zk_lt (f_J6_bitCount_0f7a4 v5) (fun (r30 : Int32) =>
        zk_bd1 (f_X3_shareOfLot I a3 r30) (fun (r32 : Int64) =>
         some (z24 * r32)))))) (fun (K27 : Int32 → Option (Int64)) =>
      zk_jp0 (K27 (1 : Int32)) (fun (K33 : Option (Int64)) =>
       (if a1 = (6 : Int32) then (
        K33) else (
        (if a1 = (7 : Int32) then (
         K33) else (
         K27 (0 : Int32)))))))) 3000 (-1 : Int64) (0 : Int32)))) (fun (K6 : Int32 → Option (Int64)) =>
   (if v2 = 0 then (
    zk_bd1 (f_X3_choicesOf I a3 a4) (fun (r37 : Int32) =>
     K6 r37)) else (
    zk_bd1 (f_X3_choicesOfLongest I J a3 a4) (fun (r39 : Int32) =>
     K6 r39))))) (fun (K3 : Int32 → Option (Int64)) =>
  zk_jp0 (K3 (1 : Int32)) (fun (K40 : Option (Int64)) =>
   (if a1 = (1 : Int32) then (
    K40) else (
    (if a1 = (4 : Int32) then (
     K40) else (
     K3 (0 : Int32)))))))
set_option maxRecDepth 20000 in
theorem kl_X3_measureOf_65 {X : zk_X} {I : zk_I} {J : zk_J} {tb : Nat} {p1 : Int32} {p3 : Int32} {p6 : Int32} {K : Int64 → Option (Int64)} {r : Int64} (h_tb : z_isB tb = true) (jK : ∀ (z7 : Int64), K z7 = some r → zC X 4 m_X3_measureOf 135 [some (.ref 63), some (.int p1), none, some (.int p3), none, none, some (.int p6), some (.long z7), none, none, none, none] [] (z_Z, I, J) 0 0 (some (.long r)) (z_Z, I, J)) : ∀ (n : Nat) (y7 : Int64) (y9 : Int32), l_X3_measureOf_65 I J tb p1 p3 p6 K n y7 y9 = some r → zC X 4 m_X3_measureOf 65 [some (.ref 63), some (.int p1), some (.ref tb), some (.int p3), none, none, some (.int p6), some (.long y7), none, some (.int y9), none, none] [] (z_Z, I, J) 0 0 (some (.long r)) (z_Z, I, J) := by
  intro n
  induction n with
  | zero =>
    intro y7 y9 h
    cases h
  | succ n ih =>
    intro y7 y9 h
    rw [l_X3_measureOf_65] at h
    refine c_iload rfl rfl ?_
    refine c_aload_n rfl rfl ?_
    refine c_getR rfl fk_X3_31 rfl (Nat.le_of_ble_eq_true rfl) rfl ?_
    refine c_getI rfl fk_X3_65 rfl (Nat.le_of_ble_eq_true rfl) ?_
    refine c_icmp_ge rfl (fun q8 => ?_) (fun q8 => ?_)
    · rw [if_pos q8] at h
      refine c_drop [true, true, false, true, true, true, true, true, true, false, true, true] (L2 := [some (.ref 63), some (.int p1), none, some (.int p3), none, none, some (.int p6), some (.long y7), none, none, none, none]) rfl ?_
      exact jK _ h
    · rw [if_neg q8] at h
      refine c_iload rfl rfl ?_
      refine c_iload rfl rfl ?_
      obtain ⟨r10, h9, h⟩ := zk_lt_g h
      refine e_callSN (As := [.int p6, .int y9]) (st := []) rfl lk_X3_70 rfl rfl rfl (Nat.le_of_ble_eq_true rfl) rfl (k_X7_hasBit h9.symm) ?_
      refine zk_jp1_e (Z := fun (v12 : Int64) => zC X 4 m_X3_measureOf 129 [some (.ref 63), some (.int p1), some (.ref tb), some (.int p3), none, none, some (.int p6), some (.long v12), none, some (.int y9), none, none] [] (z_Z, I, J) 0 0 (some (.long r)) (z_Z, I, J)) h (fun v12 h => ?_) (fun K13 jK13 h => ?_)
      · refine e_iinc (L2 := [some (.ref 63), some (.int p1), some (.ref tb), some (.int p3), none, none, some (.int p6), some (.long v12), none, some (.int (y9 + (1 : Int32))), none, none]) rfl rfl vi_1 rfl rfl rfl ?_
        refine c_goto rfl ?_
        exact ih _ _ h
      · refine c_if_eq rfl (fun q11 => ?_) (fun q11 => ?_)
        · rw [if_pos q11] at h
          exact jK13 _ h
        · rw [if_neg q11] at h
          refine c_aload_n rfl rfl ?_
          refine c_iload_n rfl rfl ?_
          refine c_aload_n rfl rfl ?_
          refine c_iload_n rfl rfl ?_
          refine c_iload rfl rfl ?_
          obtain ⟨r15, h14, h⟩ := zk_lt_g h
          refine e_callS (As := [.int p3, .int y9]) (st := [.ref tb, .int p1, .ref 63]) rfl lk_X3_74 rfl rfl rfl (Nat.le_of_ble_eq_true rfl) rfl (k_X3_stateBehind h14.symm) ?_
          obtain ⟨q16, h⟩ := zk_ck_e h
          refine e_lald rfl (zB_a h_tb) (zB_z h_tb) q16 rfl ?_
          refine c_iload_n rfl rfl ?_
          refine c_iload rfl rfl ?_
          obtain ⟨r18, h17, h⟩ := zk_bd1_e h
          refine e_callV (As := [.int p1, .long (J tb r15.toNatClampNeg), .int p3, .int y9]) (st := []) rfl lk_X3_128 rfl (Nat.le_of_ble_eq_true rfl) rfl rfl rfl (Nat.le_of_ble_eq_true rfl) rfl (k_X3_throughOne h17) ?_
          refine e_lstore (L2 := [some (.ref 63), some (.int p1), some (.ref tb), some (.int p3), none, none, some (.int p6), some (.long y7), none, some (.int y9), some (.long r18), none]) rfl rfl rfl rfl ?_
          refine c_lload rfl rfl ?_
          refine c_ldc2 rfl vc_X3_126 ?_
          refine c_lcmp rfl ?_
          refine zk_jp1_e (Z := fun (v20 : Int64) => zC X 4 m_X3_measureOf 127 [some (.ref 63), some (.int p1), some (.ref tb), some (.int p3), none, none, some (.int p6), none, none, some (.int y9), none, none] [.long v20] (z_Z, I, J) 0 0 (some (.long r)) (z_Z, I, J)) h (fun v20 h => ?_) (fun K21 jK21 h => ?_)
          · refine e_lstore (L2 := [some (.ref 63), some (.int p1), some (.ref tb), some (.int p3), none, none, some (.int p6), some (.long v20), none, some (.int y9), none, none]) rfl rfl rfl rfl ?_
            exact jK13 _ h
          · refine c_if_ne rfl (fun q19 => ?_) (fun q19 => ?_)
            · rw [if_neg q19] at h
              refine c_iload_n rfl rfl ?_
              refine c_lload rfl rfl ?_
              refine c_lload rfl rfl ?_
              obtain ⟨r23, h22, h⟩ := zk_lt_g h
              refine e_callS (As := [.int p1, .long y7, .long r18]) (st := []) rfl lk_X3_132 rfl rfl rfl (Nat.le_of_ble_eq_true rfl) rfl (k_X3_join h22.symm) ?_
              refine c_drop [true, true, true, true, true, true, true, false, true, true, false, true] (L2 := [some (.ref 63), some (.int p1), some (.ref tb), some (.int p3), none, none, some (.int p6), none, none, some (.int y9), none, none]) rfl ?_
              exact jK21 _ h
            · rw [if_pos q19] at h
              refine c_lload rfl rfl ?_
              refine c_goto rfl ?_
              refine c_drop [true, true, true, true, true, true, true, false, true, true, false, true] (L2 := [some (.ref 63), some (.int p1), some (.ref tb), some (.int p3), none, none, some (.int p6), none, none, some (.int y9), none, none]) rfl ?_
              exact jK21 _ h
set_option maxRecDepth 20000 in
theorem k_X3_measureOf {X : zk_X} {I : zk_I} {J : zk_J} {a1 : Int32} {tb : Nat} {a3 : Int32} {a4 : Int32} {r : Int64} (h_tb : z_isB tb = true) (h : f_X3_measureOf I J a1 tb a3 a4 = some r) : zC X 4 m_X3_measureOf 0 (zk_ent [.ref 63, .int a1, .ref tb, .int a3, .int a4] 12) [] (z_Z, I, J) 0 0 (some (.long r)) (z_Z, I, J) := by
  unfold f_X3_measureOf at h
  refine c_ent (L2 := [some (.ref 63), some (.int a1), some (.ref tb), some (.int a3), some (.int a4), none, none, none, none, none, none, none]) rfl ?_
  refine c_iload_n rfl rfl ?_
  refine c_iconst rfl vi_1 ?_
  refine zk_jp1_e (Z := fun (v2 : Int32) => zC X 4 m_X3_measureOf 15 [some (.ref 63), some (.int a1), some (.ref tb), some (.int a3), some (.int a4), none, none, none, none, none, none, none] [.int v2] (z_Z, I, J) 0 0 (some (.long r)) (z_Z, I, J)) h (fun v2 h => ?_) (fun K3 jK3 h => ?_)
  · refine e_istore (L2 := [some (.ref 63), some (.int a1), some (.ref tb), some (.int a3), some (.int a4), some (.int v2), none, none, none, none, none, none]) rfl rfl rfl rfl ?_
    refine c_iload rfl rfl ?_
    refine zk_jp1_e (Z := fun (v5 : Int32) => zC X 4 m_X3_measureOf 39 [some (.ref 63), some (.int a1), some (.ref tb), some (.int a3), none, none, none, none, none, none, none, none] [.int v5] (z_Z, I, J) 0 0 (some (.long r)) (z_Z, I, J)) h (fun v5 h => ?_) (fun K6 jK6 h => ?_)
    · refine e_istore (L2 := [some (.ref 63), some (.int a1), some (.ref tb), some (.int a3), none, none, some (.int v5), none, none, none, none, none]) rfl rfl rfl rfl ?_
      refine c_iload rfl rfl ?_
      refine c_if_ne rfl (fun q7 => ?_) (fun q7 => ?_)
      · rw [if_neg q7] at h
        refine c_ldc2 rfl vc_X3_126 ?_
        refine e_lstore (L2 := [some (.ref 63), some (.int a1), some (.ref tb), some (.int a3), none, none, some (.int v5), some (.long (-1 : Int64)), none, none, none, none]) rfl rfl rfl rfl ?_
        refine c_iconst rfl vi_0 ?_
        refine e_istore (L2 := [some (.ref 63), some (.int a1), some (.ref tb), some (.int a3), none, none, some (.int v5), some (.long (-1 : Int64)), none, some (.int (0 : Int32)), none, none]) rfl rfl rfl rfl ?_
        refine kl_X3_measureOf_65 h_tb (fun z24 h => ?_) _ _ _ h
        refine c_iload_n rfl rfl ?_
        refine c_bipush rfl vb_6 ?_
        refine zk_jp1_e (Z := fun (v26 : Int32) => zC X 4 m_X3_measureOf 152 [some (.ref 63), none, none, some (.int a3), none, none, some (.int v5), some (.long z24), none, none, none, none] [.int v26] (z_Z, I, J) 0 0 (some (.long r)) (z_Z, I, J)) h (fun v26 h => ?_) (fun K27 jK27 h => ?_)
        · refine e_istore (L2 := [some (.ref 63), none, none, some (.int a3), none, none, some (.int v5), some (.long z24), none, some (.int v26), none, none]) rfl rfl rfl rfl ?_
          refine c_iload rfl rfl ?_
          refine c_if_eq rfl (fun q28 => ?_) (fun q28 => ?_)
          · rw [if_pos q28] at h
            refine c_lload rfl rfl ?_
            have h := zk_r1 h
            subst h
            exact c_lreturn rfl rfl
          · rw [if_neg q28] at h
            refine c_lload rfl rfl ?_
            refine c_aload_n rfl rfl ?_
            refine c_iload_n rfl rfl ?_
            refine c_iload rfl rfl ?_
            obtain ⟨r30, h29, h⟩ := zk_lt_g h
            refine e_callS (As := [.int v5]) (st := [.int a3, .ref 63, .long z24]) rfl lk_X3_136 rfl rfl rfl (Nat.le_of_ble_eq_true rfl) rfl (k_J6_bitCount_0f7a4 h29.symm) ?_
            obtain ⟨r32, h31, h⟩ := zk_bd1_e h
            refine e_callV (As := [.int a3, .int r30]) (st := [.long z24]) rfl lk_X3_141 rfl (Nat.le_of_ble_eq_true rfl) rfl rfl rfl (Nat.le_of_ble_eq_true rfl) rfl (k_X3_shareOfLot h31) ?_
            refine c_lmul rfl ?_
            refine c_goto rfl ?_
            have h := zk_r1 h
            subst h
            exact c_lreturn rfl rfl
        · refine zk_jp0_e (Z := zC X 4 m_X3_measureOf 147 [some (.ref 63), none, none, some (.int a3), none, none, some (.int v5), some (.long z24), none, none, none, none] [] (z_Z, I, J) 0 0 (some (.long r)) (z_Z, I, J)) h (fun h => ?_) (fun K33 jK33 h => ?_)
          · refine c_iconst rfl vi_1 ?_
            refine c_goto rfl ?_
            exact jK27 _ h
          · refine c_icmp_eq rfl (fun q25 => ?_) (fun q25 => ?_)
            · rw [if_pos q25] at h
              refine c_drop [true, false, true, true, true, true, true, true, true, true, true, true] (L2 := [some (.ref 63), none, none, some (.int a3), none, none, some (.int v5), some (.long z24), none, none, none, none]) rfl ?_
              exact jK33 h
            · rw [if_neg q25] at h
              refine c_iload_n rfl rfl ?_
              refine c_bipush rfl vb_7 ?_
              refine c_icmp_ne rfl (fun q34 => ?_) (fun q34 => ?_)
              · rw [if_neg q34] at h
                refine c_iconst rfl vi_0 ?_
                refine c_drop [true, false, true, true, true, true, true, true, true, true, true, true] (L2 := [some (.ref 63), none, none, some (.int a3), none, none, some (.int v5), some (.long z24), none, none, none, none]) rfl ?_
                exact jK27 _ h
              · rw [if_pos q34] at h
                refine c_drop [true, false, true, true, true, true, true, true, true, true, true, true] (L2 := [some (.ref 63), none, none, some (.int a3), none, none, some (.int v5), some (.long z24), none, none, none, none]) rfl ?_
                exact jK33 h
      · rw [if_pos q7] at h
        refine c_iload_n rfl rfl ?_
        refine c_iconst rfl vi_1 ?_
        refine c_icmp_ne rfl (fun q35 => ?_) (fun q35 => ?_)
        · rw [if_neg q35] at h
          refine c_lconst rfl vl_0 ?_
          have h := zk_r1 h
          subst h
          exact c_lreturn rfl rfl
        · rw [if_pos q35] at h
          refine c_lconst rfl vl_1 ?_
          refine c_goto rfl ?_
          have h := zk_r1 h
          subst h
          exact c_lreturn rfl rfl
    · refine c_if_eq rfl (fun q4 => ?_) (fun q4 => ?_)
      · rw [if_pos q4] at h
        refine c_aload_n rfl rfl ?_
        refine c_iload_n rfl rfl ?_
        refine c_iload rfl rfl ?_
        obtain ⟨r37, h36, h⟩ := zk_bd1_e h
        refine e_callV (As := [.int a3, .int a4]) (st := []) rfl lk_X3_62 rfl (Nat.le_of_ble_eq_true rfl) rfl rfl rfl (Nat.le_of_ble_eq_true rfl) rfl (k_X3_choicesOf h36) ?_
        refine c_drop [true, true, true, true, false, false, true, true, true, true, true, true] (L2 := [some (.ref 63), some (.int a1), some (.ref tb), some (.int a3), none, none, none, none, none, none, none, none]) rfl ?_
        exact jK6 _ h
      · rw [if_neg q4] at h
        refine c_aload_n rfl rfl ?_
        refine c_iload_n rfl rfl ?_
        refine c_iload rfl rfl ?_
        obtain ⟨r39, h38, h⟩ := zk_bd1_e h
        refine e_callV (As := [.int a3, .int a4]) (st := []) rfl lk_X3_77 rfl (Nat.le_of_ble_eq_true rfl) rfl rfl rfl (Nat.le_of_ble_eq_true rfl) rfl (k_X3_choicesOfLongest h38) ?_
        refine c_goto rfl ?_
        refine c_drop [true, true, true, true, false, false, true, true, true, true, true, true] (L2 := [some (.ref 63), some (.int a1), some (.ref tb), some (.int a3), none, none, none, none, none, none, none, none]) rfl ?_
        exact jK6 _ h
  · refine zk_jp0_e (Z := zC X 4 m_X3_measureOf 10 [some (.ref 63), some (.int a1), some (.ref tb), some (.int a3), some (.int a4), none, none, none, none, none, none, none] [] (z_Z, I, J) 0 0 (some (.long r)) (z_Z, I, J)) h (fun h => ?_) (fun K40 jK40 h => ?_)
    · refine c_iconst rfl vi_1 ?_
      refine c_goto rfl ?_
      exact jK3 _ h
    · refine c_icmp_eq rfl (fun q1 => ?_) (fun q1 => ?_)
      · rw [if_pos q1] at h
        exact jK40 h
      · rw [if_neg q1] at h
        refine c_iload_n rfl rfl ?_
        refine c_iconst rfl vi_4 ?_
        refine c_icmp_ne rfl (fun q41 => ?_) (fun q41 => ?_)
        · rw [if_neg q41] at h
          refine c_iconst rfl vi_0 ?_
          exact jK3 _ h
        · rw [if_pos q41] at h
          exact jK40 h
def l_X3_fill_32 (I : zk_I) (tb : Nat) (p1 : Int32) (p3 : Int32) (K : zk_J → Option (zk_J)) : Nat → Int32 → zk_J → Option (zk_J)
  | 0, _, _ => none
  | n + 1, y4, Jy => (if (I 3 0) ≤ y4 then (
    K Jy) else (
    zk_lt (f_X7_hasBit p3 y4) (fun (r9 : Int32) =>
     zk_jp1 (fun (J11 : zk_J) =>
      l_X3_fill_32 I tb p1 p3 K n (y4 + (1 : Int32)) J11) (fun (K12 : zk_J → Option (zk_J)) =>
      (if r9 = 0 then (
       K12 Jy) else (
       zk_lt (f_X3_stateOf p3 y4) (fun (r14 : Int32) =>
        zk_bd1 (f_X3_measureOf I Jy p1 tb p3 y4) (fun (r16 : Int64) =>
         zk_ck (zk_in r14 2048) (
          zk_lt (zk_sj Jy tb (vp_updL (Jy tb) r14.toNatClampNeg r16)) (fun (J18 : zk_J) =>
           K12 J18))))))))))
def l_X3_fill_5 (I : zk_I) (tb : Nat) (p1 : Int32) (K : zk_J → Option (zk_J)) : Nat → Int32 → zk_J → Option (zk_J)
  | 0, _, _ => none
  | n + 1, y3, Jy => (if y3 < (I 63 8) then (
    K Jy) else (
    zk_jp1 (fun (J5 : zk_J) =>
     l_X3_fill_5 I tb p1 K n (y3 + (-1 : Int32)) J5) (fun (K6 : zk_J → Option (zk_J)) =>
     (if (y3 &&& (I 63 8)) = (I 63 8) then (
      l_X3_fill_32 I tb p1 y3 (fun (J19 : zk_J) =>
       K6 J19) 3000 (0 : Int32) Jy) else (
      K6 Jy)))))
def f_X3_fill (I : zk_I) (J : zk_J) (a1 : Int32) (tb : Nat) : Option (zk_J) := zk_lt (f_X3_everybody I) (fun (r2 : Int32) =>
  l_X3_fill_5 I tb a1 (fun (J20 : zk_J) =>
   some J20) 3000 r2 J)
set_option maxRecDepth 20000 in
theorem kl_X3_fill_32 {X : zk_X} {I : zk_I} {tb : Nat} {p1 : Int32} {p3 : Int32} {K : zk_J → Option (zk_J)} {JR : zk_J} (h_tb : z_isB tb = true) (jK : ∀ (Jz : zk_J), K Jz = some JR → zC X 5 m_X3_fill 76 [some (.ref 63), some (.int p1), some (.ref tb), some (.int p3), none] [] (z_Z, I, Jz) 0 0 none (z_Z, I, JR)) : ∀ (n : Nat) (y4 : Int32) (Jy : zk_J), l_X3_fill_32 I tb p1 p3 K n y4 Jy = some JR → zC X 5 m_X3_fill 32 [some (.ref 63), some (.int p1), some (.ref tb), some (.int p3), some (.int y4)] [] (z_Z, I, Jy) 0 0 none (z_Z, I, JR) := by
  intro n
  induction n with
  | zero =>
    intro y4 Jy h
    cases h
  | succ n ih =>
    intro y4 Jy h
    rw [l_X3_fill_32] at h
    refine c_iload rfl rfl ?_
    refine c_aload_n rfl rfl ?_
    refine c_getR rfl fk_X3_31 rfl (Nat.le_of_ble_eq_true rfl) rfl ?_
    refine c_getI rfl fk_X3_65 rfl (Nat.le_of_ble_eq_true rfl) ?_
    refine c_icmp_ge rfl (fun q7 => ?_) (fun q7 => ?_)
    · rw [if_pos q7] at h
      refine c_drop [true, true, true, true, false] (L2 := [some (.ref 63), some (.int p1), some (.ref tb), some (.int p3), none]) rfl ?_
      exact jK _ h
    · rw [if_neg q7] at h
      refine c_iload_n rfl rfl ?_
      refine c_iload rfl rfl ?_
      obtain ⟨r9, h8, h⟩ := zk_lt_g h
      refine e_callSN (As := [.int p3, .int y4]) (st := []) rfl lk_X3_70 rfl rfl rfl (Nat.le_of_ble_eq_true rfl) rfl (k_X7_hasBit h8.symm) ?_
      refine zk_jp1_e (Z := fun (J11 : zk_J) => zC X 5 m_X3_fill 70 [some (.ref 63), some (.int p1), some (.ref tb), some (.int p3), some (.int y4)] [] (z_Z, I, J11) 0 0 none (z_Z, I, JR)) h (fun J11 h => ?_) (fun K12 jK12 h => ?_)
      · refine e_iinc (L2 := [some (.ref 63), some (.int p1), some (.ref tb), some (.int p3), some (.int (y4 + (1 : Int32)))]) rfl rfl vi_1 rfl rfl rfl ?_
        refine c_goto rfl ?_
        exact ih _ _ h
      · refine c_if_eq rfl (fun q10 => ?_) (fun q10 => ?_)
        · rw [if_pos q10] at h
          exact jK12 _ h
        · rw [if_neg q10] at h
          refine c_aload_n rfl rfl ?_
          refine c_iload_n rfl rfl ?_
          refine c_iload rfl rfl ?_
          obtain ⟨r14, h13, h⟩ := zk_lt_g h
          refine e_callS (As := [.int p3, .int y4]) (st := [.ref tb]) rfl lk_X3_50 rfl rfl rfl (Nat.le_of_ble_eq_true rfl) rfl (k_X3_stateOf h13.symm) ?_
          refine c_aload_n rfl rfl ?_
          refine c_iload_n rfl rfl ?_
          refine c_aload_n rfl rfl ?_
          refine c_iload_n rfl rfl ?_
          refine c_iload rfl rfl ?_
          obtain ⟨r16, h15, h⟩ := zk_bd1_e h
          refine e_callV (As := [.int p1, .ref tb, .int p3, .int y4]) (st := [.int r14, .ref tb]) rfl lk_X3_122 rfl (Nat.le_of_ble_eq_true rfl) rfl rfl rfl (Nat.le_of_ble_eq_true rfl) rfl (k_X3_measureOf h_tb h15) ?_
          obtain ⟨q17, h⟩ := zk_ck_e h
          refine e_last rfl (zB_a h_tb) (zB_z h_tb) q17 rfl ?_
          obtain ⟨J18, hJ18, h⟩ := zk_lt_g h
          refine c_memJ hJ18 ?_
          exact jK12 _ h
set_option maxRecDepth 20000 in
theorem kl_X3_fill_5 {X : zk_X} {I : zk_I} {tb : Nat} {p1 : Int32} {K : zk_J → Option (zk_J)} {JR : zk_J} (h_tb : z_isB tb = true) (jK : ∀ (Jz : zk_J), K Jz = some JR → zC X 5 m_X3_fill 82 [none, none, none, none, none] [] (z_Z, I, Jz) 0 0 none (z_Z, I, JR)) : ∀ (n : Nat) (y3 : Int32) (Jy : zk_J), l_X3_fill_5 I tb p1 K n y3 Jy = some JR → zC X 5 m_X3_fill 5 [some (.ref 63), some (.int p1), some (.ref tb), some (.int y3), none] [] (z_Z, I, Jy) 0 0 none (z_Z, I, JR) := by
  intro n
  induction n with
  | zero =>
    intro y3 Jy h
    cases h
  | succ n ih =>
    intro y3 Jy h
    rw [l_X3_fill_5] at h
    refine c_iload_n rfl rfl ?_
    refine c_aload_n rfl rfl ?_
    refine c_getI rfl fk_X3_43 rfl (Nat.le_of_ble_eq_true rfl) ?_
    refine c_icmp_lt rfl (fun q3 => ?_) (fun q3 => ?_)
    · rw [if_pos q3] at h
      refine c_drop [false, false, false, false, true] (L2 := [none, none, none, none, none]) rfl ?_
      exact jK _ h
    · rw [if_neg q3] at h
      refine c_iload_n rfl rfl ?_
      refine c_aload_n rfl rfl ?_
      refine c_getI rfl fk_X3_43 rfl (Nat.le_of_ble_eq_true rfl) ?_
      refine c_iand rfl ?_
      refine c_aload_n rfl rfl ?_
      refine c_getI rfl fk_X3_43 rfl (Nat.le_of_ble_eq_true rfl) ?_
      refine zk_jp1_e (Z := fun (J5 : zk_J) => zC X 5 m_X3_fill 76 [some (.ref 63), some (.int p1), some (.ref tb), some (.int y3), none] [] (z_Z, I, J5) 0 0 none (z_Z, I, JR)) h (fun J5 h => ?_) (fun K6 jK6 h => ?_)
      · refine e_iinc (L2 := [some (.ref 63), some (.int p1), some (.ref tb), some (.int (y3 + (-1 : Int32))), none]) rfl rfl vi_m1 rfl rfl rfl ?_
        refine c_goto rfl ?_
        exact ih _ _ h
      · refine c_icmp_eq rfl (fun q4 => ?_) (fun q4 => ?_)
        · rw [if_pos q4] at h
          refine c_iconst rfl vi_0 ?_
          refine e_istore (L2 := [some (.ref 63), some (.int p1), some (.ref tb), some (.int y3), some (.int (0 : Int32))]) rfl rfl rfl rfl ?_
          refine kl_X3_fill_32 h_tb (fun J19 h => ?_) _ _ _ h
          exact jK6 _ h
        · rw [if_neg q4] at h
          refine c_goto rfl ?_
          exact jK6 _ h
set_option maxRecDepth 20000 in
theorem k_X3_fill {X : zk_X} {I : zk_I} {J : zk_J} {a1 : Int32} {tb : Nat} {JR : zk_J} (h_tb : z_isB tb = true) (h : f_X3_fill I J a1 tb = some JR) : zC X 5 m_X3_fill 0 (zk_ent [.ref 63, .int a1, .ref tb] 5) [] (z_Z, I, J) 0 0 none (z_Z, I, JR) := by
  unfold f_X3_fill at h
  refine c_ent (L2 := [some (.ref 63), some (.int a1), some (.ref tb), none, none]) rfl ?_
  refine c_aload_n rfl rfl ?_
  obtain ⟨r2, h1, h⟩ := zk_lt_g h
  refine e_callV (As := []) (st := []) rfl lk_X3_88 rfl (Nat.le_of_ble_eq_true rfl) rfl rfl rfl (Nat.le_of_ble_eq_true rfl) rfl (k_X3_everybody h1.symm) ?_
  refine e_istore_n (L2 := [some (.ref 63), some (.int a1), some (.ref tb), some (.int r2), none]) rfl rfl rfl rfl ?_
  refine kl_X3_fill_5 h_tb (fun J20 h => ?_) _ _ _ h
  have h := zk_r1 h
  subst h
  exact c_return rfl rfl
def f_X3_foretell (I : zk_I) (J : zk_J) (a2 : Int32) (a3 : Int32) : Option (Int64 × zk_I × zk_J) := zk_bd1 (f_X3_begin I a2) (fun (I2 : zk_I) =>
  zk_jp1 (fun (J4 : zk_J) =>
   zk_jp1 (fun (t7 : Nat) =>
    zk_ck (z_isB t7) (
     zk_bd1 (f_X3_fill I2 J4 a3 t7) (fun (J10 : zk_J) =>
      zk_lt (f_X3_stateOf (I2 63 8) (I2 63 9)) (fun (r12 : Int32) =>
       zk_ck (zk_in r12 2048) (
        some ((J10 t7 r12.toNatClampNeg), I2, J10)))))) (fun (K8 : Nat → Option (Int64 × zk_I × zk_J)) =>
    (if a3 = 0 then (
     K8 68) else (
     K8 69)))) (fun (K5 : zk_J → Option (Int64 × zk_I × zk_J)) =>
   zk_jp0 (zk_bd1 (f_X3_fill I2 J (0 : Int32) 68) (fun (J16 : zk_J) =>
     K5 J16)) (fun (K14 : Option (Int64 × zk_I × zk_J)) =>
    (if a3 = (1 : Int32) then (
     K14) else (
     (if a3 = (4 : Int32) then (
      K14) else (
      K5 J)))))))
set_option maxRecDepth 20000 in
theorem k_X3_foretell {X : zk_X} {I : zk_I} {J : zk_J} {a2 : Int32} {a3 : Int32} {r : Int64} {IR : zk_I} {JR : zk_J} (h : f_X3_foretell I J a2 a3 = some (r, IR, JR)) : zC X 6 m_X3_foretell 0 (zk_ent [.ref 63, .ref 16, .int a2, .int a3] 5) [] (z_Z, I, J) 0 0 (some (.long r)) (z_Z, IR, JR) := by
  unfold f_X3_foretell at h
  refine c_ent (L2 := [some (.ref 63), some (.ref 16), some (.int a2), some (.int a3), none]) rfl ?_
  refine c_aload_n rfl rfl ?_
  refine c_aload_n rfl rfl ?_
  refine c_iload_n rfl rfl ?_
  obtain ⟨I2, h1, h⟩ := zk_bd1_e h
  refine e_callV (As := [.ref 16, .int a2]) (st := []) rfl lk_X3_35 rfl (Nat.le_of_ble_eq_true rfl) rfl rfl rfl (Nat.le_of_ble_eq_true rfl) rfl (k_X3_begin h1) ?_
  refine c_iload_n rfl rfl ?_
  refine c_iconst rfl vi_1 ?_
  refine zk_jp1_e (Z := fun (J4 : zk_J) => zC X 6 m_X3_foretell 25 [some (.ref 63), none, none, some (.int a3), none] [] (z_Z, I2, J4) 0 0 (some (.long r)) (z_Z, IR, JR)) h (fun J4 h => ?_) (fun K5 jK5 h => ?_)
  · refine c_iload_n rfl rfl ?_
    refine zk_jp1_e (Z := fun (t7 : Nat) => zC X 6 m_X3_foretell 40 [some (.ref 63), none, none, some (.int a3), none] [.ref t7] (z_Z, I2, J4) 0 0 (some (.long r)) (z_Z, IR, JR)) h (fun t7 h => ?_) (fun K8 jK8 h => ?_)
    · obtain ⟨hb_t7, h⟩ := zk_ck_e h
      refine e_astore (L2 := [some (.ref 63), none, none, some (.int a3), some (.ref t7)]) rfl rfl rfl rfl ?_
      refine c_aload_n rfl rfl ?_
      refine c_iload_n rfl rfl ?_
      refine c_aload rfl rfl ?_
      obtain ⟨J10, h9, h⟩ := zk_bd1_e h
      refine e_callV (As := [.int a3, .ref t7]) (st := []) rfl lk_X3_39 rfl (Nat.le_of_ble_eq_true rfl) rfl rfl rfl (Nat.le_of_ble_eq_true rfl) rfl (k_X3_fill hb_t7 h9) ?_
      refine c_aload rfl rfl ?_
      refine c_aload_n rfl rfl ?_
      refine c_getI rfl fk_X3_43 rfl (Nat.le_of_ble_eq_true rfl) ?_
      refine c_aload_n rfl rfl ?_
      refine c_getI rfl fk_X3_47 rfl (Nat.le_of_ble_eq_true rfl) ?_
      obtain ⟨r12, h11, h⟩ := zk_lt_g h
      refine e_callS (As := [.int (I2 63 8), .int (I2 63 9)]) (st := [.ref t7]) rfl lk_X3_50 rfl rfl rfl (Nat.le_of_ble_eq_true rfl) rfl (k_X3_stateOf h11.symm) ?_
      obtain ⟨q13, h⟩ := zk_ck_e h
      refine e_lald rfl (zB_a hb_t7) (zB_z hb_t7) q13 rfl ?_
      obtain ⟨rfl, rfl, rfl⟩ := zk_r3 h
      exact c_lreturn rfl rfl
    · refine c_if_ne rfl (fun q6 => ?_) (fun q6 => ?_)
      · rw [if_neg q6] at h
        refine c_aload_n rfl rfl ?_
        refine c_getR rfl fk_X3_28 rfl (Nat.le_of_ble_eq_true rfl) rfl ?_
        exact jK8 _ h
      · rw [if_pos q6] at h
        refine c_aload_n rfl rfl ?_
        refine c_getR rfl fk_X3_24 rfl (Nat.le_of_ble_eq_true rfl) rfl ?_
        refine c_goto rfl ?_
        exact jK8 _ h
  · refine zk_jp0_e (Z := zC X 6 m_X3_foretell 16 [some (.ref 63), none, none, some (.int a3), none] [] (z_Z, I2, J) 0 0 (some (.long r)) (z_Z, IR, JR)) h (fun h => ?_) (fun K14 jK14 h => ?_)
    · refine c_aload_n rfl rfl ?_
      refine c_iconst rfl vi_0 ?_
      refine c_aload_n rfl rfl ?_
      refine c_getR rfl fk_X3_24 rfl (Nat.le_of_ble_eq_true rfl) rfl ?_
      obtain ⟨J16, h15, h⟩ := zk_bd1_e h
      refine e_callV (As := [.int (0 : Int32), .ref 68]) (st := []) rfl lk_X3_39 rfl (Nat.le_of_ble_eq_true rfl) rfl rfl rfl (Nat.le_of_ble_eq_true rfl) rfl (k_X3_fill (rfl : z_isB 68 = true) h15) ?_
      exact jK5 _ h
    · refine c_icmp_eq rfl (fun q3 => ?_) (fun q3 => ?_)
      · rw [if_pos q3] at h
        refine c_drop [true, false, false, true, true] (L2 := [some (.ref 63), none, none, some (.int a3), none]) rfl ?_
        exact jK14 h
      · rw [if_neg q3] at h
        refine c_iload_n rfl rfl ?_
        refine c_iconst rfl vi_4 ?_
        refine c_icmp_ne rfl (fun q17 => ?_) (fun q17 => ?_)
        · rw [if_neg q17] at h
          refine c_drop [true, false, false, true, true] (L2 := [some (.ref 63), none, none, some (.int a3), none]) rfl ?_
          exact jK5 _ h
        · rw [if_pos q17] at h
          refine c_drop [true, false, false, true, true] (L2 := [some (.ref 63), none, none, some (.int a3), none]) rfl ?_
          exact jK14 h
def f_X3_lotsBelow (I : zk_I) : Option (Int64) := zk_lt (f_X3_unread I (I 63 8)) (fun (r2 : Int32) =>
  zk_bd1 (f_X3_lotsOf r2) (fun (r4 : Int64) =>
   some r4))
set_option maxRecDepth 20000 in
theorem k_X3_lotsBelow {X : zk_X} {I : zk_I} {J : zk_J} {r : Int64} (h : f_X3_lotsBelow I = some r) : zC X 3 m_X3_lotsBelow 0 (zk_ent [.ref 63] 1) [] (z_Z, I, J) 0 0 (some (.long r)) (z_Z, I, J) := by
  unfold f_X3_lotsBelow at h
  refine c_ent (L2 := [some (.ref 63)]) rfl ?_
  refine c_aload_n rfl rfl ?_
  refine c_aload_n rfl rfl ?_
  refine c_getI rfl fk_X3_43 rfl (Nat.le_of_ble_eq_true rfl) ?_
  obtain ⟨r2, h1, h⟩ := zk_lt_g h
  refine e_callV (As := [.int (I 63 8)]) (st := []) rfl lk_X3_54 rfl (Nat.le_of_ble_eq_true rfl) rfl rfl rfl (Nat.le_of_ble_eq_true rfl) rfl (k_X3_unread h1.symm) ?_
  obtain ⟨r4, h3, h⟩ := zk_bd1_e h
  refine e_callS (As := [.int r2]) (st := []) rfl lk_X3_58 rfl rfl rfl (Nat.le_of_ble_eq_true rfl) rfl (k_X3_lotsOf h3) ?_
  have h := zk_r1 h
  subst h
  exact c_lreturn rfl rfl
def l_X3_leastWinningChoice_15 (I : zk_I) (J : zk_J) (p1 : Int32) (K : Option (Int32)) : Nat → Int32 → Option (Int32)
  | 0, _ => none
  | n + 1, y2 => (if (I 3 0) ≤ y2 then (
    K) else (
    zk_lt (f_X7_hasBit p1 y2) (fun (r5 : Int32) =>
     zk_jp0 (l_X3_leastWinningChoice_15 I J p1 K n (y2 + (1 : Int32))) (fun (K7 : Option (Int32)) =>
      (if r5 = 0 then (
       K7) else (
       zk_lt (f_X3_stateBehind (I 63 8) y2) (fun (r9 : Int32) =>
        zk_ck (zk_in r9 2048) (
         (if (lg_cmp (J 69 r9.toNatClampNeg) (0 : Int64)) = 0 then (
          some y2) else (
          K7))))))))))
def f_X3_leastWinningChoice (I : zk_I) (J : zk_J) : Option (Int32) := zk_bd1 (f_X3_choicesOf I (I 63 8) (I 63 9)) (fun (r2 : Int32) =>
  l_X3_leastWinningChoice_15 I J r2 (some (-1 : Int32)) 3000 (0 : Int32))
set_option maxRecDepth 20000 in
theorem kl_X3_leastWinningChoice_15 {X : zk_X} {I : zk_I} {J : zk_J} {p1 : Int32} {K : Option (Int32)} {r : Int32} (jK : K  = some r → zC X 3 m_X3_leastWinningChoice 60 [none, none, none] [] (z_Z, I, J) 0 0 (some (.int r)) (z_Z, I, J)) : ∀ (n : Nat) (y2 : Int32), l_X3_leastWinningChoice_15 I J p1 K n y2 = some r → zC X 3 m_X3_leastWinningChoice 15 [some (.ref 63), some (.int p1), some (.int y2)] [] (z_Z, I, J) 0 0 (some (.int r)) (z_Z, I, J) := by
  intro n
  induction n with
  | zero =>
    intro y2 h
    cases h
  | succ n ih =>
    intro y2 h
    rw [l_X3_leastWinningChoice_15] at h
    refine c_iload_n rfl rfl ?_
    refine c_aload_n rfl rfl ?_
    refine c_getR rfl fk_X3_31 rfl (Nat.le_of_ble_eq_true rfl) rfl ?_
    refine c_getI rfl fk_X3_65 rfl (Nat.le_of_ble_eq_true rfl) ?_
    refine c_icmp_ge rfl (fun q3 => ?_) (fun q3 => ?_)
    · rw [if_pos q3] at h
      refine c_drop [false, false, false] (L2 := [none, none, none]) rfl ?_
      exact jK h
    · rw [if_neg q3] at h
      refine c_iload_n rfl rfl ?_
      refine c_iload_n rfl rfl ?_
      obtain ⟨r5, h4, h⟩ := zk_lt_g h
      refine e_callSN (As := [.int p1, .int y2]) (st := []) rfl lk_X3_70 rfl rfl rfl (Nat.le_of_ble_eq_true rfl) rfl (k_X7_hasBit h4.symm) ?_
      refine zk_jp0_e (Z := zC X 3 m_X3_leastWinningChoice 54 [some (.ref 63), some (.int p1), some (.int y2)] [] (z_Z, I, J) 0 0 (some (.int r)) (z_Z, I, J)) h (fun h => ?_) (fun K7 jK7 h => ?_)
      · refine e_iinc (L2 := [some (.ref 63), some (.int p1), some (.int (y2 + (1 : Int32)))]) rfl rfl vi_1 rfl rfl rfl ?_
        refine c_goto rfl ?_
        exact ih _ h
      · refine c_if_eq rfl (fun q6 => ?_) (fun q6 => ?_)
        · rw [if_pos q6] at h
          exact jK7 h
        · rw [if_neg q6] at h
          refine c_aload_n rfl rfl ?_
          refine c_getR rfl fk_X3_28 rfl (Nat.le_of_ble_eq_true rfl) rfl ?_
          refine c_aload_n rfl rfl ?_
          refine c_getI rfl fk_X3_43 rfl (Nat.le_of_ble_eq_true rfl) ?_
          refine c_iload_n rfl rfl ?_
          obtain ⟨r9, h8, h⟩ := zk_lt_g h
          refine e_callS (As := [.int (I 63 8), .int y2]) (st := [.ref 69]) rfl lk_X3_74 rfl rfl rfl (Nat.le_of_ble_eq_true rfl) rfl (k_X3_stateBehind h8.symm) ?_
          obtain ⟨q10, h⟩ := zk_ck_e h
          refine e_lald rfl rfl (Nat.le_of_ble_eq_true rfl) q10 rfl ?_
          refine c_lconst rfl vl_0 ?_
          refine c_lcmp rfl ?_
          refine c_if_ne rfl (fun q11 => ?_) (fun q11 => ?_)
          · rw [if_neg q11] at h
            exact jK7 h
          · rw [if_pos q11] at h
            refine c_iload_n rfl rfl ?_
            have h := zk_r1 h
            subst h
            exact c_ireturn rfl rfl rfl
set_option maxRecDepth 20000 in
theorem k_X3_leastWinningChoice {X : zk_X} {I : zk_I} {J : zk_J} {r : Int32} (h : f_X3_leastWinningChoice I J = some r) : zC X 3 m_X3_leastWinningChoice 0 (zk_ent [.ref 63] 3) [] (z_Z, I, J) 0 0 (some (.int r)) (z_Z, I, J) := by
  unfold f_X3_leastWinningChoice at h
  refine c_ent (L2 := [some (.ref 63), none, none]) rfl ?_
  refine c_aload_n rfl rfl ?_
  refine c_aload_n rfl rfl ?_
  refine c_getI rfl fk_X3_43 rfl (Nat.le_of_ble_eq_true rfl) ?_
  refine c_aload_n rfl rfl ?_
  refine c_getI rfl fk_X3_47 rfl (Nat.le_of_ble_eq_true rfl) ?_
  obtain ⟨r2, h1, h⟩ := zk_bd1_e h
  refine e_callV (As := [.int (I 63 8), .int (I 63 9)]) (st := []) rfl lk_X3_62 rfl (Nat.le_of_ble_eq_true rfl) rfl rfl rfl (Nat.le_of_ble_eq_true rfl) rfl (k_X3_choicesOf h1) ?_
  refine e_istore_n (L2 := [some (.ref 63), some (.int r2), none]) rfl rfl rfl rfl ?_
  refine c_iconst rfl vi_0 ?_
  refine e_istore_n (L2 := [some (.ref 63), some (.int r2), some (.int (0 : Int32))]) rfl rfl rfl rfl ?_
  refine kl_X3_leastWinningChoice_15 (fun h => ?_) _ _ h
  refine c_iconst rfl vi_m1 ?_
  have h := zk_r1 h
  subst h
  exact c_ireturn rfl rfl rfl
def l_X7_leastOf_2 (p0 : Int32) (K : Option (Int32)) : Nat → Int32 → Option (Int32)
  | 0, _ => none
  | n + 1, y1 => (if (8 : Int32) ≤ y1 then (
    K) else (
    zk_lt (f_X7_hasBit p0 y1) (fun (r3 : Int32) =>
     (if r3 = 0 then (
      l_X7_leastOf_2 p0 K n (y1 + (1 : Int32))) else (
      some y1)))))
def f_X7_leastOf (a1 : Int32) : Option (Int32) := l_X7_leastOf_2 a1 (some (-1 : Int32)) 3000 (0 : Int32)
set_option maxRecDepth 20000 in
theorem kl_X7_leastOf_2 {X : zk_X} {p0 : Int32} {I : zk_I} {J : zk_J} {K : Option (Int32)} {r : Int32} (jK : K  = some r → zC X 2 m_X7_leastOf 24 [none, none] [] (z_Z, I, J) 0 0 (some (.int r)) (z_Z, I, J)) : ∀ (n : Nat) (y1 : Int32), l_X7_leastOf_2 p0 K n y1 = some r → zC X 2 m_X7_leastOf 2 [some (.int p0), some (.int y1)] [] (z_Z, I, J) 0 0 (some (.int r)) (z_Z, I, J) := by
  intro n
  induction n with
  | zero =>
    intro y1 h
    cases h
  | succ n ih =>
    intro y1 h
    rw [l_X7_leastOf_2] at h
    refine c_iload_n rfl rfl ?_
    refine c_bipush rfl vb_8 ?_
    refine c_icmp_ge rfl (fun q1 => ?_) (fun q1 => ?_)
    · rw [if_pos q1] at h
      refine c_drop [false, false] (L2 := [none, none]) rfl ?_
      exact jK h
    · rw [if_neg q1] at h
      refine c_iload_n rfl rfl ?_
      refine c_iload_n rfl rfl ?_
      obtain ⟨r3, h2, h⟩ := zk_lt_g h
      refine e_callS (As := [.int p0, .int y1]) (st := []) rfl lk_X7_156 rfl rfl rfl (Nat.le_of_ble_eq_true rfl) rfl (k_X7_hasBit h2.symm) ?_
      refine c_if_eq rfl (fun q4 => ?_) (fun q4 => ?_)
      · rw [if_pos q4] at h
        refine e_iinc (L2 := [some (.int p0), some (.int (y1 + (1 : Int32)))]) rfl rfl vi_1 rfl rfl rfl ?_
        refine c_goto rfl ?_
        exact ih _ h
      · rw [if_neg q4] at h
        refine c_iload_n rfl rfl ?_
        have h := zk_r1 h
        subst h
        exact c_ireturn rfl rfl rfl
set_option maxRecDepth 20000 in
theorem k_X7_leastOf {X : zk_X} {I : zk_I} {J : zk_J} {a1 : Int32} {r : Int32} (h : f_X7_leastOf a1 = some r) : zC X 2 m_X7_leastOf 0 (zk_ent [.int a1] 2) [] (z_Z, I, J) 0 0 (some (.int r)) (z_Z, I, J) := by
  unfold f_X7_leastOf at h
  refine c_ent (L2 := [some (.int a1), none]) rfl ?_
  refine c_iconst rfl vi_0 ?_
  refine e_istore_n (L2 := [some (.int a1), some (.int (0 : Int32))]) rfl rfl rfl rfl ?_
  refine kl_X7_leastOf_2 (fun h => ?_) _ _ h
  refine c_iconst rfl vi_m1 ?_
  have h := zk_r1 h
  subst h
  exact c_ireturn rfl rfl rfl
def l_X3_readerOfFirstRow_38 (I : zk_I) (J : zk_J) (p3 : Int32) (K : Int32 → Option (Int32 × zk_I × zk_J)) : Nat → Int32 → Int32 → Int32 → Option (Int32 × zk_I × zk_J)
  | 0, _, _, _ => none
  | n + 1, y4, y5, y6 => (if p3 < y6 then (
    K y5) else (
    zk_bd1 (f_X3_choicesOfLongest I J y4 y5) (fun (r8 : Int32) =>
     zk_bd1 (f_X7_leastOf r8) (fun (r10 : Int32) =>
      (if r10 = (-1 : Int32) then (
       some ((-1 : Int32), I, J)) else (
       zk_lt (y4 ||| ((1 : Int32) <<< (r10 &&& 31))) (fun (x12 : Int32) =>
        l_X3_readerOfFirstRow_38 I J p3 K n x12 r10 (y6 + (1 : Int32)))))))))
def f_X3_readerOfFirstRow (I : zk_I) (J : zk_J) (a2 : Int32) (a3 : Int32) : Option (Int32 × zk_I × zk_J) := (if a3 < (8 : Int32) then (
  zk_bd1 (f_X3_begin I a2) (fun (I3 : zk_I) =>
   zk_bd1 (f_X3_fill I3 J (0 : Int32) 68) (fun (J5 : zk_J) =>
    l_X3_readerOfFirstRow_38 I3 J5 a3 (fun (z13 : Int32) =>
     some (z13, I3, J5)) 3000 (I3 63 8) (I3 63 9) (0 : Int32)))) else (
  some ((-1 : Int32), I, J)))
set_option maxRecDepth 20000 in
theorem kl_X3_readerOfFirstRow_38 {X : zk_X} {I : zk_I} {J : zk_J} {p3 : Int32} {K : Int32 → Option (Int32 × zk_I × zk_J)} {r : Int32} {IR : zk_I} {JR : zk_J} (jK : ∀ (z5 : Int32), K z5 = some (r, IR, JR) → zC X 6 m_X3_readerOfFirstRow 84 [none, none, none, none, none, some (.int z5), none, none] [] (z_Z, I, J) 0 0 (some (.int r)) (z_Z, IR, JR)) : ∀ (n : Nat) (y4 : Int32) (y5 : Int32) (y6 : Int32), l_X3_readerOfFirstRow_38 I J p3 K n y4 y5 y6 = some (r, IR, JR) → zC X 6 m_X3_readerOfFirstRow 38 [some (.ref 63), none, none, some (.int p3), some (.int y4), some (.int y5), some (.int y6), none] [] (z_Z, I, J) 0 0 (some (.int r)) (z_Z, IR, JR) := by
  intro n
  induction n with
  | zero =>
    intro y4 y5 y6 h
    cases h
  | succ n ih =>
    intro y4 y5 y6 h
    rw [l_X3_readerOfFirstRow_38] at h
    refine c_iload rfl rfl ?_
    refine c_iload_n rfl rfl ?_
    refine c_icmp_gt rfl (fun q6 => ?_) (fun q6 => ?_)
    · rw [if_pos q6] at h
      refine c_drop [false, true, true, false, false, true, false, true] (L2 := [none, none, none, none, none, some (.int y5), none, none]) rfl ?_
      exact jK _ h
    · rw [if_neg q6] at h
      refine c_aload_n rfl rfl ?_
      refine c_iload rfl rfl ?_
      refine c_iload rfl rfl ?_
      obtain ⟨r8, h7, h⟩ := zk_bd1_e h
      refine e_callV (As := [.int y4, .int y5]) (st := []) rfl lk_X3_77 rfl (Nat.le_of_ble_eq_true rfl) rfl rfl rfl (Nat.le_of_ble_eq_true rfl) rfl (k_X3_choicesOfLongest h7) ?_
      obtain ⟨r10, h9, h⟩ := zk_bd1_e h
      refine e_callSN (As := [.int r8]) (st := []) rfl lk_X3_80 rfl rfl rfl (Nat.le_of_ble_eq_true rfl) rfl (k_X7_leastOf h9) ?_
      refine e_istore (L2 := [some (.ref 63), none, none, some (.int p3), some (.int y4), some (.int y5), some (.int y6), some (.int r10)]) rfl rfl rfl rfl ?_
      refine c_iload rfl rfl ?_
      refine c_iconst rfl vi_m1 ?_
      refine c_icmp_ne rfl (fun q11 => ?_) (fun q11 => ?_)
      · rw [if_neg q11] at h
        refine c_iload rfl rfl ?_
        refine c_iconst rfl vi_1 ?_
        refine c_iload rfl rfl ?_
        refine c_ishl rfl ?_
        refine c_ior rfl ?_
        obtain ⟨x12, hx12, h⟩ := zk_lt_g h
        refine c_topi hx12 ?_
        refine e_istore (L2 := [some (.ref 63), none, none, some (.int p3), some (.int x12), some (.int y5), some (.int y6), some (.int r10)]) rfl rfl rfl rfl ?_
        refine c_iload rfl rfl ?_
        refine e_istore (L2 := [some (.ref 63), none, none, some (.int p3), some (.int x12), some (.int r10), some (.int y6), some (.int r10)]) rfl rfl rfl rfl ?_
        refine e_iinc (L2 := [some (.ref 63), none, none, some (.int p3), some (.int x12), some (.int r10), some (.int (y6 + (1 : Int32))), some (.int r10)]) rfl rfl vi_1 rfl rfl rfl ?_
        refine c_goto rfl ?_
        refine c_drop [true, true, true, true, true, true, true, false] (L2 := [some (.ref 63), none, none, some (.int p3), some (.int x12), some (.int r10), some (.int (y6 + (1 : Int32))), none]) rfl ?_
        exact ih _ _ _ h
      · rw [if_pos q11] at h
        refine c_iconst rfl vi_m1 ?_
        obtain ⟨rfl, rfl, rfl⟩ := zk_r3 h
        exact c_ireturn rfl rfl rfl
set_option maxRecDepth 20000 in
theorem k_X3_readerOfFirstRow {X : zk_X} {I : zk_I} {J : zk_J} {a2 : Int32} {a3 : Int32} {r : Int32} {IR : zk_I} {JR : zk_J} (h : f_X3_readerOfFirstRow I J a2 a3 = some (r, IR, JR)) : zC X 6 m_X3_readerOfFirstRow 0 (zk_ent [.ref 63, .ref 16, .int a2, .int a3] 8) [] (z_Z, I, J) 0 0 (some (.int r)) (z_Z, IR, JR) := by
  unfold f_X3_readerOfFirstRow at h
  refine c_ent (L2 := [some (.ref 63), some (.ref 16), some (.int a2), some (.int a3), none, none, none, none]) rfl ?_
  refine c_iload_n rfl rfl ?_
  refine c_bipush rfl vb_8 ?_
  refine c_icmp_lt rfl (fun q1 => ?_) (fun q1 => ?_)
  · rw [if_pos q1] at h
    refine c_aload_n rfl rfl ?_
    refine c_aload_n rfl rfl ?_
    refine c_iload_n rfl rfl ?_
    obtain ⟨I3, h2, h⟩ := zk_bd1_e h
    refine e_callV (As := [.ref 16, .int a2]) (st := []) rfl lk_X3_35 rfl (Nat.le_of_ble_eq_true rfl) rfl rfl rfl (Nat.le_of_ble_eq_true rfl) rfl (k_X3_begin h2) ?_
    refine c_aload_n rfl rfl ?_
    refine c_iconst rfl vi_0 ?_
    refine c_aload_n rfl rfl ?_
    refine c_getR rfl fk_X3_24 rfl (Nat.le_of_ble_eq_true rfl) rfl ?_
    obtain ⟨J5, h4, h⟩ := zk_bd1_e h
    refine e_callV (As := [.int (0 : Int32), .ref 68]) (st := []) rfl lk_X3_39 rfl (Nat.le_of_ble_eq_true rfl) rfl rfl rfl (Nat.le_of_ble_eq_true rfl) rfl (k_X3_fill (rfl : z_isB 68 = true) h4) ?_
    refine c_aload_n rfl rfl ?_
    refine c_getI rfl fk_X3_43 rfl (Nat.le_of_ble_eq_true rfl) ?_
    refine e_istore (L2 := [some (.ref 63), some (.ref 16), some (.int a2), some (.int a3), some (.int (I3 63 8)), none, none, none]) rfl rfl rfl rfl ?_
    refine c_aload_n rfl rfl ?_
    refine c_getI rfl fk_X3_47 rfl (Nat.le_of_ble_eq_true rfl) ?_
    refine e_istore (L2 := [some (.ref 63), some (.ref 16), some (.int a2), some (.int a3), some (.int (I3 63 8)), some (.int (I3 63 9)), none, none]) rfl rfl rfl rfl ?_
    refine c_iconst rfl vi_0 ?_
    refine e_istore (L2 := [some (.ref 63), some (.ref 16), some (.int a2), some (.int a3), some (.int (I3 63 8)), some (.int (I3 63 9)), some (.int (0 : Int32)), none]) rfl rfl rfl rfl ?_
    refine c_drop [true, false, false, true, true, true, true, true] (L2 := [some (.ref 63), none, none, some (.int a3), some (.int (I3 63 8)), some (.int (I3 63 9)), some (.int (0 : Int32)), none]) rfl ?_
    refine kl_X3_readerOfFirstRow_38 (fun z13 h => ?_) _ _ _ _ h
    refine c_iload rfl rfl ?_
    obtain ⟨rfl, rfl, rfl⟩ := zk_r3 h
    exact c_ireturn rfl rfl rfl
  · rw [if_neg q1] at h
    refine c_iconst rfl vi_m1 ?_
    obtain ⟨rfl, rfl, rfl⟩ := zk_r3 h
    exact c_ireturn rfl rfl rfl
def l_X3_spreadFrom_4 (I : zk_I) (p1 : Int32) (K : Int32 → Option (zk_I)) : Nat → Int32 → Int32 → Option (zk_I)
  | 0, _, _ => none
  | n + 1, y2, y3 => (if (I 3 0) ≤ y3 then (
    K y2) else (
    zk_ck (zk_in p1 256) (
     zk_lt (f_X7_hasBit (I 67 p1.toNatClampNeg) y3) (fun (r4 : Int32) =>
      zk_jp1 (fun (v6 : Int32) =>
       l_X3_spreadFrom_4 I p1 K n v6 (y3 + (1 : Int32))) (fun (K7 : Int32 → Option (zk_I)) =>
       (if r4 = 0 then (
        K7 y2) else (
        zk_bd1 (f_X3_choicesOf I p1 y3) (fun (r9 : Int32) =>
         K7 (y2 ||| r9)))))))))
def l_X3_spreadFrom_45 (p1 : Int32) (p2 : Int32) (K : zk_I → Option (zk_I)) : Nat → Int32 → zk_I → Option (zk_I)
  | 0, _, _ => none
  | n + 1, y3, Iy => (if (Iy 3 0) ≤ y3 then (
    K Iy) else (
    zk_lt (f_X7_hasBit p2 y3) (fun (r13 : Int32) =>
     zk_jp1 (fun (I15 : zk_I) =>
      l_X3_spreadFrom_45 p1 p2 K n (y3 + (1 : Int32)) I15) (fun (K16 : zk_I → Option (zk_I)) =>
      (if r13 = 0 then (
       K16 Iy) else (
       zk_ck (zk_in (p1 ||| ((1 : Int32) <<< (y3 &&& 31))) 256) (
        zk_ck (zk_in (p1 ||| ((1 : Int32) <<< (y3 &&& 31))) 256) (
         zk_lt (zk_sc Iy 67 (upd (Iy 67) (p1 ||| ((1 : Int32) <<< (y3 &&& 31))).toNatClampNeg ((Iy 67 (p1 ||| ((1 : Int32) <<< (y3 &&& 31))).toNatClampNeg) ||| ((1 : Int32) <<< (y3 &&& 31))))) (fun (I19 : zk_I) =>
          K16 I19)))))))))
def f_X3_spreadFrom (I : zk_I) (a1 : Int32) : Option (zk_I) := l_X3_spreadFrom_4 I a1 (fun (z10 : Int32) =>
  l_X3_spreadFrom_45 a1 z10 (fun (I20 : zk_I) =>
   some I20) 3000 (0 : Int32) I) 3000 (0 : Int32) (0 : Int32)
set_option maxRecDepth 20000 in
theorem kl_X3_spreadFrom_4 {X : zk_X} {I : zk_I} {p1 : Int32} {J : zk_J} {K : Int32 → Option (zk_I)} {IR : zk_I} (jK : ∀ (z2 : Int32), K z2 = some IR → zC X 2 m_X3_spreadFrom 43 [some (.ref 63), some (.int p1), some (.int z2), none] [] (z_Z, I, J) 0 0 none (z_Z, IR, J)) : ∀ (n : Nat) (y2 : Int32) (y3 : Int32), l_X3_spreadFrom_4 I p1 K n y2 y3 = some IR → zC X 2 m_X3_spreadFrom 4 [some (.ref 63), some (.int p1), some (.int y2), some (.int y3)] [] (z_Z, I, J) 0 0 none (z_Z, IR, J) := by
  intro n
  induction n with
  | zero =>
    intro y2 y3 h
    cases h
  | succ n ih =>
    intro y2 y3 h
    rw [l_X3_spreadFrom_4] at h
    refine c_iload_n rfl rfl ?_
    refine c_aload_n rfl rfl ?_
    refine c_getR rfl fk_X3_31 rfl (Nat.le_of_ble_eq_true rfl) rfl ?_
    refine c_getI rfl fk_X3_65 rfl (Nat.le_of_ble_eq_true rfl) ?_
    refine c_icmp_ge rfl (fun q1 => ?_) (fun q1 => ?_)
    · rw [if_pos q1] at h
      refine c_drop [true, true, true, false] (L2 := [some (.ref 63), some (.int p1), some (.int y2), none]) rfl ?_
      exact jK _ h
    · rw [if_neg q1] at h
      refine c_aload_n rfl rfl ?_
      refine c_getR rfl fk_X3_21 rfl (Nat.le_of_ble_eq_true rfl) rfl ?_
      refine c_iload_n rfl rfl ?_
      obtain ⟨q2, h⟩ := zk_ck_e h
      refine e_iald rfl rfl (Nat.le_of_ble_eq_true rfl) q2 rfl ?_
      refine c_iload_n rfl rfl ?_
      obtain ⟨r4, h3, h⟩ := zk_lt_g h
      refine e_callSN (As := [.int (I 67 p1.toNatClampNeg), .int y3]) (st := []) rfl lk_X3_70 rfl rfl rfl (Nat.le_of_ble_eq_true rfl) rfl (k_X7_hasBit h3.symm) ?_
      refine zk_jp1_e (Z := fun (v6 : Int32) => zC X 2 m_X3_spreadFrom 37 [some (.ref 63), some (.int p1), some (.int v6), some (.int y3)] [] (z_Z, I, J) 0 0 none (z_Z, IR, J)) h (fun v6 h => ?_) (fun K7 jK7 h => ?_)
      · refine e_iinc (L2 := [some (.ref 63), some (.int p1), some (.int v6), some (.int (y3 + (1 : Int32)))]) rfl rfl vi_1 rfl rfl rfl ?_
        refine c_goto rfl ?_
        exact ih _ _ h
      · refine c_if_eq rfl (fun q5 => ?_) (fun q5 => ?_)
        · rw [if_pos q5] at h
          exact jK7 _ h
        · rw [if_neg q5] at h
          refine c_iload_n rfl rfl ?_
          refine c_aload_n rfl rfl ?_
          refine c_iload_n rfl rfl ?_
          refine c_iload_n rfl rfl ?_
          obtain ⟨r9, h8, h⟩ := zk_bd1_e h
          refine e_callV (As := [.int p1, .int y3]) (st := [.int y2]) rfl lk_X3_62 rfl (Nat.le_of_ble_eq_true rfl) rfl rfl rfl (Nat.le_of_ble_eq_true rfl) rfl (k_X3_choicesOf h8) ?_
          refine c_ior rfl ?_
          refine e_istore_n (L2 := [some (.ref 63), some (.int p1), some (.int (y2 ||| r9)), some (.int y3)]) rfl rfl rfl rfl ?_
          exact jK7 _ h
set_option maxRecDepth 20000 in
theorem kl_X3_spreadFrom_45 {X : zk_X} {p1 : Int32} {p2 : Int32} {J : zk_J} {K : zk_I → Option (zk_I)} {IR : zk_I} (jK : ∀ (Iz : zk_I), K Iz = some IR → zC X 2 m_X3_spreadFrom 86 [none, none, none, none] [] (z_Z, Iz, J) 0 0 none (z_Z, IR, J)) : ∀ (n : Nat) (y3 : Int32) (Iy : zk_I), l_X3_spreadFrom_45 p1 p2 K n y3 Iy = some IR → zC X 2 m_X3_spreadFrom 45 [some (.ref 63), some (.int p1), some (.int p2), some (.int y3)] [] (z_Z, Iy, J) 0 0 none (z_Z, IR, J) := by
  intro n
  induction n with
  | zero =>
    intro y3 Iy h
    cases h
  | succ n ih =>
    intro y3 Iy h
    rw [l_X3_spreadFrom_45] at h
    refine c_iload_n rfl rfl ?_
    refine c_aload_n rfl rfl ?_
    refine c_getR rfl fk_X3_31 rfl (Nat.le_of_ble_eq_true rfl) rfl ?_
    refine c_getI rfl fk_X3_65 rfl (Nat.le_of_ble_eq_true rfl) ?_
    refine c_icmp_ge rfl (fun q11 => ?_) (fun q11 => ?_)
    · rw [if_pos q11] at h
      refine c_drop [false, false, false, false] (L2 := [none, none, none, none]) rfl ?_
      exact jK _ h
    · rw [if_neg q11] at h
      refine c_iload_n rfl rfl ?_
      refine c_iload_n rfl rfl ?_
      obtain ⟨r13, h12, h⟩ := zk_lt_g h
      refine e_callSN (As := [.int p2, .int y3]) (st := []) rfl lk_X3_70 rfl rfl rfl (Nat.le_of_ble_eq_true rfl) rfl (k_X7_hasBit h12.symm) ?_
      refine zk_jp1_e (Z := fun (I15 : zk_I) => zC X 2 m_X3_spreadFrom 80 [some (.ref 63), some (.int p1), some (.int p2), some (.int y3)] [] (z_Z, I15, J) 0 0 none (z_Z, IR, J)) h (fun I15 h => ?_) (fun K16 jK16 h => ?_)
      · refine e_iinc (L2 := [some (.ref 63), some (.int p1), some (.int p2), some (.int (y3 + (1 : Int32)))]) rfl rfl vi_1 rfl rfl rfl ?_
        refine c_goto rfl ?_
        exact ih _ _ h
      · refine c_if_eq rfl (fun q14 => ?_) (fun q14 => ?_)
        · rw [if_pos q14] at h
          exact jK16 _ h
        · rw [if_neg q14] at h
          refine c_aload_n rfl rfl ?_
          refine c_getR rfl fk_X3_21 rfl (Nat.le_of_ble_eq_true rfl) rfl ?_
          refine c_iload_n rfl rfl ?_
          refine c_iconst rfl vi_1 ?_
          refine c_iload_n rfl rfl ?_
          refine c_ishl rfl ?_
          refine c_ior rfl ?_
          refine c_dup2 rfl rfl rfl ?_
          obtain ⟨q17, h⟩ := zk_ck_e h
          refine e_iald rfl rfl (Nat.le_of_ble_eq_true rfl) q17 rfl ?_
          refine c_iconst rfl vi_1 ?_
          refine c_iload_n rfl rfl ?_
          refine c_ishl rfl ?_
          refine c_ior rfl ?_
          obtain ⟨q18, h⟩ := zk_ck_e h
          refine e_iast rfl rfl (Nat.le_of_ble_eq_true rfl) q18 rfl ?_
          obtain ⟨I19, hI19, h⟩ := zk_lt_g h
          refine c_memI hI19 ?_
          exact jK16 _ h
set_option maxRecDepth 20000 in
theorem k_X3_spreadFrom {X : zk_X} {I : zk_I} {J : zk_J} {a1 : Int32} {IR : zk_I} (h : f_X3_spreadFrom I a1 = some IR) : zC X 2 m_X3_spreadFrom 0 (zk_ent [.ref 63, .int a1] 4) [] (z_Z, I, J) 0 0 none (z_Z, IR, J) := by
  unfold f_X3_spreadFrom at h
  refine c_ent (L2 := [some (.ref 63), some (.int a1), none, none]) rfl ?_
  refine c_iconst rfl vi_0 ?_
  refine e_istore_n (L2 := [some (.ref 63), some (.int a1), some (.int (0 : Int32)), none]) rfl rfl rfl rfl ?_
  refine c_iconst rfl vi_0 ?_
  refine e_istore_n (L2 := [some (.ref 63), some (.int a1), some (.int (0 : Int32)), some (.int (0 : Int32))]) rfl rfl rfl rfl ?_
  refine kl_X3_spreadFrom_4 (fun z10 h => ?_) _ _ _ h
  refine c_iconst rfl vi_0 ?_
  refine e_istore_n (L2 := [some (.ref 63), some (.int a1), some (.int z10), some (.int (0 : Int32))]) rfl rfl rfl rfl ?_
  refine kl_X3_spreadFrom_45 (fun I20 h => ?_) _ _ _ h
  have h := zk_r1 h
  subst h
  exact c_return rfl rfl
def l_X3_findPlaces_40 (pl : Nat) (K : zk_I → Option (zk_I)) : Nat → Int32 → zk_I → Option (zk_I)
  | 0, _, _ => none
  | n + 1, y4, Iy => zk_lt (f_X3_everybody Iy) (fun (r10 : Int32) =>
    (if r10 < y4 then (
     K Iy) else (
     zk_lt (f_X3_namingsTo Iy y4) (fun (r13 : Int32) =>
      zk_ck (zk_in y4 256) (
       zk_jp1 (fun (I16 : zk_I) =>
        l_X3_findPlaces_40 pl K n (y4 + (1 : Int32)) I16) (fun (K17 : zk_I → Option (zk_I)) =>
        (if (Iy 67 y4.toNatClampNeg) = 0 then (
         K17 Iy) else (
         (if r13 < 0 then (
          K17 Iy) else (
          (if (8 : Int32) ≤ r13 then (
           K17 Iy) else (
           zk_ck (zk_in r13 8) (
            zk_ck (zk_in y4 256) (
             zk_ck (zk_in r13 8) (
              zk_lt (zk_sc Iy pl (upd (Iy pl) r13.toNatClampNeg ((Iy pl r13.toNatClampNeg) ||| (Iy 67 y4.toNatClampNeg)))) (fun (I23 : zk_I) =>
               zk_bd1 (f_X3_spreadFrom I23 y4) (fun (I25 : zk_I) =>
                K17 I25)))))))))))))))))
def f_X3_findPlaces (I : zk_I) (a2 : Int32) (pl : Nat) : Option (zk_I) := zk_bd1 (f_X3_begin I a2) (fun (I2 : zk_I) =>
  zk_bd1 (f_J7_fill_53178 I2 pl 8 (0 : Int32)) (fun (I4 : zk_I) =>
   zk_bd1 (f_J7_fill_53178 I4 67 256 (0 : Int32)) (fun (I6 : zk_I) =>
    zk_ck (zk_in (I6 63 8) 256) (
     zk_lt (zk_sc I6 67 (upd (I6 67) (I6 63 8).toNatClampNeg ((1 : Int32) <<< ((I6 63 9) &&& 31)))) (fun (I8 : zk_I) =>
      l_X3_findPlaces_40 pl (fun (I26 : zk_I) =>
       some I26) 3000 (I8 63 8) I8)))))
set_option maxRecDepth 20000 in
theorem kl_X3_findPlaces_40 {X : zk_X} {pl : Nat} {J : zk_J} {K : zk_I → Option (zk_I)} {IR : zk_I} (h_pl : z_isP pl = true) (jK : ∀ (Iz : zk_I), K Iz = some IR → zC X 6 m_X3_findPlaces 105 [none, none, none, none, none, none] [] (z_Z, Iz, J) 0 0 none (z_Z, IR, J)) : ∀ (n : Nat) (y4 : Int32) (Iy : zk_I), l_X3_findPlaces_40 pl K n y4 Iy = some IR → zC X 6 m_X3_findPlaces 40 [some (.ref 63), none, none, some (.ref pl), some (.int y4), none] [] (z_Z, Iy, J) 0 0 none (z_Z, IR, J) := by
  intro n
  induction n with
  | zero =>
    intro y4 Iy h
    cases h
  | succ n ih =>
    intro y4 Iy h
    rw [l_X3_findPlaces_40] at h
    refine c_iload rfl rfl ?_
    refine c_aload_n rfl rfl ?_
    obtain ⟨r10, h9, h⟩ := zk_lt_g h
    refine e_callV (As := []) (st := [.int y4]) rfl lk_X3_88 rfl (Nat.le_of_ble_eq_true rfl) rfl rfl rfl (Nat.le_of_ble_eq_true rfl) rfl (k_X3_everybody h9.symm) ?_
    refine c_icmp_gt rfl (fun q11 => ?_) (fun q11 => ?_)
    · rw [if_pos q11] at h
      refine c_drop [false, true, true, false, false, true] (L2 := [none, none, none, none, none, none]) rfl ?_
      exact jK _ h
    · rw [if_neg q11] at h
      refine c_aload_n rfl rfl ?_
      refine c_iload rfl rfl ?_
      obtain ⟨r13, h12, h⟩ := zk_lt_g h
      refine e_callV (As := [.int y4]) (st := []) rfl lk_X3_92 rfl (Nat.le_of_ble_eq_true rfl) rfl rfl rfl (Nat.le_of_ble_eq_true rfl) rfl (k_X3_namingsTo h12.symm) ?_
      refine e_istore (L2 := [some (.ref 63), none, none, some (.ref pl), some (.int y4), some (.int r13)]) rfl rfl rfl rfl ?_
      refine c_aload_n rfl rfl ?_
      refine c_getR rfl fk_X3_21 rfl (Nat.le_of_ble_eq_true rfl) rfl ?_
      refine c_iload rfl rfl ?_
      obtain ⟨q14, h⟩ := zk_ck_e h
      refine e_iald rfl rfl (Nat.le_of_ble_eq_true rfl) q14 rfl ?_
      refine zk_jp1_e (Z := fun (I16 : zk_I) => zC X 6 m_X3_findPlaces 99 [some (.ref 63), none, none, some (.ref pl), some (.int y4), none] [] (z_Z, I16, J) 0 0 none (z_Z, IR, J)) h (fun I16 h => ?_) (fun K17 jK17 h => ?_)
      · refine e_iinc (L2 := [some (.ref 63), none, none, some (.ref pl), some (.int (y4 + (1 : Int32))), none]) rfl rfl vi_1 rfl rfl rfl ?_
        refine c_goto rfl ?_
        exact ih _ _ h
      · refine c_if_eq rfl (fun q15 => ?_) (fun q15 => ?_)
        · rw [if_pos q15] at h
          refine c_drop [true, true, true, true, true, false] (L2 := [some (.ref 63), none, none, some (.ref pl), some (.int y4), none]) rfl ?_
          exact jK17 _ h
        · rw [if_neg q15] at h
          refine c_iload rfl rfl ?_
          refine c_if_lt rfl (fun q18 => ?_) (fun q18 => ?_)
          · rw [if_pos q18] at h
            refine c_drop [true, true, true, true, true, false] (L2 := [some (.ref 63), none, none, some (.ref pl), some (.int y4), none]) rfl ?_
            exact jK17 _ h
          · rw [if_neg q18] at h
            refine c_iload rfl rfl ?_
            refine c_aload_n rfl rfl ?_
            refine c_alen (v := (8 : Int32)) rfl (zP_a h_pl) (Or.inl rfl) (zP_z h_pl) (by decide) ?_
            refine c_icmp_ge rfl (fun q19 => ?_) (fun q19 => ?_)
            · rw [if_pos q19] at h
              refine c_drop [true, true, true, true, true, false] (L2 := [some (.ref 63), none, none, some (.ref pl), some (.int y4), none]) rfl ?_
              exact jK17 _ h
            · rw [if_neg q19] at h
              refine c_aload_n rfl rfl ?_
              refine c_iload rfl rfl ?_
              refine c_dup2 rfl rfl rfl ?_
              obtain ⟨q20, h⟩ := zk_ck_e h
              refine e_iald rfl (zP_a h_pl) (zP_z h_pl) q20 rfl ?_
              refine c_aload_n rfl rfl ?_
              refine c_getR rfl fk_X3_21 rfl (Nat.le_of_ble_eq_true rfl) rfl ?_
              refine c_iload rfl rfl ?_
              obtain ⟨q21, h⟩ := zk_ck_e h
              refine e_iald rfl rfl (Nat.le_of_ble_eq_true rfl) q21 rfl ?_
              refine c_ior rfl ?_
              obtain ⟨q22, h⟩ := zk_ck_e h
              refine e_iast rfl (zP_a h_pl) (zP_z h_pl) q22 rfl ?_
              obtain ⟨I23, hI23, h⟩ := zk_lt_g h
              refine c_memI hI23 ?_
              refine c_aload_n rfl rfl ?_
              refine c_iload rfl rfl ?_
              obtain ⟨I25, h24, h⟩ := zk_bd1_e h
              refine e_callV (As := [.int y4]) (st := []) rfl lk_X3_95 rfl (Nat.le_of_ble_eq_true rfl) rfl rfl rfl (Nat.le_of_ble_eq_true rfl) rfl (k_X3_spreadFrom h24) ?_
              refine c_drop [true, true, true, true, true, false] (L2 := [some (.ref 63), none, none, some (.ref pl), some (.int y4), none]) rfl ?_
              exact jK17 _ h
set_option maxRecDepth 20000 in
theorem k_X3_findPlaces {X : zk_X} {I : zk_I} {J : zk_J} {a2 : Int32} {pl : Nat} {IR : zk_I} (h_pl : z_isP pl = true) (h : f_X3_findPlaces I a2 pl = some IR) : zC X 6 m_X3_findPlaces 0 (zk_ent [.ref 63, .ref 16, .int a2, .ref pl] 6) [] (z_Z, I, J) 0 0 none (z_Z, IR, J) := by
  unfold f_X3_findPlaces at h
  refine c_ent (L2 := [some (.ref 63), some (.ref 16), some (.int a2), some (.ref pl), none, none]) rfl ?_
  refine c_aload_n rfl rfl ?_
  refine c_aload_n rfl rfl ?_
  refine c_iload_n rfl rfl ?_
  obtain ⟨I2, h1, h⟩ := zk_bd1_e h
  refine e_callV (As := [.ref 16, .int a2]) (st := []) rfl lk_X3_35 rfl (Nat.le_of_ble_eq_true rfl) rfl rfl rfl (Nat.le_of_ble_eq_true rfl) rfl (k_X3_begin h1) ?_
  refine c_aload_n rfl rfl ?_
  refine c_iconst rfl vi_0 ?_
  obtain ⟨I4, h3, h⟩ := zk_bd1_e h
  refine e_callS (As := [.ref pl, .int (0 : Int32)]) (st := []) rfl lk_X3_83 rfl rfl rfl (Nat.le_of_ble_eq_true rfl) rfl (k_J7_fill_53178 (zP_a h_pl) (zP_z h_pl) h3) ?_
  refine c_aload_n rfl rfl ?_
  refine c_getR rfl fk_X3_21 rfl (Nat.le_of_ble_eq_true rfl) rfl ?_
  refine c_iconst rfl vi_0 ?_
  obtain ⟨I6, h5, h⟩ := zk_bd1_e h
  refine e_callS (As := [.ref 67, .int (0 : Int32)]) (st := []) rfl lk_X3_83 rfl rfl rfl (Nat.le_of_ble_eq_true rfl) rfl (k_J7_fill_53178 rfl (Nat.le_of_ble_eq_true rfl) h5) ?_
  refine c_aload_n rfl rfl ?_
  refine c_getR rfl fk_X3_21 rfl (Nat.le_of_ble_eq_true rfl) rfl ?_
  refine c_aload_n rfl rfl ?_
  refine c_getI rfl fk_X3_43 rfl (Nat.le_of_ble_eq_true rfl) ?_
  refine c_iconst rfl vi_1 ?_
  refine c_aload_n rfl rfl ?_
  refine c_getI rfl fk_X3_47 rfl (Nat.le_of_ble_eq_true rfl) ?_
  refine c_ishl rfl ?_
  obtain ⟨q7, h⟩ := zk_ck_e h
  refine e_iast rfl rfl (Nat.le_of_ble_eq_true rfl) q7 rfl ?_
  obtain ⟨I8, hI8, h⟩ := zk_lt_g h
  refine c_memI hI8 ?_
  refine c_aload_n rfl rfl ?_
  refine c_getI rfl fk_X3_43 rfl (Nat.le_of_ble_eq_true rfl) ?_
  refine e_istore (L2 := [some (.ref 63), some (.ref 16), some (.int a2), some (.ref pl), some (.int (I8 63 8)), none]) rfl rfl rfl rfl ?_
  refine c_drop [true, false, false, true, true, true] (L2 := [some (.ref 63), none, none, some (.ref pl), some (.int (I8 63 8)), none]) rfl ?_
  refine kl_X3_findPlaces_40 h_pl (fun I26 h => ?_) _ _ _ h
  have h := zk_r1 h
  subst h
  exact c_return rfl rfl

def l_X3_ringsThrough_35 (I : zk_I) (F : Int32 → Int32 → Int32 → Int32 → Option (Int32)) (p1 : Int32) (p3 : Int32) (p4 : Int32) (p5 : Int32) (K : Int32 → Option (Int32)) : Nat → Int32 → Int32 → Option (Int32)
  | 0, _, _ => none
  | n + 1, y6, y7 => (if (8 : Int32) ≤ y7 then (
    K y6) else (
    zk_lt (f_X7_hasBit p5 y7) (fun (r6 : Int32) =>
     zk_jp1 (fun (v8 : Int32) =>
      l_X3_ringsThrough_35 I F p1 p3 p4 p5 K n v8 (y7 + (1 : Int32))) (fun (K9 : Int32 → Option (Int32)) =>
      (if r6 = 0 then (
       K9 y6) else (
       zk_bd1 (F p1 y7 (p3 &&& (((1 : Int32) <<< (y7 &&& 31)) ^^^ (-1 : Int32))) (p4 - (1 : Int32))) (fun (r11 : Int32) =>
        K9 (y6 + r11))))))))
def fb_X3_ringsThrough (I : zk_I) (F : Int32 → Int32 → Int32 → Int32 → Option (Int32)) (a2 : Int32) (a3 : Int32) (a4 : Int32) (a5 : Int32) : Option (Int32) := zk_ck (zk_in a3 8) (
  zk_lt ((I 64 a3.toNatClampNeg) &&& a4) (fun (x2 : Int32) =>
   (if 0 < a5 then (
    l_X3_ringsThrough_35 I F a2 a4 a5 x2 (fun (z12 : Int32) =>
     some z12) 3000 (0 : Int32) (a2 + (1 : Int32))) else (
    zk_lt (f_X7_hasBit x2 a2) (fun (r14 : Int32) =>
     (if r14 = 0 then (
      some (0 : Int32)) else (
      some (1 : Int32))))))))
set_option maxRecDepth 20000 in
theorem kl_X3_ringsThrough_35 {X : zk_X} {I : zk_I} {F : Int32 → Int32 → Int32 → Int32 → Option (Int32)} {p1 : Int32} {p3 : Int32} {p4 : Int32} {p5 : Int32} {J : zk_J} {K : Int32 → Option (Int32)} {r : Int32} {d : Nat} (hd5 : 5 ≤ d) (hF : ∀ {a2 a3 a4 a5 : Int32} {r : Int32}, F a2 a3 a4 a5 = some r → zC X (d - 1) m_X3_ringsThrough 0 (zk_ent [.ref 64, .int a2, .int a3, .int a4, .int a5] 8) [] (z_Z, I, J) 0 0 (some (.int r)) (z_Z, I, J)) (jK : ∀ (z6 : Int32), K z6 = some r → zC X d m_X3_ringsThrough 82 [none, none, none, none, none, none, some (.int z6), none] [] (z_Z, I, J) 0 0 (some (.int r)) (z_Z, I, J)) : ∀ (n : Nat) (y6 : Int32) (y7 : Int32), l_X3_ringsThrough_35 I F p1 p3 p4 p5 K n y6 y7 = some r → zC X d m_X3_ringsThrough 35 [some (.ref 64), some (.int p1), none, some (.int p3), some (.int p4), some (.int p5), some (.int y6), some (.int y7)] [] (z_Z, I, J) 0 0 (some (.int r)) (z_Z, I, J) := by
  intro n
  induction n with
  | zero =>
    intro y6 y7 h
    cases h
  | succ n ih =>
    intro y6 y7 h
    rw [l_X3_ringsThrough_35] at h
    refine c_iload rfl rfl ?_
    refine c_aload_n rfl rfl ?_
    refine c_alen (v := (8 : Int32)) rfl rfl (Or.inl rfl) (Nat.le_of_ble_eq_true rfl) (by decide) ?_
    refine c_icmp_ge rfl (fun q4 => ?_) (fun q4 => ?_)
    · rw [if_pos q4] at h
      refine c_drop [false, false, true, false, false, false, true, false] (L2 := [none, none, none, none, none, none, some (.int y6), none]) rfl ?_
      exact jK _ h
    · rw [if_neg q4] at h
      refine c_iload rfl rfl ?_
      refine c_iload rfl rfl ?_
      obtain ⟨r6, h5, h⟩ := zk_lt_g h
      refine e_callSN (As := [.int p5, .int y7]) (st := []) rfl lk_X3_70 rfl rfl rfl (by omega) rfl (k_X7_hasBit h5.symm) ?_
      refine zk_jp1_e (Z := fun (v8 : Int32) => zC X d m_X3_ringsThrough 76 [some (.ref 64), some (.int p1), none, some (.int p3), some (.int p4), some (.int p5), some (.int v8), some (.int y7)] [] (z_Z, I, J) 0 0 (some (.int r)) (z_Z, I, J)) h (fun v8 h => ?_) (fun K9 jK9 h => ?_)
      · refine e_iinc (L2 := [some (.ref 64), some (.int p1), none, some (.int p3), some (.int p4), some (.int p5), some (.int v8), some (.int (y7 + (1 : Int32)))]) rfl rfl vi_1 rfl rfl rfl ?_
        refine c_goto rfl ?_
        exact ih _ _ h
      · refine c_if_eq rfl (fun q7 => ?_) (fun q7 => ?_)
        · rw [if_pos q7] at h
          exact jK9 _ h
        · rw [if_neg q7] at h
          refine c_iload rfl rfl ?_
          refine c_aload_n rfl rfl ?_
          refine c_iload_n rfl rfl ?_
          refine c_iload rfl rfl ?_
          refine c_iload_n rfl rfl ?_
          refine c_iconst rfl vi_1 ?_
          refine c_iload rfl rfl ?_
          refine c_ishl rfl ?_
          refine c_iconst rfl vi_m1 ?_
          refine c_ixor rfl ?_
          refine c_iand rfl ?_
          refine c_iload rfl rfl ?_
          refine c_iconst rfl vi_1 ?_
          refine c_isub rfl ?_
          obtain ⟨r11, h10, h⟩ := zk_bd1_e h
          refine e_callS (As := [.ref 64, .int p1, .int y7, .int (p3 &&& (((1 : Int32) <<< (y7 &&& 31)) ^^^ (-1 : Int32))), .int (p4 - (1 : Int32))]) (st := [.int y6]) rfl lk_X3_105 rfl rfl rfl (by omega) rfl (hF h10) ?_
          refine c_iadd rfl ?_
          refine e_istore (L2 := [some (.ref 64), some (.int p1), none, some (.int p3), some (.int p4), some (.int p5), some (.int (y6 + r11)), some (.int y7)]) rfl rfl rfl rfl ?_
          exact jK9 _ h
set_option maxRecDepth 20000 in
theorem kb_X3_ringsThrough {X : zk_X} {I : zk_I} {J : zk_J} {F : Int32 → Int32 → Int32 → Int32 → Option (Int32)} {a2 : Int32} {a3 : Int32} {a4 : Int32} {a5 : Int32} {r : Int32} {d : Nat} (hd5 : 5 ≤ d) (hF : ∀ {a2 a3 a4 a5 : Int32} {r : Int32}, F a2 a3 a4 a5 = some r → zC X (d - 1) m_X3_ringsThrough 0 (zk_ent [.ref 64, .int a2, .int a3, .int a4, .int a5] 8) [] (z_Z, I, J) 0 0 (some (.int r)) (z_Z, I, J)) (h : fb_X3_ringsThrough I F a2 a3 a4 a5 = some r) : zC X d m_X3_ringsThrough 0 (zk_ent [.ref 64, .int a2, .int a3, .int a4, .int a5] 8) [] (z_Z, I, J) 0 0 (some (.int r)) (z_Z, I, J) := by
  unfold fb_X3_ringsThrough at h
  refine c_ent (L2 := [some (.ref 64), some (.int a2), some (.int a3), some (.int a4), some (.int a5), none, none, none]) rfl ?_
  refine c_aload_n rfl rfl ?_
  refine c_iload_n rfl rfl ?_
  obtain ⟨q1, h⟩ := zk_ck_e h
  refine e_iald rfl rfl (Nat.le_of_ble_eq_true rfl) q1 rfl ?_
  refine c_iload_n rfl rfl ?_
  refine c_iand rfl ?_
  obtain ⟨x2, hx2, h⟩ := zk_lt_g h
  refine c_topi hx2 ?_
  refine e_istore (L2 := [some (.ref 64), some (.int a2), some (.int a3), some (.int a4), some (.int a5), some (.int x2), none, none]) rfl rfl rfl rfl ?_
  refine c_iload rfl rfl ?_
  refine c_if_gt rfl (fun q3 => ?_) (fun q3 => ?_)
  · rw [if_pos q3] at h
    refine c_iconst rfl vi_0 ?_
    refine e_istore (L2 := [some (.ref 64), some (.int a2), some (.int a3), some (.int a4), some (.int a5), some (.int x2), some (.int (0 : Int32)), none]) rfl rfl rfl rfl ?_
    refine c_iload_n rfl rfl ?_
    refine c_iconst rfl vi_1 ?_
    refine c_iadd rfl ?_
    refine e_istore (L2 := [some (.ref 64), some (.int a2), some (.int a3), some (.int a4), some (.int a5), some (.int x2), some (.int (0 : Int32)), some (.int (a2 + (1 : Int32)))]) rfl rfl rfl rfl ?_
    refine c_drop [true, true, false, true, true, true, true, true] (L2 := [some (.ref 64), some (.int a2), none, some (.int a4), some (.int a5), some (.int x2), some (.int (0 : Int32)), some (.int (a2 + (1 : Int32)))]) rfl ?_
    refine kl_X3_ringsThrough_35 hd5 @hF (fun z12 h => ?_) _ _ _ h
    refine c_iload rfl rfl ?_
    have h := zk_r1 h
    subst h
    exact c_ireturn rfl rfl rfl
  · rw [if_neg q3] at h
    refine c_iload rfl rfl ?_
    refine c_iload_n rfl rfl ?_
    obtain ⟨r14, h13, h⟩ := zk_lt_g h
    refine e_callSN (As := [.int x2, .int a2]) (st := []) rfl lk_X3_70 rfl rfl rfl (by omega) rfl (k_X7_hasBit h13.symm) ?_
    refine c_if_eq rfl (fun q15 => ?_) (fun q15 => ?_)
    · rw [if_pos q15] at h
      refine c_iconst rfl vi_0 ?_
      have h := zk_r1 h
      subst h
      exact c_ireturn rfl rfl rfl
    · rw [if_neg q15] at h
      refine c_iconst rfl vi_1 ?_
      refine c_goto rfl ?_
      have h := zk_r1 h
      subst h
      exact c_ireturn rfl rfl rfl
def f_X3_ringsThrough (I : zk_I) : Nat → Int32 → Int32 → Int32 → Int32 → Option Int32
  | 0, _, _, _, _ => none
  | n + 1, a1, a2, a3, a4 => fb_X3_ringsThrough I (f_X3_ringsThrough I n) a1 a2 a3 a4
theorem k_X3_ringsThrough_n {X : zk_X} {I : zk_I} {J : zk_J} : ∀ (n : Nat) {a1 a2 a3 a4 r : Int32}, f_X3_ringsThrough I n a1 a2 a3 a4 = some r → zC X (n + 5) m_X3_ringsThrough 0 (zk_ent [.ref 64, .int a1, .int a2, .int a3, .int a4] 8) [] (z_Z, I, J) 0 0 (some (.int r)) (z_Z, I, J)
  | 0, _, _, _, _, _, h => by cases h
  | n + 1, _, _, _, _, _, h => kb_X3_ringsThrough (d := n + 1 + 5) (by omega) (fun h2 => k_X3_ringsThrough_n n h2) h
theorem k_X3_ringsThrough {X : zk_X} {I : zk_I} {J : zk_J} {a1 a2 a3 a4 r : Int32} (h : f_X3_ringsThrough I 8 a1 a2 a3 a4 = some r) : zC X 13 m_X3_ringsThrough 0 (zk_ent [.ref 64, .int a1, .int a2, .int a3, .int a4] 8) [] (z_Z, I, J) 0 0 (some (.int r)) (z_Z, I, J) := k_X3_ringsThrough_n 8 h
def l_X3_ringsOf_19 (I : zk_I) (p2 : Int32) (p3 : Int32) (K : Int32 → Option (Int32 × zk_I)) : Nat → Int32 → Int32 → Option (Int32 × zk_I)
  | 0, _, _ => none
  | n + 1, y4, y5 => (if (I 3 0) ≤ y5 then (
    K y4) else (
    zk_bd1 (f_X3_ringsThrough I 8 y5 y5 p3 (p2 - (1 : Int32))) (fun (r7 : Int32) =>
     l_X3_ringsOf_19 I p2 p3 K n (y4 + r7) (y5 + (1 : Int32)))))
def f_X3_ringsOf (I : zk_I) (a1 : Int32) (a2 : Int32) : Option (Int32 × zk_I) := zk_bd1 (f_X3_findLiked I) (fun (I2 : zk_I) =>
  zk_bd1 (f_X6_stillHere I2 3 a1) (fun (r4 : Int32) =>
   l_X3_ringsOf_19 I2 a2 r4 (fun (z8 : Int32) =>
    some (z8, I2)) 3000 (0 : Int32) (0 : Int32)))
set_option maxRecDepth 20000 in
theorem kl_X3_ringsOf_19 {X : zk_X} {I : zk_I} {p2 : Int32} {p3 : Int32} {J : zk_J} {K : Int32 → Option (Int32 × zk_I)} {r : Int32} {IR : zk_I} (jK : ∀ (z4 : Int32), K z4 = some (r, IR) → zC X 14 m_X3_ringsOf 57 [none, none, none, none, some (.int z4), none] [] (z_Z, I, J) 0 0 (some (.int r)) (z_Z, IR, J)) : ∀ (n : Nat) (y4 : Int32) (y5 : Int32), l_X3_ringsOf_19 I p2 p3 K n y4 y5 = some (r, IR) → zC X 14 m_X3_ringsOf 19 [some (.ref 63), none, some (.int p2), some (.int p3), some (.int y4), some (.int y5)] [] (z_Z, I, J) 0 0 (some (.int r)) (z_Z, IR, J) := by
  intro n
  induction n with
  | zero =>
    intro y4 y5 h
    cases h
  | succ n ih =>
    intro y4 y5 h
    rw [l_X3_ringsOf_19] at h
    refine c_iload rfl rfl ?_
    refine c_aload_n rfl rfl ?_
    refine c_getR rfl fk_X3_31 rfl (Nat.le_of_ble_eq_true rfl) rfl ?_
    refine c_getI rfl fk_X3_65 rfl (Nat.le_of_ble_eq_true rfl) ?_
    refine c_icmp_ge rfl (fun q5 => ?_) (fun q5 => ?_)
    · rw [if_pos q5] at h
      refine c_drop [false, true, false, false, true, false] (L2 := [none, none, none, none, some (.int y4), none]) rfl ?_
      exact jK _ h
    · rw [if_neg q5] at h
      refine c_iload rfl rfl ?_
      refine c_aload_n rfl rfl ?_
      refine c_getR rfl fk_X3_9 rfl (Nat.le_of_ble_eq_true rfl) rfl ?_
      refine c_iload rfl rfl ?_
      refine c_iload rfl rfl ?_
      refine c_iload_n rfl rfl ?_
      refine c_iload_n rfl rfl ?_
      refine c_iconst rfl vi_1 ?_
      refine c_isub rfl ?_
      obtain ⟨r7, h6, h⟩ := zk_bd1_e h
      refine e_callS (As := [.ref 64, .int y5, .int y5, .int p3, .int (p2 - (1 : Int32))]) (st := [.int y4]) rfl lk_X3_105 rfl rfl rfl (Nat.le_of_ble_eq_true rfl) rfl (k_X3_ringsThrough h6) ?_
      refine c_iadd rfl ?_
      refine e_istore (L2 := [some (.ref 63), none, some (.int p2), some (.int p3), some (.int (y4 + r7)), some (.int y5)]) rfl rfl rfl rfl ?_
      refine e_iinc (L2 := [some (.ref 63), none, some (.int p2), some (.int p3), some (.int (y4 + r7)), some (.int (y5 + (1 : Int32)))]) rfl rfl vi_1 rfl rfl rfl ?_
      refine c_goto rfl ?_
      exact ih _ _ h
set_option maxRecDepth 20000 in
theorem k_X3_ringsOf {X : zk_X} {I : zk_I} {J : zk_J} {a1 : Int32} {a2 : Int32} {r : Int32} {IR : zk_I} (h : f_X3_ringsOf I a1 a2 = some (r, IR)) : zC X 14 m_X3_ringsOf 0 (zk_ent [.ref 63, .int a1, .int a2] 6) [] (z_Z, I, J) 0 0 (some (.int r)) (z_Z, IR, J) := by
  unfold f_X3_ringsOf at h
  refine c_ent (L2 := [some (.ref 63), some (.int a1), some (.int a2), none, none, none]) rfl ?_
  refine c_aload_n rfl rfl ?_
  obtain ⟨I2, h1, h⟩ := zk_bd1_e h
  refine e_callV (As := []) (st := []) rfl lk_X3_99 rfl (Nat.le_of_ble_eq_true rfl) rfl rfl rfl (Nat.le_of_ble_eq_true rfl) rfl (k_X3_findLiked h1) ?_
  refine c_aload_n rfl rfl ?_
  refine c_getR rfl fk_X3_31 rfl (Nat.le_of_ble_eq_true rfl) rfl ?_
  refine c_iload_n rfl rfl ?_
  obtain ⟨r4, h3, h⟩ := zk_bd1_e h
  refine e_callV (As := [.int a1]) (st := []) rfl lk_X3_102 rfl (Nat.le_of_ble_eq_true rfl) rfl rfl rfl (Nat.le_of_ble_eq_true rfl) rfl (k_X6_stillHere (rfl : z_isT 3 = true) h3) ?_
  refine e_istore_n (L2 := [some (.ref 63), some (.int a1), some (.int a2), some (.int r4), none, none]) rfl rfl rfl rfl ?_
  refine c_iconst rfl vi_0 ?_
  refine e_istore (L2 := [some (.ref 63), some (.int a1), some (.int a2), some (.int r4), some (.int (0 : Int32)), none]) rfl rfl rfl rfl ?_
  refine c_iconst rfl vi_0 ?_
  refine e_istore (L2 := [some (.ref 63), some (.int a1), some (.int a2), some (.int r4), some (.int (0 : Int32)), some (.int (0 : Int32))]) rfl rfl rfl rfl ?_
  refine c_drop [true, false, true, true, true, true] (L2 := [some (.ref 63), none, some (.int a2), some (.int r4), some (.int (0 : Int32)), some (.int (0 : Int32))]) rfl ?_
  refine kl_X3_ringsOf_19 (fun z8 h => ?_) _ _ _ h
  refine c_iload rfl rfl ?_
  obtain ⟨rfl, rfl⟩ := zk_r2 h
  exact c_ireturn rfl rfl rfl
def f_X4_add (I : zk_I) (a1 : Int32) (a2 : Int32) : Option (Int32 × zk_I) := (if (I 72 0) < (8 : Int32) then (
  zk_ck (zk_in (I 72 0) 8) (
   zk_lt (zk_sc I 73 (upd (I 73) (I 72 0).toNatClampNeg a1)) (fun (I3 : zk_I) =>
    zk_ck (zk_in (I3 72 0) 8) (
     zk_lt (zk_sc I3 74 (upd (I3 74) (I3 72 0).toNatClampNeg a2)) (fun (I5 : zk_I) =>
      zk_lt (zk_sc I5 72 (upd (I5 72) 0 ((I5 72 0) + (1 : Int32)))) (fun (I6 : zk_I) =>
       some ((1 : Int32), I6))))))) else (
  some ((0 : Int32), I)))
set_option maxRecDepth 20000 in
theorem k_X4_add {X : zk_X} {I : zk_I} {J : zk_J} {a1 : Int32} {a2 : Int32} {r : Int32} {IR : zk_I} (h : f_X4_add I a1 a2 = some (r, IR)) : zC X 1 m_X4_add 0 (zk_ent [.ref 72, .int a1, .int a2] 3) [] (z_Z, I, J) 0 0 (some (.int r)) (z_Z, IR, J) := by
  unfold f_X4_add at h
  refine c_ent (L2 := [some (.ref 72), some (.int a1), some (.int a2)]) rfl ?_
  refine c_aload_n rfl rfl ?_
  refine c_getI rfl fk_X4_21 rfl (Nat.le_of_ble_eq_true rfl) ?_
  refine c_bipush rfl vb_8 ?_
  refine c_icmp_lt rfl (fun q1 => ?_) (fun q1 => ?_)
  · rw [if_pos q1] at h
    refine c_aload_n rfl rfl ?_
    refine c_getR rfl fk_X4_9 rfl (Nat.le_of_ble_eq_true rfl) rfl ?_
    refine c_aload_n rfl rfl ?_
    refine c_getI rfl fk_X4_21 rfl (Nat.le_of_ble_eq_true rfl) ?_
    refine c_iload_n rfl rfl ?_
    obtain ⟨q2, h⟩ := zk_ck_e h
    refine e_iast rfl rfl (Nat.le_of_ble_eq_true rfl) q2 rfl ?_
    obtain ⟨I3, hI3, h⟩ := zk_lt_g h
    refine c_memI hI3 ?_
    refine c_aload_n rfl rfl ?_
    refine c_getR rfl fk_X4_15 rfl (Nat.le_of_ble_eq_true rfl) rfl ?_
    refine c_aload_n rfl rfl ?_
    refine c_getI rfl fk_X4_21 rfl (Nat.le_of_ble_eq_true rfl) ?_
    refine c_iload_n rfl rfl ?_
    obtain ⟨q4, h⟩ := zk_ck_e h
    refine e_iast rfl rfl (Nat.le_of_ble_eq_true rfl) q4 rfl ?_
    obtain ⟨I5, hI5, h⟩ := zk_lt_g h
    refine c_memI hI5 ?_
    refine c_aload_n rfl rfl ?_
    refine c_dup rfl rfl ?_
    refine c_getI rfl fk_X4_21 rfl (Nat.le_of_ble_eq_true rfl) ?_
    refine c_iconst rfl vi_1 ?_
    refine c_iadd rfl ?_
    refine c_putI rfl fk_X4_21 rfl rfl (Nat.le_of_ble_eq_true rfl) ?_
    obtain ⟨I6, hI6, h⟩ := zk_lt_g h
    refine c_memI hI6 ?_
    refine c_iconst rfl vi_1 ?_
    obtain ⟨rfl, rfl⟩ := zk_r2 h
    exact c_ireturn rfl rfl zk_nb1
  · rw [if_neg q1] at h
    refine c_iconst rfl vi_0 ?_
    obtain ⟨rfl, rfl⟩ := zk_r2 h
    exact c_ireturn rfl rfl zk_nb0
def l_X4_hasRing_12 (I : zk_I) (p1 : Int32) (K : Int32 → Option (Int32)) : Nat → Int32 → Int32 → Option (Int32)
  | 0, _, _ => none
  | n + 1, y2, y3 => (if (8 : Int32) ≤ y3 then (
    K y2) else (
    (if y2 = (-1 : Int32) then (
     K y2) else (
     zk_ck (zk_in y2 8) (
      zk_lt (I 75 y2.toNatClampNeg) (fun (x5 : Int32) =>
       l_X4_hasRing_12 I p1 K n x5 (y3 + (1 : Int32))))))))
def l_X4_hasRing_2 (I : zk_I) (K : Option (Int32)) : Nat → Int32 → Option (Int32)
  | 0, _ => none
  | n + 1, y1 => (if (8 : Int32) ≤ y1 then (
    K) else (
    l_X4_hasRing_12 I y1 (fun (z6 : Int32) =>
     (if z6 = (-1 : Int32) then (
      l_X4_hasRing_2 I K n (y1 + (1 : Int32))) else (
      some (1 : Int32)))) 3000 y1 (0 : Int32)))
def f_X4_hasRing (I : zk_I) : Option (Int32) := l_X4_hasRing_2 I (some (0 : Int32)) 3000 (0 : Int32)
set_option maxRecDepth 20000 in
theorem kl_X4_hasRing_12 {X : zk_X} {I : zk_I} {p1 : Int32} {J : zk_J} {K : Int32 → Option (Int32)} {r : Int32} (jK : ∀ (z2 : Int32), K z2 = some r → zC X 1 m_X4_hasRing 36 [some (.ref 72), some (.int p1), some (.int z2), none] [] (z_Z, I, J) 0 0 (some (.int r)) (z_Z, I, J)) : ∀ (n : Nat) (y2 : Int32) (y3 : Int32), l_X4_hasRing_12 I p1 K n y2 y3 = some r → zC X 1 m_X4_hasRing 12 [some (.ref 72), some (.int p1), some (.int y2), some (.int y3)] [] (z_Z, I, J) 0 0 (some (.int r)) (z_Z, I, J) := by
  intro n
  induction n with
  | zero =>
    intro y2 y3 h
    cases h
  | succ n ih =>
    intro y2 y3 h
    rw [l_X4_hasRing_12] at h
    refine c_iload_n rfl rfl ?_
    refine c_bipush rfl vb_8 ?_
    refine c_icmp_ge rfl (fun q2 => ?_) (fun q2 => ?_)
    · rw [if_pos q2] at h
      refine c_drop [true, true, true, false] (L2 := [some (.ref 72), some (.int p1), some (.int y2), none]) rfl ?_
      exact jK _ h
    · rw [if_neg q2] at h
      refine c_iload_n rfl rfl ?_
      refine c_iconst rfl vi_m1 ?_
      refine c_icmp_eq rfl (fun q3 => ?_) (fun q3 => ?_)
      · rw [if_pos q3] at h
        refine c_drop [true, true, true, false] (L2 := [some (.ref 72), some (.int p1), some (.int y2), none]) rfl ?_
        exact jK _ h
      · rw [if_neg q3] at h
        refine c_aload_n rfl rfl ?_
        refine c_getR rfl fk_X4_18 rfl (Nat.le_of_ble_eq_true rfl) rfl ?_
        refine c_iload_n rfl rfl ?_
        obtain ⟨q4, h⟩ := zk_ck_e h
        refine e_iald rfl rfl (Nat.le_of_ble_eq_true rfl) q4 rfl ?_
        obtain ⟨x5, hx5, h⟩ := zk_lt_g h
        refine c_topi hx5 ?_
        refine e_istore_n (L2 := [some (.ref 72), some (.int p1), some (.int x5), some (.int y3)]) rfl rfl rfl rfl ?_
        refine e_iinc (L2 := [some (.ref 72), some (.int p1), some (.int x5), some (.int (y3 + (1 : Int32)))]) rfl rfl vi_1 rfl rfl rfl ?_
        refine c_goto rfl ?_
        exact ih _ _ h
set_option maxRecDepth 20000 in
theorem kl_X4_hasRing_2 {X : zk_X} {I : zk_I} {J : zk_J} {K : Option (Int32)} {r : Int32} (jK : K  = some r → zC X 1 m_X4_hasRing 49 [none, none, none, none] [] (z_Z, I, J) 0 0 (some (.int r)) (z_Z, I, J)) : ∀ (n : Nat) (y1 : Int32), l_X4_hasRing_2 I K n y1 = some r → zC X 1 m_X4_hasRing 2 [some (.ref 72), some (.int y1), none, none] [] (z_Z, I, J) 0 0 (some (.int r)) (z_Z, I, J) := by
  intro n
  induction n with
  | zero =>
    intro y1 h
    cases h
  | succ n ih =>
    intro y1 h
    rw [l_X4_hasRing_2] at h
    refine c_iload_n rfl rfl ?_
    refine c_bipush rfl vb_8 ?_
    refine c_icmp_ge rfl (fun q1 => ?_) (fun q1 => ?_)
    · rw [if_pos q1] at h
      refine c_drop [false, false, true, true] (L2 := [none, none, none, none]) rfl ?_
      exact jK h
    · rw [if_neg q1] at h
      refine c_iload_n rfl rfl ?_
      refine e_istore_n (L2 := [some (.ref 72), some (.int y1), some (.int y1), none]) rfl rfl rfl rfl ?_
      refine c_iconst rfl vi_0 ?_
      refine e_istore_n (L2 := [some (.ref 72), some (.int y1), some (.int y1), some (.int (0 : Int32))]) rfl rfl rfl rfl ?_
      refine kl_X4_hasRing_12 (fun z6 h => ?_) _ _ _ h
      refine c_iload_n rfl rfl ?_
      refine c_iconst rfl vi_m1 ?_
      refine c_icmp_eq rfl (fun q7 => ?_) (fun q7 => ?_)
      · rw [if_pos q7] at h
        refine e_iinc (L2 := [some (.ref 72), some (.int (y1 + (1 : Int32))), some (.int z6), none]) rfl rfl vi_1 rfl rfl rfl ?_
        refine c_goto rfl ?_
        refine c_drop [true, true, false, true] (L2 := [some (.ref 72), some (.int (y1 + (1 : Int32))), none, none]) rfl ?_
        exact ih _ h
      · rw [if_neg q7] at h
        refine c_iconst rfl vi_1 ?_
        have h := zk_r1 h
        subst h
        exact c_ireturn rfl rfl zk_nb1
set_option maxRecDepth 20000 in
theorem k_X4_hasRing {X : zk_X} {I : zk_I} {J : zk_J} {r : Int32} (h : f_X4_hasRing I = some r) : zC X 1 m_X4_hasRing 0 (zk_ent [.ref 72] 4) [] (z_Z, I, J) 0 0 (some (.int r)) (z_Z, I, J) := by
  unfold f_X4_hasRing at h
  refine c_ent (L2 := [some (.ref 72), none, none, none]) rfl ?_
  refine c_iconst rfl vi_0 ?_
  refine e_istore_n (L2 := [some (.ref 72), some (.int (0 : Int32)), none, none]) rfl rfl rfl rfl ?_
  refine kl_X4_hasRing_2 (fun h => ?_) _ _ h
  refine c_iconst rfl vi_0 ?_
  have h := zk_r1 h
  subst h
  exact c_ireturn rfl rfl zk_nb0
def l_X4_fitWithout_12 (p1 : Int32) (K : zk_I → Option (Int32 × zk_I)) : Nat → Int32 → Int32 → zk_I → Option (Int32 × zk_I)
  | 0, _, _, _ => none
  | n + 1, y2, y3, Iy => (if (Iy 72 0) ≤ y3 then (
    K Iy) else (
    zk_lt (f_X7_hasBit p1 y3) (fun (r5 : Int32) =>
     zk_jp2 (fun (v7 : Int32) (I8 : zk_I) =>
      l_X4_fitWithout_12 p1 K n v7 (y3 + (1 : Int32)) I8) (fun (K9 : Int32 → zk_I → Option (Int32 × zk_I)) =>
      (if r5 = 0 then (
       zk_ck (zk_in y3 8) (
        zk_ck (zk_in (Iy 73 y3.toNatClampNeg) 8) (
         (if (Iy 75 (Iy 73 y3.toNatClampNeg).toNatClampNeg) = (-1 : Int32) then (
          zk_ck (zk_in y3 8) (
           zk_lt (f_X7_hasBit y2 (Iy 74 y3.toNatClampNeg)) (fun (r15 : Int32) =>
            (if r15 = 0 then (
             zk_ck (zk_in y3 8) (
              zk_ck (zk_in y3 8) (
               zk_ck (zk_in (Iy 73 y3.toNatClampNeg) 8) (
                zk_lt (zk_sc Iy 75 (upd (Iy 75) (Iy 73 y3.toNatClampNeg).toNatClampNeg (Iy 74 y3.toNatClampNeg))) (fun (I20 : zk_I) =>
                 zk_ck (zk_in y3 8) (
                  zk_lt (y2 ||| ((1 : Int32) <<< ((I20 74 y3.toNatClampNeg) &&& 31))) (fun (x22 : Int32) =>
                   K9 x22 I20))))))) else (
             some ((0 : Int32), Iy)))))) else (
          some ((0 : Int32), Iy)))))) else (
       K9 y2 Iy))))))
def f_X4_fitWithout (I : zk_I) (a1 : Int32) : Option (Int32 × zk_I) := zk_bd1 (f_J7_fill_53178 I 75 8 (-1 : Int32)) (fun (I2 : zk_I) =>
  l_X4_fitWithout_12 a1 (fun (I23 : zk_I) =>
   zk_bd1 (f_X4_hasRing I23) (fun (r25 : Int32) =>
    (if r25 = 0 then (
     some ((1 : Int32), I23)) else (
     some ((0 : Int32), I23))))) 3000 (0 : Int32) (0 : Int32) I2)
set_option maxRecDepth 20000 in
theorem kl_X4_fitWithout_12 {X : zk_X} {p1 : Int32} {J : zk_J} {K : zk_I → Option (Int32 × zk_I)} {r : Int32} {IR : zk_I} (jK : ∀ (Iz : zk_I), K Iz = some (r, IR) → zC X 2 m_X4_fitWithout 95 [some (.ref 72), none, none, none] [] (z_Z, Iz, J) 0 0 (some (.int r)) (z_Z, IR, J)) : ∀ (n : Nat) (y2 : Int32) (y3 : Int32) (Iy : zk_I), l_X4_fitWithout_12 p1 K n y2 y3 Iy = some (r, IR) → zC X 2 m_X4_fitWithout 12 [some (.ref 72), some (.int p1), some (.int y2), some (.int y3)] [] (z_Z, Iy, J) 0 0 (some (.int r)) (z_Z, IR, J) := by
  intro n
  induction n with
  | zero =>
    intro y2 y3 Iy h
    cases h
  | succ n ih =>
    intro y2 y3 Iy h
    rw [l_X4_fitWithout_12] at h
    refine c_iload_n rfl rfl ?_
    refine c_aload_n rfl rfl ?_
    refine c_getI rfl fk_X4_21 rfl (Nat.le_of_ble_eq_true rfl) ?_
    refine c_icmp_ge rfl (fun q3 => ?_) (fun q3 => ?_)
    · rw [if_pos q3] at h
      refine c_drop [true, false, false, false] (L2 := [some (.ref 72), none, none, none]) rfl ?_
      exact jK _ h
    · rw [if_neg q3] at h
      refine c_iload_n rfl rfl ?_
      refine c_iload_n rfl rfl ?_
      obtain ⟨r5, h4, h⟩ := zk_lt_g h
      refine e_callSN (As := [.int p1, .int y3]) (st := []) rfl lk_X4_39 rfl rfl rfl (Nat.le_of_ble_eq_true rfl) rfl (k_X7_hasBit h4.symm) ?_
      refine zk_jp2_e (Z := fun (v7 : Int32) (I8 : zk_I) => zC X 2 m_X4_fitWithout 89 [some (.ref 72), some (.int p1), some (.int v7), some (.int y3)] [] (z_Z, I8, J) 0 0 (some (.int r)) (z_Z, IR, J)) h (fun v7 I8 h => ?_) (fun K9 jK9 h => ?_)
      · refine e_iinc (L2 := [some (.ref 72), some (.int p1), some (.int v7), some (.int (y3 + (1 : Int32)))]) rfl rfl vi_1 rfl rfl rfl ?_
        refine c_goto rfl ?_
        exact ih _ _ _ h
      · refine c_if_eq rfl (fun q6 => ?_) (fun q6 => ?_)
        · rw [if_pos q6] at h
          refine c_aload_n rfl rfl ?_
          refine c_getR rfl fk_X4_18 rfl (Nat.le_of_ble_eq_true rfl) rfl ?_
          refine c_aload_n rfl rfl ?_
          refine c_getR rfl fk_X4_9 rfl (Nat.le_of_ble_eq_true rfl) rfl ?_
          refine c_iload_n rfl rfl ?_
          obtain ⟨q10, h⟩ := zk_ck_e h
          refine e_iald rfl rfl (Nat.le_of_ble_eq_true rfl) q10 rfl ?_
          obtain ⟨q11, h⟩ := zk_ck_e h
          refine e_iald rfl rfl (Nat.le_of_ble_eq_true rfl) q11 rfl ?_
          refine c_iconst rfl vi_m1 ?_
          refine c_icmp_ne rfl (fun q12 => ?_) (fun q12 => ?_)
          · rw [if_neg q12] at h
            refine c_iconst rfl vi_0 ?_
            obtain ⟨rfl, rfl⟩ := zk_r2 h
            exact c_ireturn rfl rfl zk_nb0
          · rw [if_pos q12] at h
            refine c_iload_n rfl rfl ?_
            refine c_aload_n rfl rfl ?_
            refine c_getR rfl fk_X4_15 rfl (Nat.le_of_ble_eq_true rfl) rfl ?_
            refine c_iload_n rfl rfl ?_
            obtain ⟨q13, h⟩ := zk_ck_e h
            refine e_iald rfl rfl (Nat.le_of_ble_eq_true rfl) q13 rfl ?_
            obtain ⟨r15, h14, h⟩ := zk_lt_g h
            refine e_callSN (As := [.int y2, .int (Iy 74 y3.toNatClampNeg)]) (st := []) rfl lk_X4_39 rfl rfl rfl (Nat.le_of_ble_eq_true rfl) rfl (k_X7_hasBit h14.symm) ?_
            refine c_if_eq rfl (fun q16 => ?_) (fun q16 => ?_)
            · rw [if_pos q16] at h
              refine c_aload_n rfl rfl ?_
              refine c_getR rfl fk_X4_18 rfl (Nat.le_of_ble_eq_true rfl) rfl ?_
              refine c_aload_n rfl rfl ?_
              refine c_getR rfl fk_X4_9 rfl (Nat.le_of_ble_eq_true rfl) rfl ?_
              refine c_iload_n rfl rfl ?_
              obtain ⟨q17, h⟩ := zk_ck_e h
              refine e_iald rfl rfl (Nat.le_of_ble_eq_true rfl) q17 rfl ?_
              refine c_aload_n rfl rfl ?_
              refine c_getR rfl fk_X4_15 rfl (Nat.le_of_ble_eq_true rfl) rfl ?_
              refine c_iload_n rfl rfl ?_
              obtain ⟨q18, h⟩ := zk_ck_e h
              refine e_iald rfl rfl (Nat.le_of_ble_eq_true rfl) q18 rfl ?_
              obtain ⟨q19, h⟩ := zk_ck_e h
              refine e_iast rfl rfl (Nat.le_of_ble_eq_true rfl) q19 rfl ?_
              obtain ⟨I20, hI20, h⟩ := zk_lt_g h
              refine c_memI hI20 ?_
              refine c_iload_n rfl rfl ?_
              refine c_iconst rfl vi_1 ?_
              refine c_aload_n rfl rfl ?_
              refine c_getR rfl fk_X4_15 rfl (Nat.le_of_ble_eq_true rfl) rfl ?_
              refine c_iload_n rfl rfl ?_
              obtain ⟨q21, h⟩ := zk_ck_e h
              refine e_iald rfl rfl (Nat.le_of_ble_eq_true rfl) q21 rfl ?_
              refine c_ishl rfl ?_
              refine c_ior rfl ?_
              obtain ⟨x22, hx22, h⟩ := zk_lt_g h
              refine c_topi hx22 ?_
              refine e_istore_n (L2 := [some (.ref 72), some (.int p1), some (.int x22), some (.int y3)]) rfl rfl rfl rfl ?_
              exact jK9 _ _ h
            · rw [if_neg q16] at h
              refine c_iconst rfl vi_0 ?_
              obtain ⟨rfl, rfl⟩ := zk_r2 h
              exact c_ireturn rfl rfl zk_nb0
        · rw [if_neg q6] at h
          refine c_goto rfl ?_
          exact jK9 _ _ h
set_option maxRecDepth 20000 in
theorem k_X4_fitWithout {X : zk_X} {I : zk_I} {J : zk_J} {a1 : Int32} {r : Int32} {IR : zk_I} (h : f_X4_fitWithout I a1 = some (r, IR)) : zC X 2 m_X4_fitWithout 0 (zk_ent [.ref 72, .int a1] 4) [] (z_Z, I, J) 0 0 (some (.int r)) (z_Z, IR, J) := by
  unfold f_X4_fitWithout at h
  refine c_ent (L2 := [some (.ref 72), some (.int a1), none, none]) rfl ?_
  refine c_aload_n rfl rfl ?_
  refine c_getR rfl fk_X4_18 rfl (Nat.le_of_ble_eq_true rfl) rfl ?_
  refine c_iconst rfl vi_m1 ?_
  obtain ⟨I2, h1, h⟩ := zk_bd1_e h
  refine e_callS (As := [.ref 75, .int (-1 : Int32)]) (st := []) rfl lk_X4_52 rfl rfl rfl (Nat.le_of_ble_eq_true rfl) rfl (k_J7_fill_53178 rfl (Nat.le_of_ble_eq_true rfl) h1) ?_
  refine c_iconst rfl vi_0 ?_
  refine e_istore_n (L2 := [some (.ref 72), some (.int a1), some (.int (0 : Int32)), none]) rfl rfl rfl rfl ?_
  refine c_iconst rfl vi_0 ?_
  refine e_istore_n (L2 := [some (.ref 72), some (.int a1), some (.int (0 : Int32)), some (.int (0 : Int32))]) rfl rfl rfl rfl ?_
  refine kl_X4_fitWithout_12 (fun I23 h => ?_) _ _ _ _ h
  refine c_aload_n rfl rfl ?_
  obtain ⟨r25, h24, h⟩ := zk_bd1_e h
  refine e_callV (As := []) (st := []) rfl lk_X4_58 rfl (Nat.le_of_ble_eq_true rfl) rfl rfl rfl (Nat.le_of_ble_eq_true rfl) rfl (k_X4_hasRing h24) ?_
  refine c_if_ne rfl (fun q26 => ?_) (fun q26 => ?_)
  · rw [if_neg q26] at h
    refine c_iconst rfl vi_0 ?_
    obtain ⟨rfl, rfl⟩ := zk_r2 h
    exact c_ireturn rfl rfl zk_nb0
  · rw [if_pos q26] at h
    refine c_iconst rfl vi_1 ?_
    refine c_goto rfl ?_
    obtain ⟨rfl, rfl⟩ := zk_r2 h
    exact c_ireturn rfl rfl zk_nb1
def f_X6_namable (I : zk_I) (t : Nat) (a1 : Int32) (a2 : Int32) : Option (Int32) := zk_bd1 (f_X6_liked I t a1) (fun (r2 : Int32) =>
  zk_bd1 (f_X6_stillHere I t a2) (fun (r4 : Int32) =>
   some (r2 &&& r4)))
set_option maxRecDepth 20000 in
theorem k_X6_namable {X : zk_X} {I : zk_I} {J : zk_J} {t : Nat} {a1 : Int32} {a2 : Int32} {r : Int32} (h_t : z_isT t = true) (h : f_X6_namable I t a1 a2 = some r) : zC X 4 m_X6_namable 0 (zk_ent [.ref t, .int a1, .int a2] 3) [] (z_Z, I, J) 0 0 (some (.int r)) (z_Z, I, J) := by
  unfold f_X6_namable at h
  refine c_ent (L2 := [some (.ref t), some (.int a1), some (.int a2)]) rfl ?_
  refine c_aload_n rfl rfl ?_
  refine c_iload_n rfl rfl ?_
  obtain ⟨r2, h1, h⟩ := zk_bd1_e h
  refine e_callV (As := [.int a1]) (st := []) rfl lk_X6_52 (zT_S h_t) (zT_z h_t) rfl rfl rfl (Nat.le_of_ble_eq_true rfl) rfl (k_X6_liked h_t h1) ?_
  refine c_aload_n rfl rfl ?_
  refine c_iload_n rfl rfl ?_
  obtain ⟨r4, h3, h⟩ := zk_bd1_e h
  refine e_callV (As := [.int a2]) (st := [.int r2]) rfl lk_X6_55 (zT_S h_t) (zT_z h_t) rfl rfl rfl (Nat.le_of_ble_eq_true rfl) rfl (k_X6_stillHere h_t h3) ?_
  refine c_iand rfl ?_
  have h := zk_r1 h
  subst h
  exact c_ireturn rfl rfl rfl
def l_X4_forbidden_4 (I : zk_I) (K : Int32 → Option (Int32)) : Nat → Int32 → Int32 → Option (Int32)
  | 0, _, _ => none
  | n + 1, y2, y3 => (if (I 72 0) ≤ y3 then (
    K y2) else (
    zk_ck (zk_in y3 8) (
     zk_bd1 (f_X6_namable I 3 (I 73 y3.toNatClampNeg) (0 : Int32)) (fun (r4 : Int32) =>
      zk_ck (zk_in y3 8) (
       zk_lt (f_X7_hasBit r4 (I 74 y3.toNatClampNeg)) (fun (r7 : Int32) =>
        zk_jp1 (fun (v9 : Int32) =>
         l_X4_forbidden_4 I K n v9 (y3 + (1 : Int32))) (fun (K10 : Int32 → Option (Int32)) =>
         (if r7 = 0 then (
          zk_lt (y2 ||| ((1 : Int32) <<< (y3 &&& 31))) (fun (x11 : Int32) =>
           K10 x11)) else (
          K10 y2)))))))))
def f_X4_forbidden (I : zk_I) : Option (Int32) := l_X4_forbidden_4 I (fun (z12 : Int32) =>
  some z12) 3000 (0 : Int32) (0 : Int32)
set_option maxRecDepth 20000 in
theorem kl_X4_forbidden_4 {X : zk_X} {I : zk_I} {J : zk_J} {K : Int32 → Option (Int32)} {r : Int32} (jK : ∀ (z2 : Int32), K z2 = some r → zC X 5 m_X4_forbidden 47 [none, none, some (.int z2), none] [] (z_Z, I, J) 0 0 (some (.int r)) (z_Z, I, J)) : ∀ (n : Nat) (y2 : Int32) (y3 : Int32), l_X4_forbidden_4 I K n y2 y3 = some r → zC X 5 m_X4_forbidden 4 [some (.ref 72), some (.ref 3), some (.int y2), some (.int y3)] [] (z_Z, I, J) 0 0 (some (.int r)) (z_Z, I, J) := by
  intro n
  induction n with
  | zero =>
    intro y2 y3 h
    cases h
  | succ n ih =>
    intro y2 y3 h
    rw [l_X4_forbidden_4] at h
    refine c_iload_n rfl rfl ?_
    refine c_aload_n rfl rfl ?_
    refine c_getI rfl fk_X4_21 rfl (Nat.le_of_ble_eq_true rfl) ?_
    refine c_icmp_ge rfl (fun q1 => ?_) (fun q1 => ?_)
    · rw [if_pos q1] at h
      refine c_drop [false, false, true, false] (L2 := [none, none, some (.int y2), none]) rfl ?_
      exact jK _ h
    · rw [if_neg q1] at h
      refine c_aload_n rfl rfl ?_
      refine c_aload_n rfl rfl ?_
      refine c_getR rfl fk_X4_9 rfl (Nat.le_of_ble_eq_true rfl) rfl ?_
      refine c_iload_n rfl rfl ?_
      obtain ⟨q2, h⟩ := zk_ck_e h
      refine e_iald rfl rfl (Nat.le_of_ble_eq_true rfl) q2 rfl ?_
      refine c_iconst rfl vi_0 ?_
      obtain ⟨r4, h3, h⟩ := zk_bd1_e h
      refine e_callV (As := [.int (I 73 y3.toNatClampNeg), .int (0 : Int32)]) (st := []) rfl lk_X4_46 rfl (Nat.le_of_ble_eq_true rfl) rfl rfl rfl (Nat.le_of_ble_eq_true rfl) rfl (k_X6_namable (rfl : z_isT 3 = true) h3) ?_
      refine c_aload_n rfl rfl ?_
      refine c_getR rfl fk_X4_15 rfl (Nat.le_of_ble_eq_true rfl) rfl ?_
      refine c_iload_n rfl rfl ?_
      obtain ⟨q5, h⟩ := zk_ck_e h
      refine e_iald rfl rfl (Nat.le_of_ble_eq_true rfl) q5 rfl ?_
      obtain ⟨r7, h6, h⟩ := zk_lt_g h
      refine e_callSN (As := [.int r4, .int (I 74 y3.toNatClampNeg)]) (st := []) rfl lk_X4_39 rfl rfl rfl (Nat.le_of_ble_eq_true rfl) rfl (k_X7_hasBit h6.symm) ?_
      refine zk_jp1_e (Z := fun (v9 : Int32) => zC X 5 m_X4_forbidden 41 [some (.ref 72), some (.ref 3), some (.int v9), some (.int y3)] [] (z_Z, I, J) 0 0 (some (.int r)) (z_Z, I, J)) h (fun v9 h => ?_) (fun K10 jK10 h => ?_)
      · refine e_iinc (L2 := [some (.ref 72), some (.ref 3), some (.int v9), some (.int (y3 + (1 : Int32)))]) rfl rfl vi_1 rfl rfl rfl ?_
        refine c_goto rfl ?_
        exact ih _ _ h
      · refine c_if_ne rfl (fun q8 => ?_) (fun q8 => ?_)
        · rw [if_neg q8] at h
          exact jK10 _ h
        · rw [if_pos q8] at h
          refine c_iload_n rfl rfl ?_
          refine c_iconst rfl vi_1 ?_
          refine c_iload_n rfl rfl ?_
          refine c_ishl rfl ?_
          refine c_ior rfl ?_
          obtain ⟨x11, hx11, h⟩ := zk_lt_g h
          refine c_topi hx11 ?_
          refine e_istore_n (L2 := [some (.ref 72), some (.ref 3), some (.int x11), some (.int y3)]) rfl rfl rfl rfl ?_
          exact jK10 _ h
set_option maxRecDepth 20000 in
theorem k_X4_forbidden {X : zk_X} {I : zk_I} {J : zk_J} {r : Int32} (h : f_X4_forbidden I = some r) : zC X 5 m_X4_forbidden 0 (zk_ent [.ref 72, .ref 3] 4) [] (z_Z, I, J) 0 0 (some (.int r)) (z_Z, I, J) := by
  unfold f_X4_forbidden at h
  refine c_ent (L2 := [some (.ref 72), some (.ref 3), none, none]) rfl ?_
  refine c_iconst rfl vi_0 ?_
  refine e_istore_n (L2 := [some (.ref 72), some (.ref 3), some (.int (0 : Int32)), none]) rfl rfl rfl rfl ?_
  refine c_iconst rfl vi_0 ?_
  refine e_istore_n (L2 := [some (.ref 72), some (.ref 3), some (.int (0 : Int32)), some (.int (0 : Int32))]) rfl rfl rfl rfl ?_
  refine kl_X4_forbidden_4 (fun z12 h => ?_) _ _ _ h
  refine c_iload_n rfl rfl ?_
  have h := zk_r1 h
  subst h
  exact c_ireturn rfl rfl rfl
def l_X4_forgedSet_18 (p2 : Int32) (K : Int32 → zk_I → Option (Int32 × zk_I)) : Nat → Int32 → Int32 → zk_I → Option (Int32 × zk_I)
  | 0, _, _, _ => none
  | n + 1, y3, y4, Iy => (if ((1 : Int32) <<< ((Iy 72 0) &&& 31)) ≤ y4 then (
    K y3 Iy) else (
    zk_lt (f_J6_bitCount_0f7a4 y4) (fun (r6 : Int32) =>
     zk_lt (f_J6_bitCount_0f7a4 y3) (fun (r8 : Int32) =>
      zk_lt ((if r8 ≤ r6 then (0 : Int32) else (1 : Int32))) (fun (v10 : Int32) =>
       zk_jp2 (fun (v13 : Int32) (I14 : zk_I) =>
        l_X4_forgedSet_18 p2 K n v13 (y4 + (1 : Int32)) I14) (fun (K15 : Int32 → zk_I → Option (Int32 × zk_I)) =>
        (if v10 = 0 then (
         K15 y3 Iy) else (
         (if (y4 &&& p2) = p2 then (
          zk_bd2 (f_X4_fitWithout Iy y4) (fun (r18 : Int32) (I19 : zk_I) =>
           (if r18 = 0 then (
            K15 y3 I19) else (
            K15 y4 I19)))) else (
          K15 y3 Iy))))))))))
def f_X4_forgedSet (I : zk_I) : Option (Int32 × zk_I) := zk_bd1 (f_X4_forbidden I) (fun (r2 : Int32) =>
  zk_lt (((1 : Int32) <<< ((I 72 0) &&& 31)) - (1 : Int32)) (fun (x3 : Int32) =>
   l_X4_forgedSet_18 r2 (fun (z21 : Int32) (I22 : zk_I) =>
    some (z21, I22)) 3000 x3 (0 : Int32) I))
set_option maxRecDepth 20000 in
theorem kl_X4_forgedSet_18 {X : zk_X} {p2 : Int32} {J : zk_J} {K : Int32 → zk_I → Option (Int32 × zk_I)} {r : Int32} {IR : zk_I} (jK : ∀ (z3 : Int32) (Iz : zk_I), K z3 Iz = some (r, IR) → zC X 6 m_X4_forgedSet 79 [none, none, none, some (.int z3), none, none] [] (z_Z, Iz, J) 0 0 (some (.int r)) (z_Z, IR, J)) : ∀ (n : Nat) (y3 : Int32) (y4 : Int32) (Iy : zk_I), l_X4_forgedSet_18 p2 K n y3 y4 Iy = some (r, IR) → zC X 6 m_X4_forgedSet 18 [some (.ref 72), none, some (.int p2), some (.int y3), some (.int y4), none] [] (z_Z, Iy, J) 0 0 (some (.int r)) (z_Z, IR, J) := by
  intro n
  induction n with
  | zero =>
    intro y3 y4 Iy h
    cases h
  | succ n ih =>
    intro y3 y4 Iy h
    rw [l_X4_forgedSet_18] at h
    refine c_iload rfl rfl ?_
    refine c_iconst rfl vi_1 ?_
    refine c_aload_n rfl rfl ?_
    refine c_getI rfl fk_X4_21 rfl (Nat.le_of_ble_eq_true rfl) ?_
    refine c_ishl rfl ?_
    refine c_icmp_ge rfl (fun q4 => ?_) (fun q4 => ?_)
    · rw [if_pos q4] at h
      refine c_drop [false, true, false, true, false, true] (L2 := [none, none, none, some (.int y3), none, none]) rfl ?_
      exact jK _ _ h
    · rw [if_neg q4] at h
      refine c_iload rfl rfl ?_
      obtain ⟨r6, h5, h⟩ := zk_lt_g h
      refine e_callS (As := [.int y4]) (st := []) rfl lk_X4_29 rfl rfl rfl (Nat.le_of_ble_eq_true rfl) rfl (k_J6_bitCount_0f7a4 h5.symm) ?_
      refine c_iload_n rfl rfl ?_
      obtain ⟨r8, h7, h⟩ := zk_lt_g h
      refine e_callS (As := [.int y3]) (st := [.int r6]) rfl lk_X4_29 rfl rfl rfl (Nat.le_of_ble_eq_true rfl) rfl (k_J6_bitCount_0f7a4 h7.symm) ?_
      refine zk_lt1K (Z := fun (v10 : Int32) => zC X 6 m_X4_forgedSet 46 [some (.ref 72), none, some (.int p2), some (.int y3), some (.int y4), none] [.int v10] (z_Z, Iy, J) 0 0 (some (.int r)) (z_Z, IR, J)) h (fun v10 h => ?_) (fun hz => ?_)
      · refine e_istore (L2 := [some (.ref 72), none, some (.int p2), some (.int y3), some (.int y4), some (.int v10)]) rfl rfl rfl rfl ?_
        refine c_iload rfl rfl ?_
        refine zk_jp2_e (Z := fun (v13 : Int32) (I14 : zk_I) => zC X 6 m_X4_forgedSet 73 [some (.ref 72), none, some (.int p2), some (.int v13), some (.int y4), none] [] (z_Z, I14, J) 0 0 (some (.int r)) (z_Z, IR, J)) h (fun v13 I14 h => ?_) (fun K15 jK15 h => ?_)
        · refine e_iinc (L2 := [some (.ref 72), none, some (.int p2), some (.int v13), some (.int (y4 + (1 : Int32))), none]) rfl rfl vi_1 rfl rfl rfl ?_
          refine c_goto rfl ?_
          exact ih _ _ _ h
        · refine c_if_eq rfl (fun q12 => ?_) (fun q12 => ?_)
          · rw [if_pos q12] at h
            refine c_drop [true, true, true, true, true, false] (L2 := [some (.ref 72), none, some (.int p2), some (.int y3), some (.int y4), none]) rfl ?_
            exact jK15 _ _ h
          · rw [if_neg q12] at h
            refine c_iload rfl rfl ?_
            refine c_iload_n rfl rfl ?_
            refine c_iand rfl ?_
            refine c_iload_n rfl rfl ?_
            refine c_icmp_ne rfl (fun q16 => ?_) (fun q16 => ?_)
            · rw [if_neg q16] at h
              refine c_drop [true, true, true, true, true, false] (L2 := [some (.ref 72), none, some (.int p2), some (.int y3), some (.int y4), none]) rfl ?_
              exact jK15 _ _ h
            · rw [if_pos q16] at h
              refine c_aload_n rfl rfl ?_
              refine c_iload rfl rfl ?_
              obtain ⟨r18, I19, h17, h⟩ := zk_bd2_e h
              refine e_callV (As := [.int y4]) (st := []) rfl lk_X4_35 rfl (Nat.le_of_ble_eq_true rfl) rfl rfl rfl (Nat.le_of_ble_eq_true rfl) rfl (k_X4_fitWithout h17) ?_
              refine c_if_eq rfl (fun q20 => ?_) (fun q20 => ?_)
              · rw [if_pos q20] at h
                refine c_drop [true, true, true, true, true, false] (L2 := [some (.ref 72), none, some (.int p2), some (.int y3), some (.int y4), none]) rfl ?_
                exact jK15 _ _ h
              · rw [if_neg q20] at h
                refine c_iload rfl rfl ?_
                refine e_istore_n (L2 := [some (.ref 72), none, some (.int p2), some (.int y4), some (.int y4), some (.int v10)]) rfl rfl rfl rfl ?_
                refine c_drop [true, true, true, true, true, false] (L2 := [some (.ref 72), none, some (.int p2), some (.int y4), some (.int y4), none]) rfl ?_
                exact jK15 _ _ h
      · refine c_icmp_ge rfl (fun q9 => ?_) (fun q9 => ?_)
        · refine c_iconst rfl vi_0 ?_
          rw [if_pos q9] at hz
          exact hz
        · refine c_iconst rfl vi_1 ?_
          refine c_goto rfl ?_
          rw [if_neg q9] at hz
          exact hz
set_option maxRecDepth 20000 in
theorem k_X4_forgedSet {X : zk_X} {I : zk_I} {J : zk_J} {r : Int32} {IR : zk_I} (h : f_X4_forgedSet I = some (r, IR)) : zC X 6 m_X4_forgedSet 0 (zk_ent [.ref 72, .ref 3] 6) [] (z_Z, I, J) 0 0 (some (.int r)) (z_Z, IR, J) := by
  unfold f_X4_forgedSet at h
  refine c_ent (L2 := [some (.ref 72), some (.ref 3), none, none, none, none]) rfl ?_
  refine c_aload_n rfl rfl ?_
  refine c_aload_n rfl rfl ?_
  obtain ⟨r2, h1, h⟩ := zk_bd1_e h
  refine e_callV (As := [.ref 3]) (st := []) rfl lk_X4_25 rfl (Nat.le_of_ble_eq_true rfl) rfl rfl rfl (Nat.le_of_ble_eq_true rfl) rfl (k_X4_forbidden h1) ?_
  refine e_istore_n (L2 := [some (.ref 72), some (.ref 3), some (.int r2), none, none, none]) rfl rfl rfl rfl ?_
  refine c_iconst rfl vi_1 ?_
  refine c_aload_n rfl rfl ?_
  refine c_getI rfl fk_X4_21 rfl (Nat.le_of_ble_eq_true rfl) ?_
  refine c_ishl rfl ?_
  refine c_iconst rfl vi_1 ?_
  refine c_isub rfl ?_
  obtain ⟨x3, hx3, h⟩ := zk_lt_g h
  refine c_topi hx3 ?_
  refine e_istore_n (L2 := [some (.ref 72), some (.ref 3), some (.int r2), some (.int x3), none, none]) rfl rfl rfl rfl ?_
  refine c_iconst rfl vi_0 ?_
  refine e_istore (L2 := [some (.ref 72), some (.ref 3), some (.int r2), some (.int x3), some (.int (0 : Int32)), none]) rfl rfl rfl rfl ?_
  refine c_drop [true, false, true, true, true, true] (L2 := [some (.ref 72), none, some (.int r2), some (.int x3), some (.int (0 : Int32)), none]) rfl ?_
  refine kl_X4_forgedSet_18 (fun z21 I22 h => ?_) _ _ _ _ h
  refine c_iload_n rfl rfl ?_
  obtain ⟨rfl, rfl⟩ := zk_r2 h
  exact c_ireturn rfl rfl rfl
def l_X4_leastLastNamed_7 (I : zk_I) (p1 : Int32) (K : Int32 → Int32 → Option (Int32)) : Nat → Int32 → Int32 → Int32 → Option (Int32)
  | 0, _, _, _ => none
  | n + 1, y2, y3, y4 => (if (I 72 0) ≤ y4 then (
    K y2 y3) else (
    zk_lt (f_X7_hasBit p1 y4) (fun (r3 : Int32) =>
     zk_jp2 (fun (v5 : Int32) (v6 : Int32) =>
      l_X4_leastLastNamed_7 I p1 K n v5 v6 (y4 + (1 : Int32))) (fun (K7 : Int32 → Int32 → Option (Int32)) =>
      (if r3 = 0 then (
       zk_ck (zk_in y4 8) (
        zk_lt (y2 ||| ((1 : Int32) <<< ((I 73 y4.toNatClampNeg) &&& 31))) (fun (x9 : Int32) =>
         zk_ck (zk_in y4 8) (
          zk_lt (y3 ||| ((1 : Int32) <<< ((I 74 y4.toNatClampNeg) &&& 31))) (fun (x11 : Int32) =>
           K7 x9 x11))))) else (
       K7 y2 y3))))))
def f_X4_leastLastNamed (I : zk_I) (a1 : Int32) : Option (Int32) := l_X4_leastLastNamed_7 I a1 (fun (z12 : Int32) (z13 : Int32) =>
  zk_bd1 (f_X7_leastOf (z13 &&& (z12 ^^^ (-1 : Int32)))) (fun (r15 : Int32) =>
   some r15)) 3000 (0 : Int32) (0 : Int32) (0 : Int32)
set_option maxRecDepth 20000 in
theorem kl_X4_leastLastNamed_7 {X : zk_X} {I : zk_I} {p1 : Int32} {J : zk_J} {K : Int32 → Int32 → Option (Int32)} {r : Int32} (jK : ∀ (z2 : Int32) (z3 : Int32), K z2 z3 = some r → zC X 3 m_X4_leastLastNamed 55 [none, none, some (.int z2), some (.int z3), none] [] (z_Z, I, J) 0 0 (some (.int r)) (z_Z, I, J)) : ∀ (n : Nat) (y2 : Int32) (y3 : Int32) (y4 : Int32), l_X4_leastLastNamed_7 I p1 K n y2 y3 y4 = some r → zC X 3 m_X4_leastLastNamed 7 [some (.ref 72), some (.int p1), some (.int y2), some (.int y3), some (.int y4)] [] (z_Z, I, J) 0 0 (some (.int r)) (z_Z, I, J) := by
  intro n
  induction n with
  | zero =>
    intro y2 y3 y4 h
    cases h
  | succ n ih =>
    intro y2 y3 y4 h
    rw [l_X4_leastLastNamed_7] at h
    refine c_iload rfl rfl ?_
    refine c_aload_n rfl rfl ?_
    refine c_getI rfl fk_X4_21 rfl (Nat.le_of_ble_eq_true rfl) ?_
    refine c_icmp_ge rfl (fun q1 => ?_) (fun q1 => ?_)
    · rw [if_pos q1] at h
      refine c_drop [false, false, true, true, false] (L2 := [none, none, some (.int y2), some (.int y3), none]) rfl ?_
      exact jK _ _ h
    · rw [if_neg q1] at h
      refine c_iload_n rfl rfl ?_
      refine c_iload rfl rfl ?_
      obtain ⟨r3, h2, h⟩ := zk_lt_g h
      refine e_callSN (As := [.int p1, .int y4]) (st := []) rfl lk_X4_39 rfl rfl rfl (Nat.le_of_ble_eq_true rfl) rfl (k_X7_hasBit h2.symm) ?_
      refine zk_jp2_e (Z := fun (v5 : Int32) (v6 : Int32) => zC X 3 m_X4_leastLastNamed 49 [some (.ref 72), some (.int p1), some (.int v5), some (.int v6), some (.int y4)] [] (z_Z, I, J) 0 0 (some (.int r)) (z_Z, I, J)) h (fun v5 v6 h => ?_) (fun K7 jK7 h => ?_)
      · refine e_iinc (L2 := [some (.ref 72), some (.int p1), some (.int v5), some (.int v6), some (.int (y4 + (1 : Int32)))]) rfl rfl vi_1 rfl rfl rfl ?_
        refine c_goto rfl ?_
        exact ih _ _ _ h
      · refine c_if_ne rfl (fun q4 => ?_) (fun q4 => ?_)
        · rw [if_neg q4] at h
          exact jK7 _ _ h
        · rw [if_pos q4] at h
          refine c_iload_n rfl rfl ?_
          refine c_iconst rfl vi_1 ?_
          refine c_aload_n rfl rfl ?_
          refine c_getR rfl fk_X4_9 rfl (Nat.le_of_ble_eq_true rfl) rfl ?_
          refine c_iload rfl rfl ?_
          obtain ⟨q8, h⟩ := zk_ck_e h
          refine e_iald rfl rfl (Nat.le_of_ble_eq_true rfl) q8 rfl ?_
          refine c_ishl rfl ?_
          refine c_ior rfl ?_
          obtain ⟨x9, hx9, h⟩ := zk_lt_g h
          refine c_topi hx9 ?_
          refine e_istore_n (L2 := [some (.ref 72), some (.int p1), some (.int x9), some (.int y3), some (.int y4)]) rfl rfl rfl rfl ?_
          refine c_iload_n rfl rfl ?_
          refine c_iconst rfl vi_1 ?_
          refine c_aload_n rfl rfl ?_
          refine c_getR rfl fk_X4_15 rfl (Nat.le_of_ble_eq_true rfl) rfl ?_
          refine c_iload rfl rfl ?_
          obtain ⟨q10, h⟩ := zk_ck_e h
          refine e_iald rfl rfl (Nat.le_of_ble_eq_true rfl) q10 rfl ?_
          refine c_ishl rfl ?_
          refine c_ior rfl ?_
          obtain ⟨x11, hx11, h⟩ := zk_lt_g h
          refine c_topi hx11 ?_
          refine e_istore_n (L2 := [some (.ref 72), some (.int p1), some (.int x9), some (.int x11), some (.int y4)]) rfl rfl rfl rfl ?_
          exact jK7 _ _ h
set_option maxRecDepth 20000 in
theorem k_X4_leastLastNamed {X : zk_X} {I : zk_I} {J : zk_J} {a1 : Int32} {r : Int32} (h : f_X4_leastLastNamed I a1 = some r) : zC X 3 m_X4_leastLastNamed 0 (zk_ent [.ref 72, .int a1] 5) [] (z_Z, I, J) 0 0 (some (.int r)) (z_Z, I, J) := by
  unfold f_X4_leastLastNamed at h
  refine c_ent (L2 := [some (.ref 72), some (.int a1), none, none, none]) rfl ?_
  refine c_iconst rfl vi_0 ?_
  refine e_istore_n (L2 := [some (.ref 72), some (.int a1), some (.int (0 : Int32)), none, none]) rfl rfl rfl rfl ?_
  refine c_iconst rfl vi_0 ?_
  refine e_istore_n (L2 := [some (.ref 72), some (.int a1), some (.int (0 : Int32)), some (.int (0 : Int32)), none]) rfl rfl rfl rfl ?_
  refine c_iconst rfl vi_0 ?_
  refine e_istore (L2 := [some (.ref 72), some (.int a1), some (.int (0 : Int32)), some (.int (0 : Int32)), some (.int (0 : Int32))]) rfl rfl rfl rfl ?_
  refine kl_X4_leastLastNamed_7 (fun z12 z13 h => ?_) _ _ _ _ h
  refine c_iload_n rfl rfl ?_
  refine c_iload_n rfl rfl ?_
  refine c_iconst rfl vi_m1 ?_
  refine c_ixor rfl ?_
  refine c_iand rfl ?_
  obtain ⟨r15, h14, h⟩ := zk_bd1_e h
  refine e_callSN (As := [.int (z13 &&& (z12 ^^^ (-1 : Int32)))]) (st := []) rfl lk_X4_43 rfl rfl rfl (Nat.le_of_ble_eq_true rfl) rfl (k_X7_leastOf h14) ?_
  have h := zk_r1 h
  subst h
  exact c_ireturn rfl rfl rfl
def f_X5_append (I : zk_I) (a1 : Int32) : Option (Int32 × zk_I) := (if (I 1 1) < (160 : Int32) then (
  zk_ck (zk_in (I 1 1) 160) (
   zk_lt (zk_sc I 2 (upd (I 2) (I 1 1).toNatClampNeg (vp_nar .char a1))) (fun (I3 : zk_I) =>
    zk_lt (zk_sc I3 1 (upd (I3 1) 1 ((I3 1 1) + (1 : Int32)))) (fun (I4 : zk_I) =>
     some ((1 : Int32), I4))))) else (
  some ((0 : Int32), I)))
set_option maxRecDepth 20000 in
theorem k_X5_append {X : zk_X} {I : zk_I} {J : zk_J} {a1 : Int32} {r : Int32} {IR : zk_I} (h : f_X5_append I a1 = some (r, IR)) : zC X 1 m_X5_append 0 (zk_ent [.ref 1, .int a1] 2) [] (z_Z, I, J) 0 0 (some (.int r)) (z_Z, IR, J) := by
  unfold f_X5_append at h
  refine c_ent (L2 := [some (.ref 1), some (.int a1)]) rfl ?_
  refine c_aload_n rfl rfl ?_
  refine c_getI rfl fk_X5_15 rfl (Nat.le_of_ble_eq_true rfl) ?_
  refine c_sipush rfl vs_160 ?_
  refine c_icmp_lt rfl (fun q1 => ?_) (fun q1 => ?_)
  · rw [if_pos q1] at h
    refine c_aload_n rfl rfl ?_
    refine c_getR rfl fk_X5_9 rfl (Nat.le_of_ble_eq_true rfl) rfl ?_
    refine c_aload_n rfl rfl ?_
    refine c_getI rfl fk_X5_15 rfl (Nat.le_of_ble_eq_true rfl) ?_
    refine c_iload_n rfl rfl ?_
    obtain ⟨q2, h⟩ := zk_ck_e h
    refine e_cast rfl rfl (Nat.le_of_ble_eq_true rfl) q2 rfl ?_
    obtain ⟨I3, hI3, h⟩ := zk_lt_g h
    refine c_memI hI3 ?_
    refine c_aload_n rfl rfl ?_
    refine c_dup rfl rfl ?_
    refine c_getI rfl fk_X5_15 rfl (Nat.le_of_ble_eq_true rfl) ?_
    refine c_iconst rfl vi_1 ?_
    refine c_iadd rfl ?_
    refine c_putI rfl fk_X5_15 rfl rfl (Nat.le_of_ble_eq_true rfl) ?_
    obtain ⟨I4, hI4, h⟩ := zk_lt_g h
    refine c_memI hI4 ?_
    refine c_iconst rfl vi_1 ?_
    obtain ⟨rfl, rfl⟩ := zk_r2 h
    exact c_ireturn rfl rfl zk_nb1
  · rw [if_neg q1] at h
    refine c_iconst rfl vi_0 ?_
    obtain ⟨rfl, rfl⟩ := zk_r2 h
    exact c_ireturn rfl rfl zk_nb0
def f_X5_empty (I : zk_I) : zk_I := zk_lt (zk_sc I 1 (upd (I 1) 1 (0 : Int32))) (fun (I1 : zk_I) =>
  I1)
set_option maxRecDepth 20000 in
theorem k_X5_empty {X : zk_X} {I : zk_I} {J : zk_J} {IR : zk_I} (h : f_X5_empty I = IR) : zC X 1 m_X5_empty 0 (zk_ent [.ref 1] 1) [] (z_Z, I, J) 0 0 none (z_Z, IR, J) := by
  unfold f_X5_empty at h
  refine c_ent (L2 := [some (.ref 1)]) rfl ?_
  refine c_aload_n rfl rfl ?_
  refine c_iconst rfl vi_0 ?_
  refine c_putI rfl fk_X5_15 rfl rfl (Nat.le_of_ble_eq_true rfl) ?_
  obtain ⟨I1, hI1, h⟩ := zk_lt_g h
  refine c_memI hI1 ?_
  subst h
  exact c_return rfl rfl
def f_X6_hasReader (I : zk_I) (t : Nat) (a1 : Int32) : Int32 := zk_jp0 ((0 : Int32)) (fun (K2 : Int32) =>
  (if a1 < 0 then (
   K2) else (
   (if (I t 0) ≤ a1 then (
    K2) else (
    (1 : Int32))))))
set_option maxRecDepth 20000 in
theorem k_X6_hasReader {X : zk_X} {I : zk_I} {J : zk_J} {t : Nat} {a1 : Int32} {r : Int32} (h_t : z_isT t = true) (h : f_X6_hasReader I t a1 = r) : zC X 1 m_X6_hasReader 0 (zk_ent [.ref t, .int a1] 2) [] (z_Z, I, J) 0 0 (some (.int r)) (z_Z, I, J) := by
  unfold f_X6_hasReader at h
  refine c_ent (L2 := [some (.ref t), some (.int a1)]) rfl ?_
  refine c_iload_n rfl rfl ?_
  refine zk_jp0_e (Z := zC X 1 m_X6_hasReader 16 [none, none] [] (z_Z, I, J) 0 0 (some (.int r)) (z_Z, I, J)) h (fun h => ?_) (fun K2 jK2 h => ?_)
  · refine c_iconst rfl vi_0 ?_
    subst h
    exact c_ireturn rfl rfl zk_nb0
  · refine c_if_lt rfl (fun q1 => ?_) (fun q1 => ?_)
    · rw [if_pos q1] at h
      refine c_drop [false, false] (L2 := [none, none]) rfl ?_
      exact jK2 h
    · rw [if_neg q1] at h
      refine c_iload_n rfl rfl ?_
      refine c_aload_n rfl rfl ?_
      refine c_getI rfl fk_X6_27 (zT_S h_t) (zT_z h_t) ?_
      refine c_icmp_ge rfl (fun q3 => ?_) (fun q3 => ?_)
      · rw [if_pos q3] at h
        refine c_drop [false, false] (L2 := [none, none]) rfl ?_
        exact jK2 h
      · rw [if_neg q3] at h
        refine c_iconst rfl vi_1 ?_
        refine c_goto rfl ?_
        subst h
        exact c_ireturn rfl rfl zk_nb1
def f_X6_hasBook (I : zk_I) (t : Nat) (a1 : Int32) : Int32 := zk_jp0 ((0 : Int32)) (fun (K2 : Int32) =>
  (if a1 < 0 then (
   K2) else (
   (if (I t 1) ≤ a1 then (
    K2) else (
    (1 : Int32))))))
set_option maxRecDepth 20000 in
theorem k_X6_hasBook {X : zk_X} {I : zk_I} {J : zk_J} {t : Nat} {a1 : Int32} {r : Int32} (h_t : z_isT t = true) (h : f_X6_hasBook I t a1 = r) : zC X 1 m_X6_hasBook 0 (zk_ent [.ref t, .int a1] 2) [] (z_Z, I, J) 0 0 (some (.int r)) (z_Z, I, J) := by
  unfold f_X6_hasBook at h
  refine c_ent (L2 := [some (.ref t), some (.int a1)]) rfl ?_
  refine c_iload_n rfl rfl ?_
  refine zk_jp0_e (Z := zC X 1 m_X6_hasBook 16 [none, none] [] (z_Z, I, J) 0 0 (some (.int r)) (z_Z, I, J)) h (fun h => ?_) (fun K2 jK2 h => ?_)
  · refine c_iconst rfl vi_0 ?_
    subst h
    exact c_ireturn rfl rfl zk_nb0
  · refine c_if_lt rfl (fun q1 => ?_) (fun q1 => ?_)
    · rw [if_pos q1] at h
      refine c_drop [false, false] (L2 := [none, none]) rfl ?_
      exact jK2 h
    · rw [if_neg q1] at h
      refine c_iload_n rfl rfl ?_
      refine c_aload_n rfl rfl ?_
      refine c_getI rfl fk_X6_31 (zT_S h_t) (zT_z h_t) ?_
      refine c_icmp_ge rfl (fun q3 => ?_) (fun q3 => ?_)
      · rw [if_pos q3] at h
        refine c_drop [false, false] (L2 := [none, none]) rfl ?_
        exact jK2 h
      · rw [if_neg q3] at h
        refine c_iconst rfl vi_1 ?_
        refine c_goto rfl ?_
        subst h
        exact c_ireturn rfl rfl zk_nb1
def l_X6_feudPairs_4 (I : zk_I) (t : Nat) (K : Int32 → Option (Int32)) : Nat → Int32 → Int32 → Option (Int32)
  | 0, _, _ => none
  | n + 1, y1, y2 => (if (I t 0) ≤ y2 then (
    K y1) else (
    zk_ck (zk_in y2 8) (
     zk_lt (f_J6_bitCount_0f7a4 (I (t + 3) y2.toNatClampNeg)) (fun (r4 : Int32) =>
      l_X6_feudPairs_4 I t K n (y1 + r4) (y2 + (1 : Int32))))))
def f_X6_feudPairs (I : zk_I) (t : Nat) : Option (Int32) := l_X6_feudPairs_4 I t (fun (z5 : Int32) =>
  some (z5 / (2 : Int32))) 3000 (0 : Int32) (0 : Int32)
set_option maxRecDepth 20000 in
theorem kl_X6_feudPairs_4 {X : zk_X} {I : zk_I} {t : Nat} {J : zk_J} {K : Int32 → Option (Int32)} {r : Int32} (h_t : z_isT t = true) (jK : ∀ (z1 : Int32), K z1 = some r → zC X 2 m_X6_feudPairs 30 [none, some (.int z1), none] [] (z_Z, I, J) 0 0 (some (.int r)) (z_Z, I, J)) : ∀ (n : Nat) (y1 : Int32) (y2 : Int32), l_X6_feudPairs_4 I t K n y1 y2 = some r → zC X 2 m_X6_feudPairs 4 [some (.ref t), some (.int y1), some (.int y2)] [] (z_Z, I, J) 0 0 (some (.int r)) (z_Z, I, J) := by
  intro n
  induction n with
  | zero =>
    intro y1 y2 h
    cases h
  | succ n ih =>
    intro y1 y2 h
    rw [l_X6_feudPairs_4] at h
    refine c_iload_n rfl rfl ?_
    refine c_aload_n rfl rfl ?_
    refine c_getI rfl fk_X6_27 (zT_S h_t) (zT_z h_t) ?_
    refine c_icmp_ge rfl (fun q1 => ?_) (fun q1 => ?_)
    · rw [if_pos q1] at h
      refine c_drop [false, true, false] (L2 := [none, some (.int y1), none]) rfl ?_
      exact jK _ h
    · rw [if_neg q1] at h
      refine c_iload_n rfl rfl ?_
      refine c_aload_n rfl rfl ?_
      refine c_getR rfl fk_X6_18 (zT_S h_t) (zT_z h_t) (zT_r4 h_t) ?_
      refine c_iload_n rfl rfl ?_
      obtain ⟨q2, h⟩ := zk_ck_e h
      refine e_iald rfl (zT_a3 h_t) (zT_z3 h_t) q2 rfl ?_
      obtain ⟨r4, h3, h⟩ := zk_lt_g h
      refine e_callS (As := [.int (I (t + 3) y2.toNatClampNeg)]) (st := [.int y1]) rfl lk_X6_46 rfl rfl rfl (Nat.le_of_ble_eq_true rfl) rfl (k_J6_bitCount_0f7a4 h3.symm) ?_
      refine c_iadd rfl ?_
      refine e_istore_n (L2 := [some (.ref t), some (.int (y1 + r4)), some (.int y2)]) rfl rfl rfl rfl ?_
      refine e_iinc (L2 := [some (.ref t), some (.int (y1 + r4)), some (.int (y2 + (1 : Int32)))]) rfl rfl vi_1 rfl rfl rfl ?_
      refine c_goto rfl ?_
      exact ih _ _ h
set_option maxRecDepth 20000 in
theorem k_X6_feudPairs {X : zk_X} {I : zk_I} {J : zk_J} {t : Nat} {r : Int32} (h_t : z_isT t = true) (h : f_X6_feudPairs I t = some r) : zC X 2 m_X6_feudPairs 0 (zk_ent [.ref t] 3) [] (z_Z, I, J) 0 0 (some (.int r)) (z_Z, I, J) := by
  unfold f_X6_feudPairs at h
  refine c_ent (L2 := [some (.ref t), none, none]) rfl ?_
  refine c_iconst rfl vi_0 ?_
  refine e_istore_n (L2 := [some (.ref t), some (.int (0 : Int32)), none]) rfl rfl rfl rfl ?_
  refine c_iconst rfl vi_0 ?_
  refine e_istore_n (L2 := [some (.ref t), some (.int (0 : Int32)), some (.int (0 : Int32))]) rfl rfl rfl rfl ?_
  refine kl_X6_feudPairs_4 h_t (fun z5 h => ?_) _ _ _ h
  refine c_iload_n rfl rfl ?_
  refine c_iconst rfl vi_2 ?_
  refine c_idiv rfl (by decide) ?_
  have h := zk_r1 h
  subst h
  exact c_ireturn rfl rfl rfl
def f_X7_write (I : zk_I) (a1 : Int32) : Option (Int32 × zk_I) := (if a1 < 0 then (
  some ((-3 : Int32), I)) else (
  (if a1 ≤ (255 : Int32) then (
   zk_bd2 (f_X5_append I ((a1.toUInt32 % 65536).toInt32)) (fun (r4 : Int32) (I5 : zk_I) =>
    (if r4 = 0 then (
     some ((-5 : Int32), I5)) else (
     some ((I5 1 1), I5))))) else (
   some ((-3 : Int32), I)))))
set_option maxRecDepth 20000 in
theorem k_X7_write {X : zk_X} {I : zk_I} {J : zk_J} {a1 : Int32} {r : Int32} {IR : zk_I} (h : f_X7_write I a1 = some (r, IR)) : zC X 2 m_X7_write 0 (zk_ent [.ref 0, .int a1] 2) [] (z_Z, I, J) 0 0 (some (.int r)) (z_Z, IR, J) := by
  unfold f_X7_write at h
  refine c_ent (L2 := [some (.ref 0), some (.int a1)]) rfl ?_
  refine c_iload_n rfl rfl ?_
  refine c_if_lt rfl (fun q1 => ?_) (fun q1 => ?_)
  · rw [if_pos q1] at h
    refine c_bipush rfl vb_m3 ?_
    obtain ⟨rfl, rfl⟩ := zk_r2 h
    exact c_ireturn rfl rfl rfl
  · rw [if_neg q1] at h
    refine c_iload_n rfl rfl ?_
    refine c_sipush rfl vs_255 ?_
    refine c_icmp_le rfl (fun q2 => ?_) (fun q2 => ?_)
    · rw [if_pos q2] at h
      refine c_aload_n rfl rfl ?_
      refine c_getR rfl fk_X7_10 rfl (Nat.le_of_ble_eq_true rfl) rfl ?_
      refine c_iload_n rfl rfl ?_
      refine c_i2c rfl ?_
      obtain ⟨r4, I5, h3, h⟩ := zk_bd2_e h
      refine e_callV (As := [.int (a1.toUInt32 % 65536).toInt32]) (st := []) rfl lk_X7_73 rfl (Nat.le_of_ble_eq_true rfl) rfl rfl rfl (Nat.le_of_ble_eq_true rfl) rfl (k_X5_append h3) ?_
      refine c_if_eq rfl (fun q6 => ?_) (fun q6 => ?_)
      · rw [if_pos q6] at h
        refine c_bipush rfl vb_m5 ?_
        obtain ⟨rfl, rfl⟩ := zk_r2 h
        exact c_ireturn rfl rfl rfl
      · rw [if_neg q6] at h
        refine c_aload_n rfl rfl ?_
        refine c_getR rfl fk_X7_10 rfl (Nat.le_of_ble_eq_true rfl) rfl ?_
        refine c_getI rfl fk_X7_77 rfl (Nat.le_of_ble_eq_true rfl) ?_
        refine c_goto rfl ?_
        obtain ⟨rfl, rfl⟩ := zk_r2 h
        exact c_ireturn rfl rfl rfl
    · rw [if_neg q2] at h
      refine c_bipush rfl vb_m3 ?_
      obtain ⟨rfl, rfl⟩ := zk_r2 h
      exact c_ireturn rfl rfl rfl
def f_X7_erase (I : zk_I) : Option (Int32 × zk_I) := zk_lt (f_X5_empty I) (fun (I2 : zk_I) =>
  some ((I 1 1), I2))
set_option maxRecDepth 20000 in
theorem k_X7_erase {X : zk_X} {I : zk_I} {J : zk_J} {r : Int32} {IR : zk_I} (h : f_X7_erase I = some (r, IR)) : zC X 2 m_X7_erase 0 (zk_ent [.ref 0] 2) [] (z_Z, I, J) 0 0 (some (.int r)) (z_Z, IR, J) := by
  unfold f_X7_erase at h
  refine c_ent (L2 := [some (.ref 0), none]) rfl ?_
  refine c_aload_n rfl rfl ?_
  refine c_getR rfl fk_X7_10 rfl (Nat.le_of_ble_eq_true rfl) rfl ?_
  refine c_getI rfl fk_X7_77 rfl (Nat.le_of_ble_eq_true rfl) ?_
  refine e_istore_n (L2 := [some (.ref 0), some (.int (I 1 1))]) rfl rfl rfl rfl ?_
  refine c_aload_n rfl rfl ?_
  refine c_getR rfl fk_X7_10 rfl (Nat.le_of_ble_eq_true rfl) rfl ?_
  obtain ⟨I2, h1, h⟩ := zk_lt_g h
  refine e_callV (As := []) (st := []) rfl lk_X7_81 rfl (Nat.le_of_ble_eq_true rfl) rfl rfl rfl (Nat.le_of_ble_eq_true rfl) rfl (k_X5_empty h1.symm) ?_
  refine c_iload_n rfl rfl ?_
  obtain ⟨rfl, rfl⟩ := zk_r2 h
  exact c_ireturn rfl rfl rfl
def f_X7_fault (I : zk_I) : Option (Int32 × zk_I) := zk_bd2 (f_X0_firstFault I) (fun (r2 : Int32) (I3 : zk_I) =>
  some (r2, I3))
set_option maxRecDepth 20000 in
theorem k_X7_fault {X : zk_X} {I : zk_I} {J : zk_J} {r : Int32} {IR : zk_I} (h : f_X7_fault I = some (r, IR)) : zC X 10 m_X7_fault 0 (zk_ent [.ref 0] 1) [] (z_Z, I, J) 0 0 (some (.int r)) (z_Z, IR, J) := by
  unfold f_X7_fault at h
  refine c_ent (L2 := [some (.ref 0)]) rfl ?_
  refine c_aload_n rfl rfl ?_
  refine c_getR rfl fk_X7_28 rfl (Nat.le_of_ble_eq_true rfl) rfl ?_
  refine c_aload_n rfl rfl ?_
  refine c_getR rfl fk_X7_19 rfl (Nat.le_of_ble_eq_true rfl) rfl ?_
  obtain ⟨r2, I3, h1, h⟩ := zk_bd2_e h
  refine e_callV (As := [.ref 3]) (st := []) rfl lk_X7_84 rfl (Nat.le_of_ble_eq_true rfl) rfl rfl rfl (Nat.le_of_ble_eq_true rfl) rfl (k_X0_firstFault h1) ?_
  obtain ⟨rfl, rfl⟩ := zk_r2 h
  exact c_ireturn rfl rfl rfl
def f_X7_library (I : zk_I) : Option (Int32 × zk_I) := zk_bd2 (f_X0_firstFault I) (fun (r2 : Int32) (I3 : zk_I) =>
  (if r2 = (-1 : Int32) then (
   zk_lt (f_X6_copyFrom I3 3 10) (fun (I6 : zk_I) =>
    zk_lt (f_X5_empty I6) (fun (I8 : zk_I) =>
     zk_bd1 (f_X1_beginAnew I8 16) (fun (I10 : zk_I) =>
      zk_lt (f_X2_forget I10) (fun (I12 : zk_I) =>
       zk_lt (zk_sc I12 0 (upd (I12 0) 6 (0 : Int32))) (fun (I13 : zk_I) =>
        zk_lt (zk_sc I13 72 (upd (I13 72) 0 (0 : Int32))) (fun (I14 : zk_I) =>
         some ((I14 9 1), I14)))))))) else (
   some ((-4 : Int32), I3))))
set_option maxRecDepth 20000 in
theorem k_X7_library {X : zk_X} {I : zk_I} {J : zk_J} {r : Int32} {IR : zk_I} (h : f_X7_library I = some (r, IR)) : zC X 10 m_X7_library 0 (zk_ent [.ref 0] 1) [] (z_Z, I, J) 0 0 (some (.int r)) (z_Z, IR, J) := by
  unfold f_X7_library at h
  refine c_ent (L2 := [some (.ref 0)]) rfl ?_
  refine c_aload_n rfl rfl ?_
  refine c_getR rfl fk_X7_28 rfl (Nat.le_of_ble_eq_true rfl) rfl ?_
  refine c_aload_n rfl rfl ?_
  refine c_getR rfl fk_X7_19 rfl (Nat.le_of_ble_eq_true rfl) rfl ?_
  obtain ⟨r2, I3, h1, h⟩ := zk_bd2_e h
  refine e_callV (As := [.ref 3]) (st := []) rfl lk_X7_84 rfl (Nat.le_of_ble_eq_true rfl) rfl rfl rfl (Nat.le_of_ble_eq_true rfl) rfl (k_X0_firstFault h1) ?_
  refine c_iconst rfl vi_m1 ?_
  refine c_icmp_eq rfl (fun q4 => ?_) (fun q4 => ?_)
  · rw [if_pos q4] at h
    refine c_aload_n rfl rfl ?_
    refine c_getR rfl fk_X7_19 rfl (Nat.le_of_ble_eq_true rfl) rfl ?_
    refine c_aload_n rfl rfl ?_
    refine c_getR rfl fk_X7_28 rfl (Nat.le_of_ble_eq_true rfl) rfl ?_
    refine c_getR rfl fk_X7_88 rfl (Nat.le_of_ble_eq_true rfl) rfl ?_
    obtain ⟨I6, h5, h⟩ := zk_lt_g h
    refine e_callV (As := [.ref 10]) (st := []) rfl lk_X7_91 rfl (Nat.le_of_ble_eq_true rfl) rfl rfl rfl (Nat.le_of_ble_eq_true rfl) rfl (k_X6_copyFrom (rfl : z_isT 3 = true) (rfl : z_isT 10 = true) h5.symm) ?_
    refine c_aload_n rfl rfl ?_
    refine c_getR rfl fk_X7_10 rfl (Nat.le_of_ble_eq_true rfl) rfl ?_
    obtain ⟨I8, h7, h⟩ := zk_lt_g h
    refine e_callV (As := []) (st := []) rfl lk_X7_81 rfl (Nat.le_of_ble_eq_true rfl) rfl rfl rfl (Nat.le_of_ble_eq_true rfl) rfl (k_X5_empty h7.symm) ?_
    refine c_aload_n rfl rfl ?_
    refine c_getR rfl fk_X7_35 rfl (Nat.le_of_ble_eq_true rfl) rfl ?_
    refine c_aload_n rfl rfl ?_
    refine c_getR rfl fk_X7_19 rfl (Nat.le_of_ble_eq_true rfl) rfl ?_
    obtain ⟨I10, h9, h⟩ := zk_bd1_e h
    refine e_callV (As := [.ref 3]) (st := []) rfl lk_X7_94 rfl (Nat.le_of_ble_eq_true rfl) rfl rfl rfl (Nat.le_of_ble_eq_true rfl) rfl (k_X1_beginAnew (rfl : z_isD 16 = true) h9) ?_
    refine c_aload_n rfl rfl ?_
    refine c_getR rfl fk_X7_42 rfl (Nat.le_of_ble_eq_true rfl) rfl ?_
    obtain ⟨I12, h11, h⟩ := zk_lt_g h
    refine e_callV (As := []) (st := []) rfl lk_X7_97 rfl (Nat.le_of_ble_eq_true rfl) rfl rfl rfl (Nat.le_of_ble_eq_true rfl) rfl (k_X2_forget h11.symm) ?_
    refine c_aload_n rfl rfl ?_
    refine c_iconst rfl vi_0 ?_
    refine c_putI rfl fk_X7_100 rfl rfl (Nat.le_of_ble_eq_true rfl) ?_
    obtain ⟨I13, hI13, h⟩ := zk_lt_g h
    refine c_memI hI13 ?_
    refine c_aload_n rfl rfl ?_
    refine c_getR rfl fk_X7_69 rfl (Nat.le_of_ble_eq_true rfl) rfl ?_
    refine c_iconst rfl vi_0 ?_
    refine c_putI rfl fk_X7_103 rfl rfl (Nat.le_of_ble_eq_true rfl) ?_
    obtain ⟨I14, hI14, h⟩ := zk_lt_g h
    refine c_memI hI14 ?_
    refine c_aload_n rfl rfl ?_
    refine c_getR rfl fk_X7_28 rfl (Nat.le_of_ble_eq_true rfl) rfl ?_
    refine c_getI rfl fk_X7_106 rfl (Nat.le_of_ble_eq_true rfl) ?_
    obtain ⟨rfl, rfl⟩ := zk_r2 h
    exact c_ireturn rfl rfl rfl
  · rw [if_neg q4] at h
    refine c_bipush rfl vb_m4 ?_
    obtain ⟨rfl, rfl⟩ := zk_r2 h
    exact c_ireturn rfl rfl rfl
def l_X7_booksHadBy_4 (I : zk_I) (p1 : Int32) (K : Int32 → Option (Int32)) : Nat → Int32 → Int32 → Option (Int32)
  | 0, _, _ => none
  | n + 1, y2, y3 => (if (I 3 1) ≤ y3 then (
    K y2) else (
    zk_ck (zk_in y3 4) (
     zk_lt (f_X7_hasBit (I 18 y3.toNatClampNeg) p1) (fun (r4 : Int32) =>
      zk_jp1 (fun (v6 : Int32) =>
       l_X7_booksHadBy_4 I p1 K n v6 (y3 + (1 : Int32))) (fun (K7 : Int32 → Option (Int32)) =>
       (if r4 = 0 then (
        K7 y2) else (
        zk_lt (y2 ||| ((1 : Int32) <<< (y3 &&& 31))) (fun (x8 : Int32) =>
         K7 x8))))))))
def f_X7_booksHadBy (I : zk_I) (a1 : Int32) : Option (Int32) := l_X7_booksHadBy_4 I a1 (fun (z9 : Int32) =>
  some z9) 3000 (0 : Int32) (0 : Int32)
set_option maxRecDepth 20000 in
theorem kl_X7_booksHadBy_4 {X : zk_X} {I : zk_I} {p1 : Int32} {J : zk_J} {K : Int32 → Option (Int32)} {r : Int32} (jK : ∀ (z2 : Int32), K z2 = some r → zC X 2 m_X7_booksHadBy 43 [none, none, some (.int z2), none] [] (z_Z, I, J) 0 0 (some (.int r)) (z_Z, I, J)) : ∀ (n : Nat) (y2 : Int32) (y3 : Int32), l_X7_booksHadBy_4 I p1 K n y2 y3 = some r → zC X 2 m_X7_booksHadBy 4 [some (.ref 0), some (.int p1), some (.int y2), some (.int y3)] [] (z_Z, I, J) 0 0 (some (.int r)) (z_Z, I, J) := by
  intro n
  induction n with
  | zero =>
    intro y2 y3 h
    cases h
  | succ n ih =>
    intro y2 y3 h
    rw [l_X7_booksHadBy_4] at h
    refine c_iload_n rfl rfl ?_
    refine c_aload_n rfl rfl ?_
    refine c_getR rfl fk_X7_19 rfl (Nat.le_of_ble_eq_true rfl) rfl ?_
    refine c_getI rfl fk_X7_229 rfl (Nat.le_of_ble_eq_true rfl) ?_
    refine c_icmp_ge rfl (fun q1 => ?_) (fun q1 => ?_)
    · rw [if_pos q1] at h
      refine c_drop [false, false, true, false] (L2 := [none, none, some (.int y2), none]) rfl ?_
      exact jK _ h
    · rw [if_neg q1] at h
      refine c_aload_n rfl rfl ?_
      refine c_getR rfl fk_X7_35 rfl (Nat.le_of_ble_eq_true rfl) rfl ?_
      refine c_getR rfl fk_X7_138 rfl (Nat.le_of_ble_eq_true rfl) rfl ?_
      refine c_iload_n rfl rfl ?_
      obtain ⟨q2, h⟩ := zk_ck_e h
      refine e_iald rfl rfl (Nat.le_of_ble_eq_true rfl) q2 rfl ?_
      refine c_iload_n rfl rfl ?_
      obtain ⟨r4, h3, h⟩ := zk_lt_g h
      refine e_callS (As := [.int (I 18 y3.toNatClampNeg), .int p1]) (st := []) rfl lk_X7_156 rfl rfl rfl (Nat.le_of_ble_eq_true rfl) rfl (k_X7_hasBit h3.symm) ?_
      refine zk_jp1_e (Z := fun (v6 : Int32) => zC X 2 m_X7_booksHadBy 37 [some (.ref 0), some (.int p1), some (.int v6), some (.int y3)] [] (z_Z, I, J) 0 0 (some (.int r)) (z_Z, I, J)) h (fun v6 h => ?_) (fun K7 jK7 h => ?_)
      · refine e_iinc (L2 := [some (.ref 0), some (.int p1), some (.int v6), some (.int (y3 + (1 : Int32)))]) rfl rfl vi_1 rfl rfl rfl ?_
        refine c_goto rfl ?_
        exact ih _ _ h
      · refine c_if_eq rfl (fun q5 => ?_) (fun q5 => ?_)
        · rw [if_pos q5] at h
          exact jK7 _ h
        · rw [if_neg q5] at h
          refine c_iload_n rfl rfl ?_
          refine c_iconst rfl vi_1 ?_
          refine c_iload_n rfl rfl ?_
          refine c_ishl rfl ?_
          refine c_ior rfl ?_
          obtain ⟨x8, hx8, h⟩ := zk_lt_g h
          refine c_topi hx8 ?_
          refine e_istore_n (L2 := [some (.ref 0), some (.int p1), some (.int x8), some (.int y3)]) rfl rfl rfl rfl ?_
          exact jK7 _ h
set_option maxRecDepth 20000 in
theorem k_X7_booksHadBy {X : zk_X} {I : zk_I} {J : zk_J} {a1 : Int32} {r : Int32} (h : f_X7_booksHadBy I a1 = some r) : zC X 2 m_X7_booksHadBy 0 (zk_ent [.ref 0, .int a1] 4) [] (z_Z, I, J) 0 0 (some (.int r)) (z_Z, I, J) := by
  unfold f_X7_booksHadBy at h
  refine c_ent (L2 := [some (.ref 0), some (.int a1), none, none]) rfl ?_
  refine c_iconst rfl vi_0 ?_
  refine e_istore_n (L2 := [some (.ref 0), some (.int a1), some (.int (0 : Int32)), none]) rfl rfl rfl rfl ?_
  refine c_iconst rfl vi_0 ?_
  refine e_istore_n (L2 := [some (.ref 0), some (.int a1), some (.int (0 : Int32)), some (.int (0 : Int32))]) rfl rfl rfl rfl ?_
  refine kl_X7_booksHadBy_4 (fun z9 h => ?_) _ _ _ h
  refine c_iload_n rfl rfl ?_
  have h := zk_r1 h
  subst h
  exact c_ireturn rfl rfl rfl

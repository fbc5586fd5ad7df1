def l_X8_turns_43 (I : zk_I) (p2 : Int32) (p3 : Int32) (p4 : Int32) (K : Int32 → Option (Int32 × zk_I)) : Nat → Int32 → Int32 → Option (Int32 × zk_I)
  | 0, _, _ => none
  | n + 1, y5, y6 => (if y6 < 0 then (
    K y5) else (
    zk_jp1 (fun (v14 : Int32) =>
     zk_lt ((if v14 = 0 then y5 else y6)) (fun (v17 : Int32) =>
      l_X8_turns_43 I p2 p3 p4 K n v17 (y6 + (-1 : Int32)))) (fun (K15 : Int32 → Option (Int32 × zk_I)) =>
     zk_jp0 (K15 (0 : Int32)) (fun (K19 : Option (Int32 × zk_I)) =>
      (if ((p4 >>> (y6 &&& 31)) &&& (1 : Int32)) = (1 : Int32) then (
       zk_ck (zk_in (((8 : Int32) * ((p3 / (8 : Int32)) ||| ((1 : Int32) <<< (y6 &&& 31)))) + y6) 2048) (
        (if (I 91 (((8 : Int32) * ((p3 / (8 : Int32)) ||| ((1 : Int32) <<< (y6 &&& 31)))) + y6).toNatClampNeg) = 0 then (
         K15 (1 : Int32)) else (
         K19)))) else (
       K19))))))
def f_X8_turns (I : zk_I) (a1 : Int32) (a2 : Int32) : Option (Int32 × zk_I) := zk_bd1 (f_X8_isBook I a1) (fun (r2 : Int32) =>
  (if r2 = 0 then (
   some ((-2 : Int32), I)) else (
   zk_lt (f_X8_in a2 (0 : Int32) (1 : Int32)) (fun (r5 : Int32) =>
    (if r5 = 0 then (
     some ((-3 : Int32), I)) else (
     zk_bd2 (f_X8_laysAll I a1) (fun (r8 : Int32) (I9 : zk_I) =>
      zk_bd1 (f_X8_namedNow I9 a1) (fun (r11 : Int32) =>
       l_X8_turns_43 I9 a2 r8 r11 (fun (z22 : Int32) =>
        (if a2 = (1 : Int32) then (
         some (z22, I9)) else (
         zk_ck (zk_in r8 2048) (
          (if (I9 91 r8.toNatClampNeg) = 0 then (
           some ((0 : Int32), I9)) else (
           some ((1 : Int32), I9))))))) 3000 (-1 : Int32) (7 : Int32)))))))))
set_option maxRecDepth 20000 in
theorem kl_X8_turns_43 {X : zk_X} {I : zk_I} {p2 : Int32} {p3 : Int32} {p4 : Int32} {J : zk_J} {K : Int32 → Option (Int32 × zk_I)} {r : Int32} {IR : zk_I} (jK : ∀ (z5 : Int32), K z5 = some (r, IR) → zC X 5 m_X8_turns 109 [some (.ref 76), none, some (.int p2), some (.int p3), none, some (.int z5), none, none] [] (z_Z, I, J) 0 0 (some (.int r)) (z_Z, IR, J)) : ∀ (n : Nat) (y5 : Int32) (y6 : Int32), l_X8_turns_43 I p2 p3 p4 K n y5 y6 = some (r, IR) → zC X 5 m_X8_turns 43 [some (.ref 76), none, some (.int p2), some (.int p3), some (.int p4), some (.int y5), some (.int y6), none] [] (z_Z, I, J) 0 0 (some (.int r)) (z_Z, IR, J) := by
  intro n
  induction n with
  | zero =>
    intro y5 y6 h
    cases h
  | succ n ih =>
    intro y5 y6 h
    rw [l_X8_turns_43] at h
    refine c_iload rfl rfl ?_
    refine c_if_lt rfl (fun q12 => ?_) (fun q12 => ?_)
    · rw [if_pos q12] at h
      refine c_drop [true, true, true, true, false, true, false, true] (L2 := [some (.ref 76), none, some (.int p2), some (.int p3), none, some (.int y5), none, none]) rfl ?_
      exact jK _ h
    · rw [if_neg q12] at h
      refine c_iload rfl rfl ?_
      refine c_iload rfl rfl ?_
      refine c_ishr rfl ?_
      refine c_iconst rfl vi_1 ?_
      refine c_iand rfl ?_
      refine c_iconst rfl vi_1 ?_
      refine zk_jp1_e (Z := fun (v14 : Int32) => zC X 5 m_X8_turns 87 [some (.ref 76), none, some (.int p2), some (.int p3), some (.int p4), some (.int y5), some (.int y6), none] [.int v14] (z_Z, I, J) 0 0 (some (.int r)) (z_Z, IR, J)) h (fun v14 h => ?_) (fun K15 jK15 h => ?_)
      · refine e_istore (L2 := [some (.ref 76), none, some (.int p2), some (.int p3), some (.int p4), some (.int y5), some (.int y6), some (.int v14)]) rfl rfl rfl rfl ?_
        refine c_iload rfl rfl ?_
        refine zk_lt1K (Z := fun (v17 : Int32) => zC X 5 m_X8_turns 101 [some (.ref 76), none, some (.int p2), some (.int p3), some (.int p4), none, some (.int y6), none] [.int v17] (z_Z, I, J) 0 0 (some (.int r)) (z_Z, IR, J)) h (fun v17 h => ?_) (fun hz => ?_)
        · refine e_istore (L2 := [some (.ref 76), none, some (.int p2), some (.int p3), some (.int p4), some (.int v17), some (.int y6), none]) rfl rfl rfl rfl ?_
          refine e_iinc (L2 := [some (.ref 76), none, some (.int p2), some (.int p3), some (.int p4), some (.int v17), some (.int (y6 + (-1 : Int32))), none]) rfl rfl vi_m1 rfl rfl rfl ?_
          refine c_goto rfl ?_
          exact ih _ _ h
        · refine c_if_eq rfl (fun q16 => ?_) (fun q16 => ?_)
          · refine c_iload rfl rfl ?_
            refine c_drop [true, true, true, true, true, false, true, false] (L2 := [some (.ref 76), none, some (.int p2), some (.int p3), some (.int p4), none, some (.int y6), none]) rfl ?_
            rw [if_pos q16] at hz
            exact hz
          · refine c_iload rfl rfl ?_
            refine c_goto rfl ?_
            refine c_drop [true, true, true, true, true, false, true, false] (L2 := [some (.ref 76), none, some (.int p2), some (.int p3), some (.int p4), none, some (.int y6), none]) rfl ?_
            rw [if_neg q16] at hz
            exact hz
      · refine zk_jp0_e (Z := zC X 5 m_X8_turns 86 [some (.ref 76), none, some (.int p2), some (.int p3), some (.int p4), some (.int y5), some (.int y6), none] [] (z_Z, I, J) 0 0 (some (.int r)) (z_Z, IR, J)) h (fun h => ?_) (fun K19 jK19 h => ?_)
        · refine c_iconst rfl vi_0 ?_
          exact jK15 _ h
        · refine c_icmp_ne rfl (fun q13 => ?_) (fun q13 => ?_)
          · rw [if_neg q13] at h
            exact jK19 h
          · rw [if_pos q13] at h
            refine c_aload_n rfl rfl ?_
            refine c_getR rfl fk_X8_53 rfl (Nat.le_of_ble_eq_true rfl) rfl ?_
            refine c_bipush rfl vb_8 ?_
            refine c_iload_n rfl rfl ?_
            refine c_bipush rfl vb_8 ?_
            refine c_idiv rfl (by decide) ?_
            refine c_iconst rfl vi_1 ?_
            refine c_iload rfl rfl ?_
            refine c_ishl rfl ?_
            refine c_ior rfl ?_
            refine c_imul rfl ?_
            refine c_iload rfl rfl ?_
            refine c_iadd rfl ?_
            obtain ⟨q20, h⟩ := zk_ck_e h
            refine e_zald rfl rfl (Nat.le_of_ble_eq_true rfl) q20 rfl ?_
            refine c_if_ne rfl (fun q21 => ?_) (fun q21 => ?_)
            · rw [if_neg q21] at h
              exact jK19 h
            · rw [if_pos q21] at h
              refine c_iconst rfl vi_1 ?_
              refine c_goto rfl ?_
              exact jK15 _ h
set_option maxRecDepth 20000 in
theorem k_X8_turns {X : zk_X} {I : zk_I} {J : zk_J} {a1 : Int32} {a2 : Int32} {r : Int32} {IR : zk_I} (h : f_X8_turns I a1 a2 = some (r, IR)) : zC X 5 m_X8_turns 0 (zk_ent [.ref 76, .int a1, .int a2] 8) [] (z_Z, I, J) 0 0 (some (.int r)) (z_Z, IR, J) := by
  unfold f_X8_turns at h
  refine c_ent (L2 := [some (.ref 76), some (.int a1), some (.int a2), none, none, none, none, none]) rfl ?_
  refine c_aload_n rfl rfl ?_
  refine c_iload_n rfl rfl ?_
  obtain ⟨r2, h1, h⟩ := zk_bd1_e h
  refine e_callV (As := [.int a1]) (st := []) rfl lk_X8_143 rfl (Nat.le_of_ble_eq_true rfl) rfl rfl rfl (Nat.le_of_ble_eq_true rfl) rfl (k_X8_isBook h1) ?_
  refine c_if_ne rfl (fun q3 => ?_) (fun q3 => ?_)
  · rw [if_neg q3] at h
    refine c_iload_n rfl rfl ?_
    refine c_iconst rfl vi_0 ?_
    refine c_iconst rfl vi_1 ?_
    obtain ⟨r5, h4, h⟩ := zk_lt_g h
    refine e_callS (As := [.int a2, .int (0 : Int32), .int (1 : Int32)]) (st := []) rfl lk_X8_63 rfl rfl rfl (Nat.le_of_ble_eq_true rfl) rfl (k_X8_in h4.symm) ?_
    refine c_if_ne rfl (fun q6 => ?_) (fun q6 => ?_)
    · rw [if_neg q6] at h
      refine c_aload_n rfl rfl ?_
      refine c_iload_n rfl rfl ?_
      obtain ⟨r8, I9, h7, h⟩ := zk_bd2_e h
      refine e_callV (As := [.int a1]) (st := []) rfl lk_X8_166 rfl (Nat.le_of_ble_eq_true rfl) rfl rfl rfl (Nat.le_of_ble_eq_true rfl) rfl (k_X8_laysAll h7) ?_
      refine e_istore_n (L2 := [some (.ref 76), some (.int a1), some (.int a2), some (.int r8), none, none, none, none]) rfl rfl rfl rfl ?_
      refine c_aload_n rfl rfl ?_
      refine c_iload_n rfl rfl ?_
      obtain ⟨r11, h10, h⟩ := zk_bd1_e h
      refine e_callV (As := [.int a1]) (st := []) rfl lk_X8_146 rfl (Nat.le_of_ble_eq_true rfl) rfl rfl rfl (Nat.le_of_ble_eq_true rfl) rfl (k_X8_namedNow h10) ?_
      refine e_istore (L2 := [some (.ref 76), some (.int a1), some (.int a2), some (.int r8), some (.int r11), none, none, none]) rfl rfl rfl rfl ?_
      refine c_iconst rfl vi_m1 ?_
      refine e_istore (L2 := [some (.ref 76), some (.int a1), some (.int a2), some (.int r8), some (.int r11), some (.int (-1 : Int32)), none, none]) rfl rfl rfl rfl ?_
      refine c_bipush rfl vb_7 ?_
      refine e_istore (L2 := [some (.ref 76), some (.int a1), some (.int a2), some (.int r8), some (.int r11), some (.int (-1 : Int32)), some (.int (7 : Int32)), none]) rfl rfl rfl rfl ?_
      refine c_drop [true, false, true, true, true, true, true, true] (L2 := [some (.ref 76), none, some (.int a2), some (.int r8), some (.int r11), some (.int (-1 : Int32)), some (.int (7 : Int32)), none]) rfl ?_
      refine kl_X8_turns_43 (fun z22 h => ?_) _ _ _ h
      refine c_iload_n rfl rfl ?_
      refine c_iconst rfl vi_1 ?_
      refine c_icmp_ne rfl (fun q23 => ?_) (fun q23 => ?_)
      · rw [if_neg q23] at h
        refine c_aload_n rfl rfl ?_
        refine c_getR rfl fk_X8_53 rfl (Nat.le_of_ble_eq_true rfl) rfl ?_
        refine c_iload_n rfl rfl ?_
        obtain ⟨q24, h⟩ := zk_ck_e h
        refine e_zald rfl rfl (Nat.le_of_ble_eq_true rfl) q24 rfl ?_
        refine c_if_eq rfl (fun q25 => ?_) (fun q25 => ?_)
        · rw [if_pos q25] at h
          refine c_iconst rfl vi_0 ?_
          obtain ⟨rfl, rfl⟩ := zk_r2 h
          exact c_ireturn rfl rfl rfl
        · rw [if_neg q25] at h
          refine c_iconst rfl vi_1 ?_
          refine c_goto rfl ?_
          obtain ⟨rfl, rfl⟩ := zk_r2 h
          exact c_ireturn rfl rfl rfl
      · rw [if_pos q23] at h
        refine c_iload rfl rfl ?_
        refine c_goto rfl ?_
        obtain ⟨rfl, rfl⟩ := zk_r2 h
        exact c_ireturn rfl rfl rfl
    · rw [if_pos q6] at h
      refine c_bipush rfl vb_m3 ?_
      obtain ⟨rfl, rfl⟩ := zk_r2 h
      exact c_ireturn rfl rfl rfl
  · rw [if_pos q3] at h
    refine c_bipush rfl vb_m2 ?_
    obtain ⟨rfl, rfl⟩ := zk_r2 h
    exact c_ireturn rfl rfl rfl
def l_X8_clubs_30 (p1 : Int32) (p2 : Int32) (p3 : Int32) (K : zk_I → Option (Int32 × zk_I)) : Nat → Int32 → zk_I → Option (Int32 × zk_I)
  | 0, _, _ => none
  | n + 1, y4, Iy => (if (2048 : Int32) ≤ y4 then (
    K Iy) else (
    zk_lt ((if y4 = (((8 : Int32) * ((1 : Int32) <<< (p3 &&& 31))) + p3) then (1 : Int32) else (0 : Int32))) (fun (v7 : Int32) =>
     zk_ck (zk_in y4 2048) (
      zk_lt (zk_sc Iy 86 (upd (Iy 86) y4.toNatClampNeg v7)) (fun (I10 : zk_I) =>
       l_X8_clubs_30 p1 p2 p3 K n (y4 + (1 : Int32)) I10)))))
def l_X8_clubs_165 (p1 : Int32) (p2 : Int32) (p3 : Int32) (p4 : Int32) (p5 : Int32) (p6 : Int32) (K : zk_I → Option (Int32 × zk_I)) : Nat → Int32 → zk_I → Option (Int32 × zk_I)
  | 0, _, _ => none
  | n + 1, y7, Iy => (if (8 : Int32) ≤ y7 then (
    K Iy) else (
    zk_jp1 (fun (I25 : zk_I) =>
     l_X8_clubs_165 p1 p2 p3 p4 p5 p6 K n (y7 + (1 : Int32)) I25) (fun (K26 : zk_I → Option (Int32 × zk_I)) =>
     (if ((p6 >>> (y7 &&& 31)) &&& (1 : Int32)) = (1 : Int32) then (
      zk_ck (zk_in (((8 : Int32) * (p5 ||| ((1 : Int32) <<< (y7 &&& 31)))) + y7) 2048) (
       zk_ck (zk_in p4 2048) (
        zk_ck (zk_in (((8 : Int32) * (p5 ||| ((1 : Int32) <<< (y7 &&& 31)))) + y7) 2048) (
         zk_lt (zk_sc Iy 86 (upd (Iy 86) (((8 : Int32) * (p5 ||| ((1 : Int32) <<< (y7 &&& 31)))) + y7).toNatClampNeg ((Iy 86 (((8 : Int32) * (p5 ||| ((1 : Int32) <<< (y7 &&& 31)))) + y7).toNatClampNeg) + (Iy 86 p4.toNatClampNeg)))) (fun (I30 : zk_I) =>
          K26 I30))))) else (
      K26 Iy)))))
def l_X8_clubs_72 (p1 : Int32) (p3 : Int32) (K : Int32 → zk_I → Option (Int32 × zk_I)) : Nat → Int32 → Int32 → zk_I → Option (Int32 × zk_I)
  | 0, _, _, _ => none
  | n + 1, y2, y4, Iy => (if (2048 : Int32) ≤ y4 then (
    K y2 Iy) else (
    zk_ck (zk_in y4 2048) (
     zk_jp1 (fun (v15 : Int32) =>
      zk_bd1 (f_X8_ones (y4 / (8 : Int32))) (fun (r18 : Int32) =>
       zk_jp1 (fun (v20 : Int32) =>
        zk_lt (v15 &&& ((y4 / (8 : Int32)) ^^^ (-1 : Int32))) (fun (x22 : Int32) =>
         l_X8_clubs_165 p1 (y2 + v20) p3 y4 (y4 / (8 : Int32)) x22 (fun (I31 : zk_I) =>
          l_X8_clubs_72 p1 p3 K n (y2 + v20) (y4 + (1 : Int32)) I31) 3000 (p3 + (1 : Int32)) Iy)) (fun (K21 : Int32 → Option (Int32 × zk_I)) =>
        zk_jp0 (K21 (0 : Int32)) (fun (K32 : Option (Int32 × zk_I)) =>
         (if r18 = p1 then (
          (if ((v15 >>> (p3 &&& 31)) &&& (1 : Int32)) = (1 : Int32) then (
           zk_ck (zk_in y4 2048) (
            K21 (Iy 86 y4.toNatClampNeg))) else (
           K32))) else (
          K32)))))) (fun (K16 : Int32 → Option (Int32 × zk_I)) =>
      (if (Iy 86 y4.toNatClampNeg) ≤ 0 then (
       K16 (0 : Int32)) else (
       zk_bd1 (f_X8_named Iy (y4 - y4 / (8 : Int32) * (8 : Int32)) (Iy 80 0)) (fun (r36 : Int32) =>
        K16 r36)))))))
def l_X8_clubs_17 (p1 : Int32) (K : Int32 → zk_I → Option (Int32 × zk_I)) : Nat → Int32 → Int32 → zk_I → Option (Int32 × zk_I)
  | 0, _, _, _ => none
  | n + 1, y2, y3, Iy => (if (Iy 78 0) ≤ y3 then (
    K y2 Iy) else (
    l_X8_clubs_30 p1 y2 y3 (fun (I11 : zk_I) =>
     l_X8_clubs_72 p1 y3 (fun (z37 : Int32) (I38 : zk_I) =>
      l_X8_clubs_17 p1 K n z37 (y3 + (1 : Int32)) I38) 3000 y2 (0 : Int32) I11) 3000 (0 : Int32) Iy))
def f_X8_clubs (I : zk_I) (a1 : Int32) : Option (Int32 × zk_I) := zk_lt (f_X8_in a1 (2 : Int32) (6 : Int32)) (fun (r2 : Int32) =>
  (if r2 = 0 then (
   some ((-3 : Int32), I)) else (
   l_X8_clubs_17 a1 (fun (z39 : Int32) (I40 : zk_I) =>
    some (z39, I40)) 3000 (0 : Int32) (0 : Int32) I)))
set_option maxRecDepth 20000 in
theorem kl_X8_clubs_30 {X : zk_X} {p1 : Int32} {p2 : Int32} {p3 : Int32} {J : zk_J} {K : zk_I → Option (Int32 × zk_I)} {r : Int32} {IR : zk_I} (jK : ∀ (Iz : zk_I), K Iz = some (r, IR) → zC X 2 m_X8_clubs 69 [some (.ref 76), some (.int p1), some (.int p2), some (.int p3), none, none, none, none] [] (z_Z, Iz, J) 0 0 (some (.int r)) (z_Z, IR, J)) : ∀ (n : Nat) (y4 : Int32) (Iy : zk_I), l_X8_clubs_30 p1 p2 p3 K n y4 Iy = some (r, IR) → zC X 2 m_X8_clubs 30 [some (.ref 76), some (.int p1), some (.int p2), some (.int p3), some (.int y4), none, none, none] [] (z_Z, Iy, J) 0 0 (some (.int r)) (z_Z, IR, J) := by
  intro n
  induction n with
  | zero =>
    intro y4 Iy h
    cases h
  | succ n ih =>
    intro y4 Iy h
    rw [l_X8_clubs_30] at h
    refine c_iload rfl rfl ?_
    refine c_sipush rfl vs_2048 ?_
    refine c_icmp_ge rfl (fun q5 => ?_) (fun q5 => ?_)
    · rw [if_pos q5] at h
      refine c_drop [true, true, true, true, false, true, true, true] (L2 := [some (.ref 76), some (.int p1), some (.int p2), some (.int p3), none, none, none, none]) rfl ?_
      exact jK _ h
    · rw [if_neg q5] at h
      refine c_aload_n rfl rfl ?_
      refine c_getR rfl fk_X8_38 rfl (Nat.le_of_ble_eq_true rfl) rfl ?_
      refine c_iload rfl rfl ?_
      refine c_iload rfl rfl ?_
      refine c_bipush rfl vb_8 ?_
      refine c_iconst rfl vi_1 ?_
      refine c_iload_n rfl rfl ?_
      refine c_ishl rfl ?_
      refine c_imul rfl ?_
      refine c_iload_n rfl rfl ?_
      refine c_iadd rfl ?_
      refine zk_lt1K (Z := fun (v7 : Int32) => zC X 2 m_X8_clubs 62 [some (.ref 76), some (.int p1), some (.int p2), some (.int p3), some (.int y4), none, none, none] [.int v7, .int y4, .ref 86] (z_Z, Iy, J) 0 0 (some (.int r)) (z_Z, IR, J)) h (fun v7 h => ?_) (fun hz => ?_)
      · obtain ⟨q9, h⟩ := zk_ck_e h
        refine e_iast rfl rfl (Nat.le_of_ble_eq_true rfl) q9 rfl ?_
        obtain ⟨I10, hI10, h⟩ := zk_lt_g h
        refine c_memI hI10 ?_
        refine e_iinc (L2 := [some (.ref 76), some (.int p1), some (.int p2), some (.int p3), some (.int (y4 + (1 : Int32))), none, none, none]) rfl rfl vi_1 rfl rfl rfl ?_
        refine c_goto rfl ?_
        exact ih _ _ h
      · refine c_icmp_ne rfl (fun q6 => ?_) (fun q6 => ?_)
        · refine c_iconst rfl vi_0 ?_
          rw [if_neg q6] at hz
          exact hz
        · refine c_iconst rfl vi_1 ?_
          refine c_goto rfl ?_
          rw [if_pos q6] at hz
          exact hz
set_option maxRecDepth 20000 in
theorem kl_X8_clubs_165 {X : zk_X} {p1 : Int32} {p2 : Int32} {p3 : Int32} {p4 : Int32} {p5 : Int32} {p6 : Int32} {J : zk_J} {K : zk_I → Option (Int32 × zk_I)} {r : Int32} {IR : zk_I} (jK : ∀ (Iz : zk_I), K Iz = some (r, IR) → zC X 2 m_X8_clubs 217 [some (.ref 76), some (.int p1), some (.int p2), some (.int p3), some (.int p4), none, none, none] [] (z_Z, Iz, J) 0 0 (some (.int r)) (z_Z, IR, J)) : ∀ (n : Nat) (y7 : Int32) (Iy : zk_I), l_X8_clubs_165 p1 p2 p3 p4 p5 p6 K n y7 Iy = some (r, IR) → zC X 2 m_X8_clubs 165 [some (.ref 76), some (.int p1), some (.int p2), some (.int p3), some (.int p4), some (.int p5), some (.int p6), some (.int y7)] [] (z_Z, Iy, J) 0 0 (some (.int r)) (z_Z, IR, J) := by
  intro n
  induction n with
  | zero =>
    intro y7 Iy h
    cases h
  | succ n ih =>
    intro y7 Iy h
    rw [l_X8_clubs_165] at h
    refine c_iload rfl rfl ?_
    refine c_bipush rfl vb_8 ?_
    refine c_icmp_ge rfl (fun q23 => ?_) (fun q23 => ?_)
    · rw [if_pos q23] at h
      refine c_drop [true, true, true, true, true, false, false, false] (L2 := [some (.ref 76), some (.int p1), some (.int p2), some (.int p3), some (.int p4), none, none, none]) rfl ?_
      exact jK _ h
    · rw [if_neg q23] at h
      refine c_iload rfl rfl ?_
      refine c_iload rfl rfl ?_
      refine c_ishr rfl ?_
      refine c_iconst rfl vi_1 ?_
      refine c_iand rfl ?_
      refine c_iconst rfl vi_1 ?_
      refine zk_jp1_e (Z := fun (I25 : zk_I) => zC X 2 m_X8_clubs 211 [some (.ref 76), some (.int p1), some (.int p2), some (.int p3), some (.int p4), some (.int p5), some (.int p6), some (.int y7)] [] (z_Z, I25, J) 0 0 (some (.int r)) (z_Z, IR, J)) h (fun I25 h => ?_) (fun K26 jK26 h => ?_)
      · refine e_iinc (L2 := [some (.ref 76), some (.int p1), some (.int p2), some (.int p3), some (.int p4), some (.int p5), some (.int p6), some (.int (y7 + (1 : Int32)))]) rfl rfl vi_1 rfl rfl rfl ?_
        refine c_goto rfl ?_
        exact ih _ _ h
      · refine c_icmp_ne rfl (fun q24 => ?_) (fun q24 => ?_)
        · rw [if_neg q24] at h
          exact jK26 _ h
        · rw [if_pos q24] at h
          refine c_aload_n rfl rfl ?_
          refine c_getR rfl fk_X8_38 rfl (Nat.le_of_ble_eq_true rfl) rfl ?_
          refine c_bipush rfl vb_8 ?_
          refine c_iload rfl rfl ?_
          refine c_iconst rfl vi_1 ?_
          refine c_iload rfl rfl ?_
          refine c_ishl rfl ?_
          refine c_ior rfl ?_
          refine c_imul rfl ?_
          refine c_iload rfl rfl ?_
          refine c_iadd rfl ?_
          refine c_dup2 rfl rfl rfl ?_
          obtain ⟨q27, h⟩ := zk_ck_e h
          refine e_iald rfl rfl (Nat.le_of_ble_eq_true rfl) q27 rfl ?_
          refine c_aload_n rfl rfl ?_
          refine c_getR rfl fk_X8_38 rfl (Nat.le_of_ble_eq_true rfl) rfl ?_
          refine c_iload rfl rfl ?_
          obtain ⟨q28, h⟩ := zk_ck_e h
          refine e_iald rfl rfl (Nat.le_of_ble_eq_true rfl) q28 rfl ?_
          refine c_iadd rfl ?_
          obtain ⟨q29, h⟩ := zk_ck_e h
          refine e_iast rfl rfl (Nat.le_of_ble_eq_true rfl) q29 rfl ?_
          obtain ⟨I30, hI30, h⟩ := zk_lt_g h
          refine c_memI hI30 ?_
          exact jK26 _ h
set_option maxRecDepth 20000 in
theorem kl_X8_clubs_72 {X : zk_X} {p1 : Int32} {p3 : Int32} {J : zk_J} {K : Int32 → zk_I → Option (Int32 × zk_I)} {r : Int32} {IR : zk_I} (jK : ∀ (z2 : Int32) (Iz : zk_I), K z2 Iz = some (r, IR) → zC X 2 m_X8_clubs 223 [some (.ref 76), some (.int p1), some (.int z2), some (.int p3), none, none, none, none] [] (z_Z, Iz, J) 0 0 (some (.int r)) (z_Z, IR, J)) : ∀ (n : Nat) (y2 : Int32) (y4 : Int32) (Iy : zk_I), l_X8_clubs_72 p1 p3 K n y2 y4 Iy = some (r, IR) → zC X 2 m_X8_clubs 72 [some (.ref 76), some (.int p1), some (.int y2), some (.int p3), some (.int y4), none, none, none] [] (z_Z, Iy, J) 0 0 (some (.int r)) (z_Z, IR, J) := by
  intro n
  induction n with
  | zero =>
    intro y2 y4 Iy h
    cases h
  | succ n ih =>
    intro y2 y4 Iy h
    rw [l_X8_clubs_72] at h
    refine c_iload rfl rfl ?_
    refine c_sipush rfl vs_2048 ?_
    refine c_icmp_ge rfl (fun q12 => ?_) (fun q12 => ?_)
    · rw [if_pos q12] at h
      refine c_drop [true, true, true, true, false, true, true, true] (L2 := [some (.ref 76), some (.int p1), some (.int y2), some (.int p3), none, none, none, none]) rfl ?_
      exact jK _ _ h
    · rw [if_neg q12] at h
      refine c_iload rfl rfl ?_
      refine c_bipush rfl vb_8 ?_
      refine c_idiv rfl (by decide) ?_
      refine e_istore (L2 := [some (.ref 76), some (.int p1), some (.int y2), some (.int p3), some (.int y4), some (.int (y4 / (8 : Int32))), none, none]) rfl rfl rfl rfl ?_
      refine c_aload_n rfl rfl ?_
      refine c_getR rfl fk_X8_38 rfl (Nat.le_of_ble_eq_true rfl) rfl ?_
      refine c_iload rfl rfl ?_
      obtain ⟨q13, h⟩ := zk_ck_e h
      refine e_iald rfl rfl (Nat.le_of_ble_eq_true rfl) q13 rfl ?_
      refine zk_jp1_e (Z := fun (v15 : Int32) => zC X 2 m_X8_clubs 116 [some (.ref 76), some (.int p1), some (.int y2), some (.int p3), some (.int y4), some (.int (y4 / (8 : Int32))), none, none] [.int v15] (z_Z, Iy, J) 0 0 (some (.int r)) (z_Z, IR, J)) h (fun v15 h => ?_) (fun K16 jK16 h => ?_)
      · refine e_istore (L2 := [some (.ref 76), some (.int p1), some (.int y2), some (.int p3), some (.int y4), some (.int (y4 / (8 : Int32))), some (.int v15), none]) rfl rfl rfl rfl ?_
        refine c_iload_n rfl rfl ?_
        refine c_iload rfl rfl ?_
        obtain ⟨r18, h17, h⟩ := zk_bd1_e h
        refine e_callS (As := [.int (y4 / (8 : Int32))]) (st := [.int y2]) rfl lk_X8_152 rfl rfl rfl (Nat.le_of_ble_eq_true rfl) rfl (k_X8_ones h17) ?_
        refine c_iload_n rfl rfl ?_
        refine zk_jp1_e (Z := fun (v20 : Int32) => zC X 2 m_X8_clubs 149 [some (.ref 76), some (.int p1), none, some (.int p3), some (.int y4), some (.int (y4 / (8 : Int32))), some (.int v15), none] [.int v20, .int y2] (z_Z, Iy, J) 0 0 (some (.int r)) (z_Z, IR, J)) h (fun v20 h => ?_) (fun K21 jK21 h => ?_)
        · refine c_iadd rfl ?_
          refine e_istore_n (L2 := [some (.ref 76), some (.int p1), some (.int (y2 + v20)), some (.int p3), some (.int y4), some (.int (y4 / (8 : Int32))), some (.int v15), none]) rfl rfl rfl rfl ?_
          refine c_iload rfl rfl ?_
          refine c_iload rfl rfl ?_
          refine c_iconst rfl vi_m1 ?_
          refine c_ixor rfl ?_
          refine c_iand rfl ?_
          obtain ⟨x22, hx22, h⟩ := zk_lt_g h
          refine c_topi hx22 ?_
          refine e_istore (L2 := [some (.ref 76), some (.int p1), some (.int (y2 + v20)), some (.int p3), some (.int y4), some (.int (y4 / (8 : Int32))), some (.int x22), none]) rfl rfl rfl rfl ?_
          refine c_iload_n rfl rfl ?_
          refine c_iconst rfl vi_1 ?_
          refine c_iadd rfl ?_
          refine e_istore (L2 := [some (.ref 76), some (.int p1), some (.int (y2 + v20)), some (.int p3), some (.int y4), some (.int (y4 / (8 : Int32))), some (.int x22), some (.int (p3 + (1 : Int32)))]) rfl rfl rfl rfl ?_
          refine kl_X8_clubs_165 (fun I31 h => ?_) _ _ _ h
          refine e_iinc (L2 := [some (.ref 76), some (.int p1), some (.int (y2 + v20)), some (.int p3), some (.int (y4 + (1 : Int32))), none, none, none]) rfl rfl vi_1 rfl rfl rfl ?_
          refine c_goto rfl ?_
          exact ih _ _ _ h
        · refine zk_jp0_e (Z := zC X 2 m_X8_clubs 148 [some (.ref 76), some (.int p1), none, some (.int p3), some (.int y4), some (.int (y4 / (8 : Int32))), some (.int v15), none] [.int y2] (z_Z, Iy, J) 0 0 (some (.int r)) (z_Z, IR, J)) h (fun h => ?_) (fun K32 jK32 h => ?_)
          · refine c_iconst rfl vi_0 ?_
            exact jK21 _ h
          · refine c_icmp_ne rfl (fun q19 => ?_) (fun q19 => ?_)
            · rw [if_neg q19] at h
              refine c_drop [true, true, false, true, true, true, true, true] (L2 := [some (.ref 76), some (.int p1), none, some (.int p3), some (.int y4), some (.int (y4 / (8 : Int32))), some (.int v15), none]) rfl ?_
              exact jK32 h
            · rw [if_pos q19] at h
              refine c_iload rfl rfl ?_
              refine c_iload_n rfl rfl ?_
              refine c_ishr rfl ?_
              refine c_iconst rfl vi_1 ?_
              refine c_iand rfl ?_
              refine c_iconst rfl vi_1 ?_
              refine c_icmp_ne rfl (fun q33 => ?_) (fun q33 => ?_)
              · rw [if_neg q33] at h
                refine c_drop [true, true, false, true, true, true, true, true] (L2 := [some (.ref 76), some (.int p1), none, some (.int p3), some (.int y4), some (.int (y4 / (8 : Int32))), some (.int v15), none]) rfl ?_
                exact jK32 h
              · rw [if_pos q33] at h
                refine c_aload_n rfl rfl ?_
                refine c_getR rfl fk_X8_38 rfl (Nat.le_of_ble_eq_true rfl) rfl ?_
                refine c_iload rfl rfl ?_
                obtain ⟨q34, h⟩ := zk_ck_e h
                refine e_iald rfl rfl (Nat.le_of_ble_eq_true rfl) q34 rfl ?_
                refine c_goto rfl ?_
                refine c_drop [true, true, false, true, true, true, true, true] (L2 := [some (.ref 76), some (.int p1), none, some (.int p3), some (.int y4), some (.int (y4 / (8 : Int32))), some (.int v15), none]) rfl ?_
                exact jK21 _ h
      · refine c_if_le rfl (fun q14 => ?_) (fun q14 => ?_)
        · rw [if_pos q14] at h
          refine c_iconst rfl vi_0 ?_
          exact jK16 _ h
        · rw [if_neg q14] at h
          refine c_aload_n rfl rfl ?_
          refine c_iload rfl rfl ?_
          refine c_bipush rfl vb_8 ?_
          refine c_irem rfl (by decide) ?_
          refine c_aload_n rfl rfl ?_
          refine c_getR rfl fk_X8_19 rfl (Nat.le_of_ble_eq_true rfl) rfl ?_
          refine c_iconst rfl vi_0 ?_
          refine e_iald rfl rfl (Nat.le_of_ble_eq_true rfl) (by decide) zt_0 ?_
          obtain ⟨r36, h35, h⟩ := zk_bd1_e h
          refine e_callV (As := [.int (y4 - y4 / (8 : Int32) * (8 : Int32)), .int (Iy 80 0)]) (st := []) rfl lk_X8_136 rfl (Nat.le_of_ble_eq_true rfl) rfl rfl rfl (Nat.le_of_ble_eq_true rfl) rfl (k_X8_named h35) ?_
          refine c_goto rfl ?_
          exact jK16 _ h
set_option maxRecDepth 20000 in
theorem kl_X8_clubs_17 {X : zk_X} {p1 : Int32} {J : zk_J} {K : Int32 → zk_I → Option (Int32 × zk_I)} {r : Int32} {IR : zk_I} (jK : ∀ (z2 : Int32) (Iz : zk_I), K z2 Iz = some (r, IR) → zC X 2 m_X8_clubs 229 [none, none, some (.int z2), none, none, none, none, none] [] (z_Z, Iz, J) 0 0 (some (.int r)) (z_Z, IR, J)) : ∀ (n : Nat) (y2 : Int32) (y3 : Int32) (Iy : zk_I), l_X8_clubs_17 p1 K n y2 y3 Iy = some (r, IR) → zC X 2 m_X8_clubs 17 [some (.ref 76), some (.int p1), some (.int y2), some (.int y3), none, none, none, none] [] (z_Z, Iy, J) 0 0 (some (.int r)) (z_Z, IR, J) := by
  intro n
  induction n with
  | zero =>
    intro y2 y3 Iy h
    cases h
  | succ n ih =>
    intro y2 y3 Iy h
    rw [l_X8_clubs_17] at h
    refine c_iload_n rfl rfl ?_
    refine c_aload_n rfl rfl ?_
    refine c_getR rfl fk_X8_13 rfl (Nat.le_of_ble_eq_true rfl) rfl ?_
    refine c_iconst rfl vi_0 ?_
    refine e_iald rfl rfl (Nat.le_of_ble_eq_true rfl) (by decide) zt_0 ?_
    refine c_icmp_ge rfl (fun q4 => ?_) (fun q4 => ?_)
    · rw [if_pos q4] at h
      refine c_drop [false, false, true, false, true, true, true, true] (L2 := [none, none, some (.int y2), none, none, none, none, none]) rfl ?_
      exact jK _ _ h
    · rw [if_neg q4] at h
      refine c_iconst rfl vi_0 ?_
      refine e_istore (L2 := [some (.ref 76), some (.int p1), some (.int y2), some (.int y3), some (.int (0 : Int32)), none, none, none]) rfl rfl rfl rfl ?_
      refine kl_X8_clubs_30 (fun I11 h => ?_) _ _ _ h
      refine c_iconst rfl vi_0 ?_
      refine e_istore (L2 := [some (.ref 76), some (.int p1), some (.int y2), some (.int y3), some (.int (0 : Int32)), none, none, none]) rfl rfl rfl rfl ?_
      refine kl_X8_clubs_72 (fun z37 I38 h => ?_) _ _ _ _ h
      refine e_iinc (L2 := [some (.ref 76), some (.int p1), some (.int z37), some (.int (y3 + (1 : Int32))), none, none, none, none]) rfl rfl vi_1 rfl rfl rfl ?_
      refine c_goto rfl ?_
      exact ih _ _ _ h
set_option maxRecDepth 20000 in
theorem k_X8_clubs {X : zk_X} {I : zk_I} {J : zk_J} {a1 : Int32} {r : Int32} {IR : zk_I} (h : f_X8_clubs I a1 = some (r, IR)) : zC X 2 m_X8_clubs 0 (zk_ent [.ref 76, .int a1] 8) [] (z_Z, I, J) 0 0 (some (.int r)) (z_Z, IR, J) := by
  unfold f_X8_clubs at h
  refine c_ent (L2 := [some (.ref 76), some (.int a1), none, none, none, none, none, none]) rfl ?_
  refine c_iload_n rfl rfl ?_
  refine c_iconst rfl vi_2 ?_
  refine c_bipush rfl vb_6 ?_
  obtain ⟨r2, h1, h⟩ := zk_lt_g h
  refine e_callS (As := [.int a1, .int (2 : Int32), .int (6 : Int32)]) (st := []) rfl lk_X8_63 rfl rfl rfl (Nat.le_of_ble_eq_true rfl) rfl (k_X8_in h1.symm) ?_
  refine c_if_ne rfl (fun q3 => ?_) (fun q3 => ?_)
  · rw [if_neg q3] at h
    refine c_iconst rfl vi_0 ?_
    refine e_istore_n (L2 := [some (.ref 76), some (.int a1), some (.int (0 : Int32)), none, none, none, none, none]) rfl rfl rfl rfl ?_
    refine c_iconst rfl vi_0 ?_
    refine e_istore_n (L2 := [some (.ref 76), some (.int a1), some (.int (0 : Int32)), some (.int (0 : Int32)), none, none, none, none]) rfl rfl rfl rfl ?_
    refine kl_X8_clubs_17 (fun z39 I40 h => ?_) _ _ _ _ h
    refine c_iload_n rfl rfl ?_
    obtain ⟨rfl, rfl⟩ := zk_r2 h
    exact c_ireturn rfl rfl rfl
  · rw [if_pos q3] at h
    refine c_bipush rfl vb_m3 ?_
    obtain ⟨rfl, rfl⟩ := zk_r2 h
    exact c_ireturn rfl rfl rfl
def l_X8_holders_10 (I : zk_I) (J : zk_J) (p1 : Int32) (p2 : Int32) (K : Int32 → Option (Int32 × zk_J)) : Nat → Int32 → Int32 → Option (Int32 × zk_J)
  | 0, _, _ => none
  | n + 1, y3, y4 => (if (2048 : Int32) ≤ y4 then (
    K y3) else (
    zk_ck (zk_in y4 2048) (
     zk_jp1 (fun (v6 : Int32) =>
      l_X8_holders_10 I J p1 p2 K n (y3 ||| v6) (y4 + (1 : Int32))) (fun (K7 : Int32 → Option (Int32 × zk_J)) =>
      zk_jp0 (K7 (0 : Int32)) (fun (K8 : Option (Int32 × zk_J)) =>
       (if (lg_cmp (J 92 y4.toNatClampNeg) (0 : Int64)) ≤ 0 then (
        K8) else (
        zk_bd1 (f_X8_ones (y4 / (8 : Int32))) (fun (r10 : Int32) =>
         zk_ck (zk_in ((6 : Int32) + p1) 14) (
          zk_bd1 (f_X8_ones (I 80 ((6 : Int32) + p1).toNatClampNeg)) (fun (r13 : Int32) =>
           (if (r10 - r13) = p2 then (
            K7 ((1 : Int32) <<< ((y4 - y4 / (8 : Int32) * (8 : Int32)) &&& 31))) else (
            K8))))))))))))
def f_X8_holders (I : zk_I) (J : zk_J) (a1 : Int32) (a2 : Int32) : Option (Int32 × zk_J) := zk_bd1 (f_X8_laysOdds I J a1) (fun (J2 : zk_J) =>
  l_X8_holders_10 I J2 a1 a2 (fun (z15 : Int32) =>
   some (z15, J2)) 3000 (0 : Int32) (0 : Int32))
set_option maxRecDepth 20000 in
theorem kl_X8_holders_10 {X : zk_X} {I : zk_I} {J : zk_J} {p1 : Int32} {p2 : Int32} {K : Int32 → Option (Int32 × zk_J)} {r : Int32} {JR : zk_J} (jK : ∀ (z3 : Int32), K z3 = some (r, JR) → zC X 4 m_X8_holders 75 [none, none, none, some (.int z3), none] [] (z_Z, I, J) 0 0 (some (.int r)) (z_Z, I, JR)) : ∀ (n : Nat) (y3 : Int32) (y4 : Int32), l_X8_holders_10 I J p1 p2 K n y3 y4 = some (r, JR) → zC X 4 m_X8_holders 10 [some (.ref 76), some (.int p1), some (.int p2), some (.int y3), some (.int y4)] [] (z_Z, I, J) 0 0 (some (.int r)) (z_Z, I, JR) := by
  intro n
  induction n with
  | zero =>
    intro y3 y4 h
    cases h
  | succ n ih =>
    intro y3 y4 h
    rw [l_X8_holders_10] at h
    refine c_iload rfl rfl ?_
    refine c_sipush rfl vs_2048 ?_
    refine c_icmp_ge rfl (fun q3 => ?_) (fun q3 => ?_)
    · rw [if_pos q3] at h
      refine c_drop [false, false, false, true, false] (L2 := [none, none, none, some (.int y3), none]) rfl ?_
      exact jK _ h
    · rw [if_neg q3] at h
      refine c_iload_n rfl rfl ?_
      refine c_aload_n rfl rfl ?_
      refine c_getR rfl fk_X8_56 rfl (Nat.le_of_ble_eq_true rfl) rfl ?_
      refine c_iload rfl rfl ?_
      obtain ⟨q4, h⟩ := zk_ck_e h
      refine e_lald rfl rfl (Nat.le_of_ble_eq_true rfl) q4 rfl ?_
      refine c_lconst rfl vl_0 ?_
      refine c_lcmp rfl ?_
      refine zk_jp1_e (Z := fun (v6 : Int32) => zC X 4 m_X8_holders 67 [some (.ref 76), some (.int p1), some (.int p2), none, some (.int y4)] [.int v6, .int y3] (z_Z, I, J) 0 0 (some (.int r)) (z_Z, I, JR)) h (fun v6 h => ?_) (fun K7 jK7 h => ?_)
      · refine c_ior rfl ?_
        refine e_istore_n (L2 := [some (.ref 76), some (.int p1), some (.int p2), some (.int (y3 ||| v6)), some (.int y4)]) rfl rfl rfl rfl ?_
        refine e_iinc (L2 := [some (.ref 76), some (.int p1), some (.int p2), some (.int (y3 ||| v6)), some (.int (y4 + (1 : Int32)))]) rfl rfl vi_1 rfl rfl rfl ?_
        refine c_goto rfl ?_
        exact ih _ _ h
      · refine zk_jp0_e (Z := zC X 4 m_X8_holders 66 [some (.ref 76), some (.int p1), some (.int p2), none, some (.int y4)] [.int y3] (z_Z, I, J) 0 0 (some (.int r)) (z_Z, I, JR)) h (fun h => ?_) (fun K8 jK8 h => ?_)
        · refine c_iconst rfl vi_0 ?_
          exact jK7 _ h
        · refine c_if_le rfl (fun q5 => ?_) (fun q5 => ?_)
          · rw [if_pos q5] at h
            refine c_drop [true, true, true, false, true] (L2 := [some (.ref 76), some (.int p1), some (.int p2), none, some (.int y4)]) rfl ?_
            exact jK8 h
          · rw [if_neg q5] at h
            refine c_iload rfl rfl ?_
            refine c_bipush rfl vb_8 ?_
            refine c_idiv rfl (by decide) ?_
            obtain ⟨r10, h9, h⟩ := zk_bd1_e h
            refine e_callS (As := [.int (y4 / (8 : Int32))]) (st := [.int y3]) rfl lk_X8_152 rfl rfl rfl (Nat.le_of_ble_eq_true rfl) rfl (k_X8_ones h9) ?_
            refine c_aload_n rfl rfl ?_
            refine c_getR rfl fk_X8_19 rfl (Nat.le_of_ble_eq_true rfl) rfl ?_
            refine c_bipush rfl vb_6 ?_
            refine c_iload_n rfl rfl ?_
            refine c_iadd rfl ?_
            obtain ⟨q11, h⟩ := zk_ck_e h
            refine e_iald rfl rfl (Nat.le_of_ble_eq_true rfl) q11 rfl ?_
            obtain ⟨r13, h12, h⟩ := zk_bd1_e h
            refine e_callS (As := [.int (I 80 ((6 : Int32) + p1).toNatClampNeg)]) (st := [.int r10, .int y3]) rfl lk_X8_152 rfl rfl rfl (Nat.le_of_ble_eq_true rfl) rfl (k_X8_ones h12) ?_
            refine c_isub rfl ?_
            refine c_iload_n rfl rfl ?_
            refine c_icmp_ne rfl (fun q14 => ?_) (fun q14 => ?_)
            · rw [if_neg q14] at h
              refine c_drop [true, true, true, false, true] (L2 := [some (.ref 76), some (.int p1), some (.int p2), none, some (.int y4)]) rfl ?_
              exact jK8 h
            · rw [if_pos q14] at h
              refine c_iconst rfl vi_1 ?_
              refine c_iload rfl rfl ?_
              refine c_bipush rfl vb_8 ?_
              refine c_irem rfl (by decide) ?_
              refine c_ishl rfl ?_
              refine c_goto rfl ?_
              refine c_drop [true, true, true, false, true] (L2 := [some (.ref 76), some (.int p1), some (.int p2), none, some (.int y4)]) rfl ?_
              exact jK7 _ h
set_option maxRecDepth 20000 in
theorem k_X8_holders {X : zk_X} {I : zk_I} {J : zk_J} {a1 : Int32} {a2 : Int32} {r : Int32} {JR : zk_J} (h : f_X8_holders I J a1 a2 = some (r, JR)) : zC X 4 m_X8_holders 0 (zk_ent [.ref 76, .int a1, .int a2] 5) [] (z_Z, I, J) 0 0 (some (.int r)) (z_Z, I, JR) := by
  unfold f_X8_holders at h
  refine c_ent (L2 := [some (.ref 76), some (.int a1), some (.int a2), none, none]) rfl ?_
  refine c_aload_n rfl rfl ?_
  refine c_iload_n rfl rfl ?_
  obtain ⟨J2, h1, h⟩ := zk_bd1_e h
  refine e_callV (As := [.int a1]) (st := []) rfl lk_X8_175 rfl (Nat.le_of_ble_eq_true rfl) rfl rfl rfl (Nat.le_of_ble_eq_true rfl) rfl (k_X8_laysOdds h1) ?_
  refine c_iconst rfl vi_0 ?_
  refine e_istore_n (L2 := [some (.ref 76), some (.int a1), some (.int a2), some (.int (0 : Int32)), none]) rfl rfl rfl rfl ?_
  refine c_iconst rfl vi_0 ?_
  refine e_istore (L2 := [some (.ref 76), some (.int a1), some (.int a2), some (.int (0 : Int32)), some (.int (0 : Int32))]) rfl rfl rfl rfl ?_
  refine kl_X8_holders_10 (fun z15 h => ?_) _ _ _ h
  refine c_iload_n rfl rfl ?_
  obtain ⟨rfl, rfl⟩ := zk_r2 h
  exact c_ireturn rfl rfl rfl
def l_X8_meet_30 (I : zk_I) (p1 : Int32) (p2 : Int32) (K : Int32 → zk_J → Option (Int32 × zk_J)) : Nat → Int32 → Int32 → zk_J → Option (Int32 × zk_J)
  | 0, _, _, _ => none
  | n + 1, y3, y4, Jy => (if y4 < 0 then (
    K y3 Jy) else (
    zk_bd2 (f_X8_holders I Jy p1 y4) (fun (r10 : Int32) (J11 : zk_J) =>
     zk_bd2 (f_X8_holders I J11 p2 y4) (fun (r13 : Int32) (J14 : zk_J) =>
      zk_lt ((if (r10 &&& r13) = 0 then y3 else y4)) (fun (v16 : Int32) =>
       l_X8_meet_30 I p1 p2 K n v16 (y4 + (-1 : Int32)) J14)))))
def f_X8_meet (I : zk_I) (J : zk_J) (a1 : Int32) (a2 : Int32) : Option (Int32 × zk_J) := zk_bd1 (f_X8_isBook I a1) (fun (r2 : Int32) =>
  (if r2 = 0 then (
   some ((-2 : Int32), J)) else (
   zk_bd1 (f_X8_isBook I a2) (fun (r5 : Int32) =>
    (if r5 = 0 then (
     some ((-2 : Int32), J)) else (
     (if a1 = a2 then (
      some ((-2 : Int32), J)) else (
      l_X8_meet_30 I a1 a2 (fun (z18 : Int32) (J19 : zk_J) =>
       some (z18, J19)) 3000 (-1 : Int32) (7 : Int32) J))))))))
set_option maxRecDepth 20000 in
theorem kl_X8_meet_30 {X : zk_X} {I : zk_I} {p1 : Int32} {p2 : Int32} {K : Int32 → zk_J → Option (Int32 × zk_J)} {r : Int32} {JR : zk_J} (jK : ∀ (z3 : Int32) (Jz : zk_J), K z3 Jz = some (r, JR) → zC X 5 m_X8_meet 66 [none, none, none, some (.int z3), none] [] (z_Z, I, Jz) 0 0 (some (.int r)) (z_Z, I, JR)) : ∀ (n : Nat) (y3 : Int32) (y4 : Int32) (Jy : zk_J), l_X8_meet_30 I p1 p2 K n y3 y4 Jy = some (r, JR) → zC X 5 m_X8_meet 30 [some (.ref 76), some (.int p1), some (.int p2), some (.int y3), some (.int y4)] [] (z_Z, I, Jy) 0 0 (some (.int r)) (z_Z, I, JR) := by
  intro n
  induction n with
  | zero =>
    intro y3 y4 Jy h
    cases h
  | succ n ih =>
    intro y3 y4 Jy h
    rw [l_X8_meet_30] at h
    refine c_iload rfl rfl ?_
    refine c_if_lt rfl (fun q8 => ?_) (fun q8 => ?_)
    · rw [if_pos q8] at h
      refine c_drop [false, false, false, true, false] (L2 := [none, none, none, some (.int y3), none]) rfl ?_
      exact jK _ _ h
    · rw [if_neg q8] at h
      refine c_aload_n rfl rfl ?_
      refine c_iload_n rfl rfl ?_
      refine c_iload rfl rfl ?_
      obtain ⟨r10, J11, h9, h⟩ := zk_bd2_e h
      refine e_callV (As := [.int p1, .int y4]) (st := []) rfl lk_X8_183 rfl (Nat.le_of_ble_eq_true rfl) rfl rfl rfl (Nat.le_of_ble_eq_true rfl) rfl (k_X8_holders h9) ?_
      refine c_aload_n rfl rfl ?_
      refine c_iload_n rfl rfl ?_
      refine c_iload rfl rfl ?_
      obtain ⟨r13, J14, h12, h⟩ := zk_bd2_e h
      refine e_callV (As := [.int p2, .int y4]) (st := [.int r10]) rfl lk_X8_183 rfl (Nat.le_of_ble_eq_true rfl) rfl rfl rfl (Nat.le_of_ble_eq_true rfl) rfl (k_X8_holders h12) ?_
      refine c_iand rfl ?_
      refine zk_lt1K (Z := fun (v16 : Int32) => zC X 5 m_X8_meet 59 [some (.ref 76), some (.int p1), some (.int p2), none, some (.int y4)] [.int v16] (z_Z, I, J14) 0 0 (some (.int r)) (z_Z, I, JR)) h (fun v16 h => ?_) (fun hz => ?_)
      · refine e_istore_n (L2 := [some (.ref 76), some (.int p1), some (.int p2), some (.int v16), some (.int y4)]) rfl rfl rfl rfl ?_
        refine e_iinc (L2 := [some (.ref 76), some (.int p1), some (.int p2), some (.int v16), some (.int (y4 + (-1 : Int32)))]) rfl rfl vi_m1 rfl rfl rfl ?_
        refine c_goto rfl ?_
        exact ih _ _ _ h
      · refine c_if_eq rfl (fun q15 => ?_) (fun q15 => ?_)
        · refine c_iload_n rfl rfl ?_
          refine c_drop [true, true, true, false, true] (L2 := [some (.ref 76), some (.int p1), some (.int p2), none, some (.int y4)]) rfl ?_
          rw [if_pos q15] at hz
          exact hz
        · refine c_iload rfl rfl ?_
          refine c_goto rfl ?_
          refine c_drop [true, true, true, false, true] (L2 := [some (.ref 76), some (.int p1), some (.int p2), none, some (.int y4)]) rfl ?_
          rw [if_neg q15] at hz
          exact hz
set_option maxRecDepth 20000 in
theorem k_X8_meet {X : zk_X} {I : zk_I} {J : zk_J} {a1 : Int32} {a2 : Int32} {r : Int32} {JR : zk_J} (h : f_X8_meet I J a1 a2 = some (r, JR)) : zC X 5 m_X8_meet 0 (zk_ent [.ref 76, .int a1, .int a2] 5) [] (z_Z, I, J) 0 0 (some (.int r)) (z_Z, I, JR) := by
  unfold f_X8_meet at h
  refine c_ent (L2 := [some (.ref 76), some (.int a1), some (.int a2), none, none]) rfl ?_
  refine c_aload_n rfl rfl ?_
  refine c_iload_n rfl rfl ?_
  obtain ⟨r2, h1, h⟩ := zk_bd1_e h
  refine e_callV (As := [.int a1]) (st := []) rfl lk_X8_143 rfl (Nat.le_of_ble_eq_true rfl) rfl rfl rfl (Nat.le_of_ble_eq_true rfl) rfl (k_X8_isBook h1) ?_
  refine c_if_eq rfl (fun q3 => ?_) (fun q3 => ?_)
  · rw [if_pos q3] at h
    refine c_bipush rfl vb_m2 ?_
    obtain ⟨rfl, rfl⟩ := zk_r2 h
    exact c_ireturn rfl rfl rfl
  · rw [if_neg q3] at h
    refine c_aload_n rfl rfl ?_
    refine c_iload_n rfl rfl ?_
    obtain ⟨r5, h4, h⟩ := zk_bd1_e h
    refine e_callV (As := [.int a2]) (st := []) rfl lk_X8_143 rfl (Nat.le_of_ble_eq_true rfl) rfl rfl rfl (Nat.le_of_ble_eq_true rfl) rfl (k_X8_isBook h4) ?_
    refine c_if_eq rfl (fun q6 => ?_) (fun q6 => ?_)
    · rw [if_pos q6] at h
      refine c_bipush rfl vb_m2 ?_
      obtain ⟨rfl, rfl⟩ := zk_r2 h
      exact c_ireturn rfl rfl rfl
    · rw [if_neg q6] at h
      refine c_iload_n rfl rfl ?_
      refine c_iload_n rfl rfl ?_
      refine c_icmp_ne rfl (fun q7 => ?_) (fun q7 => ?_)
      · rw [if_neg q7] at h
        refine c_iconst rfl vi_m1 ?_
        refine e_istore_n (L2 := [some (.ref 76), some (.int a1), some (.int a2), some (.int (-1 : Int32)), none]) rfl rfl rfl rfl ?_
        refine c_bipush rfl vb_7 ?_
        refine e_istore (L2 := [some (.ref 76), some (.int a1), some (.int a2), some (.int (-1 : Int32)), some (.int (7 : Int32))]) rfl rfl rfl rfl ?_
        refine kl_X8_meet_30 (fun z18 J19 h => ?_) _ _ _ _ h
        refine c_iload_n rfl rfl ?_
        obtain ⟨rfl, rfl⟩ := zk_r2 h
        exact c_ireturn rfl rfl rfl
      · rw [if_pos q7] at h
        refine c_bipush rfl vb_m2 ?_
        obtain ⟨rfl, rfl⟩ := zk_r2 h
        exact c_ireturn rfl rfl rfl
def f_X8_slip (I : zk_I) (a1 : Int32) (a2 : Int32) : Option (Int32 × zk_I) := zk_bd1 (f_X8_isReader I a1) (fun (r2 : Int32) =>
  (if r2 = 0 then (
   some ((-2 : Int32), I)) else (
   zk_bd1 (f_X8_isReader I a2) (fun (r5 : Int32) =>
    (if r5 = 0 then (
     some ((-2 : Int32), I)) else (
     (if a1 = a2 then (
      some ((-2 : Int32), I)) else (
      (if (I 76 10) = (8 : Int32) then (
       some ((-5 : Int32), I)) else (
       zk_ck (zk_in (I 76 10) 8) (
        zk_lt (zk_sc I 84 (upd (I 84) (I 76 10).toNatClampNeg (((8 : Int32) * a1) + a2))) (fun (I10 : zk_I) =>
         zk_lt (zk_sc I10 76 (upd (I10 76) 10 ((I10 76 10) + (1 : Int32)))) (fun (I11 : zk_I) =>
          some ((I11 76 10), I11))))))))))))))
set_option maxRecDepth 20000 in
theorem k_X8_slip {X : zk_X} {I : zk_I} {J : zk_J} {a1 : Int32} {a2 : Int32} {r : Int32} {IR : zk_I} (h : f_X8_slip I a1 a2 = some (r, IR)) : zC X 3 m_X8_slip 0 (zk_ent [.ref 76, .int a1, .int a2] 3) [] (z_Z, I, J) 0 0 (some (.int r)) (z_Z, IR, J) := by
  unfold f_X8_slip at h
  refine c_ent (L2 := [some (.ref 76), some (.int a1), some (.int a2)]) rfl ?_
  refine c_aload_n rfl rfl ?_
  refine c_iload_n rfl rfl ?_
  obtain ⟨r2, h1, h⟩ := zk_bd1_e h
  refine e_callV (As := [.int a1]) (st := []) rfl lk_X8_140 rfl (Nat.le_of_ble_eq_true rfl) rfl rfl rfl (Nat.le_of_ble_eq_true rfl) rfl (k_X8_isReader h1) ?_
  refine c_if_eq rfl (fun q3 => ?_) (fun q3 => ?_)
  · rw [if_pos q3] at h
    refine c_bipush rfl vb_m2 ?_
    obtain ⟨rfl, rfl⟩ := zk_r2 h
    exact c_ireturn rfl rfl rfl
  · rw [if_neg q3] at h
    refine c_aload_n rfl rfl ?_
    refine c_iload_n rfl rfl ?_
    obtain ⟨r5, h4, h⟩ := zk_bd1_e h
    refine e_callV (As := [.int a2]) (st := []) rfl lk_X8_140 rfl (Nat.le_of_ble_eq_true rfl) rfl rfl rfl (Nat.le_of_ble_eq_true rfl) rfl (k_X8_isReader h4) ?_
    refine c_if_eq rfl (fun q6 => ?_) (fun q6 => ?_)
    · rw [if_pos q6] at h
      refine c_bipush rfl vb_m2 ?_
      obtain ⟨rfl, rfl⟩ := zk_r2 h
      exact c_ireturn rfl rfl rfl
    · rw [if_neg q6] at h
      refine c_iload_n rfl rfl ?_
      refine c_iload_n rfl rfl ?_
      refine c_icmp_ne rfl (fun q7 => ?_) (fun q7 => ?_)
      · rw [if_neg q7] at h
        refine c_aload_n rfl rfl ?_
        refine c_getI rfl fk_X8_133 rfl (Nat.le_of_ble_eq_true rfl) ?_
        refine c_bipush rfl vb_8 ?_
        refine c_icmp_ne rfl (fun q8 => ?_) (fun q8 => ?_)
        · rw [if_neg q8] at h
          refine c_aload_n rfl rfl ?_
          refine c_getR rfl fk_X8_32 rfl (Nat.le_of_ble_eq_true rfl) rfl ?_
          refine c_aload_n rfl rfl ?_
          refine c_getI rfl fk_X8_133 rfl (Nat.le_of_ble_eq_true rfl) ?_
          refine c_bipush rfl vb_8 ?_
          refine c_iload_n rfl rfl ?_
          refine c_imul rfl ?_
          refine c_iload_n rfl rfl ?_
          refine c_iadd rfl ?_
          obtain ⟨q9, h⟩ := zk_ck_e h
          refine e_iast rfl rfl (Nat.le_of_ble_eq_true rfl) q9 rfl ?_
          obtain ⟨I10, hI10, h⟩ := zk_lt_g h
          refine c_memI hI10 ?_
          refine c_aload_n rfl rfl ?_
          refine c_dup rfl rfl ?_
          refine c_getI rfl fk_X8_133 rfl (Nat.le_of_ble_eq_true rfl) ?_
          refine c_iconst rfl vi_1 ?_
          refine c_iadd rfl ?_
          refine c_putI rfl fk_X8_133 rfl rfl (Nat.le_of_ble_eq_true rfl) ?_
          obtain ⟨I11, hI11, h⟩ := zk_lt_g h
          refine c_memI hI11 ?_
          refine c_aload_n rfl rfl ?_
          refine c_getI rfl fk_X8_133 rfl (Nat.le_of_ble_eq_true rfl) ?_
          obtain ⟨rfl, rfl⟩ := zk_r2 h
          exact c_ireturn rfl rfl rfl
        · rw [if_pos q8] at h
          refine c_bipush rfl vb_m5 ?_
          obtain ⟨rfl, rfl⟩ := zk_r2 h
          exact c_ireturn rfl rfl rfl
      · rw [if_pos q7] at h
        refine c_bipush rfl vb_m2 ?_
        obtain ⟨rfl, rfl⟩ := zk_r2 h
        exact c_ireturn rfl rfl rfl
def f_X8_burn (I : zk_I) : Option (Int32 × zk_I) := zk_lt (zk_sc I 76 (upd (I 76) 10 (0 : Int32))) (fun (I1 : zk_I) =>
  some ((I 76 10), I1))
set_option maxRecDepth 20000 in
theorem k_X8_burn {X : zk_X} {I : zk_I} {J : zk_J} {r : Int32} {IR : zk_I} (h : f_X8_burn I = some (r, IR)) : zC X 1 m_X8_burn 0 (zk_ent [.ref 76] 2) [] (z_Z, I, J) 0 0 (some (.int r)) (z_Z, IR, J) := by
  unfold f_X8_burn at h
  refine c_ent (L2 := [some (.ref 76), none]) rfl ?_
  refine c_aload_n rfl rfl ?_
  refine c_getI rfl fk_X8_133 rfl (Nat.le_of_ble_eq_true rfl) ?_
  refine e_istore_n (L2 := [some (.ref 76), some (.int (I 76 10))]) rfl rfl rfl rfl ?_
  refine c_aload_n rfl rfl ?_
  refine c_iconst rfl vi_0 ?_
  refine c_putI rfl fk_X8_133 rfl rfl (Nat.le_of_ble_eq_true rfl) ?_
  obtain ⟨I1, hI1, h⟩ := zk_lt_g h
  refine c_memI hI1 ?_
  refine c_iload_n rfl rfl ?_
  obtain ⟨rfl, rfl⟩ := zk_r2 h
  exact c_ireturn rfl rfl rfl
def l_X8_canBe_4 (p1 : Int32) (p2 : Int32) (K : zk_I → Option (Int32 × zk_I)) : Nat → Int32 → zk_I → Option (Int32 × zk_I)
  | 0, _, _ => none
  | n + 1, y3, Iy => (if (8 : Int32) ≤ y3 then (
    K Iy) else (
    zk_ck (zk_in y3 8) (
     zk_lt (zk_sc Iy 93 (upd (Iy 93) y3.toNatClampNeg (-1 : Int32))) (fun (I3 : zk_I) =>
      l_X8_canBe_4 p1 p2 K n (y3 + (1 : Int32)) I3))))
def l_X8_canBe_25 (p1 : Int32) (K : zk_I → Option (Int32 × zk_I)) : Nat → Int32 → Int32 → zk_I → Option (Int32 × zk_I)
  | 0, _, _, _ => none
  | n + 1, y2, y3, Iy => (if (Iy 76 10) ≤ y3 then (
    K Iy) else (
    zk_jp2 (fun (v7 : Int32) (I8 : zk_I) =>
     l_X8_canBe_25 p1 K n v7 (y3 + (1 : Int32)) I8) (fun (K9 : Int32 → zk_I → Option (Int32 × zk_I)) =>
     (if ((p1 >>> (y3 &&& 31)) &&& (1 : Int32)) = (1 : Int32) then (
      zk_ck (zk_in y3 8) (
       zk_lt ((Iy 84 y3.toNatClampNeg) / (8 : Int32)) (fun (x11 : Int32) =>
        zk_ck (zk_in y3 8) (
         zk_lt ((Iy 84 y3.toNatClampNeg) - (Iy 84 y3.toNatClampNeg) / (8 : Int32) * (8 : Int32)) (fun (x13 : Int32) =>
          zk_ck (zk_in x11 8) (
           (if (Iy 93 x11.toNatClampNeg) = (-1 : Int32) then (
            (if ((y2 >>> (x13 &&& 31)) &&& (1 : Int32)) = (1 : Int32) then (
             some ((0 : Int32), Iy)) else (
             zk_bd1 (f_X8_named Iy x11 (0 : Int32)) (fun (r18 : Int32) =>
              (if ((r18 >>> (x13 &&& 31)) &&& (1 : Int32)) = 0 then (
               some ((0 : Int32), Iy)) else (
               zk_ck (zk_in x11 8) (
                zk_lt (zk_sc Iy 93 (upd (Iy 93) x11.toNatClampNeg x13)) (fun (I21 : zk_I) =>
                 zk_lt (y2 ||| ((1 : Int32) <<< (x13 &&& 31))) (fun (x22 : Int32) =>
                  K9 x22 I21))))))))) else (
            some ((0 : Int32), Iy))))))))) else (
      K9 y2 Iy)))))
def l_X8_canBe_143 (I : zk_I) (p3 : Int32) (p4 : Int32) (K : Int32 → Option (Int32 × zk_I)) : Nat → Int32 → Int32 → Option (Int32 × zk_I)
  | 0, _, _ => none
  | n + 1, y5, y6 => (if (8 : Int32) ≤ y6 then (
    K y5) else (
    (if y5 = (-1 : Int32) then (
     K y5) else (
     zk_ck (zk_in y5 8) (
      zk_lt (I 93 y5.toNatClampNeg) (fun (x28 : Int32) =>
       l_X8_canBe_143 I p3 p4 K n x28 (y6 + (1 : Int32))))))))
def l_X8_canBe_129 (I : zk_I) (K : Int32 → Option (Int32 × zk_I)) : Nat → Int32 → Int32 → Option (Int32 × zk_I)
  | 0, _, _ => none
  | n + 1, y3, y4 => (if (8 : Int32) ≤ y4 then (
    K y3) else (
    l_X8_canBe_143 I y3 y4 (fun (z29 : Int32) =>
     zk_jp1 (fun (v31 : Int32) =>
      l_X8_canBe_129 I K n v31 (y4 + (1 : Int32))) (fun (K32 : Int32 → Option (Int32 × zk_I)) =>
      zk_jp0 (K32 (0 : Int32)) (fun (K33 : Option (Int32 × zk_I)) =>
       (if y3 = 0 then (
        K33) else (
        (if z29 = (-1 : Int32) then (
         K32 (1 : Int32)) else (
         K33))))))) 3000 y4 (0 : Int32)))
def f_X8_canBe (I : zk_I) (a1 : Int32) : Option (Int32 × zk_I) := l_X8_canBe_4 a1 (0 : Int32) (fun (I4 : zk_I) =>
  l_X8_canBe_25 a1 (fun (I23 : zk_I) =>
   l_X8_canBe_129 I23 (fun (z35 : Int32) =>
    zk_ck (zk_01 z35) (
     some (z35, I23))) 3000 (1 : Int32) (0 : Int32)) 3000 (0 : Int32) (0 : Int32) I4) 3000 (0 : Int32) I
set_option maxRecDepth 20000 in
theorem kl_X8_canBe_4 {X : zk_X} {p1 : Int32} {p2 : Int32} {J : zk_J} {K : zk_I → Option (Int32 × zk_I)} {r : Int32} {IR : zk_I} (jK : ∀ (Iz : zk_I), K Iz = some (r, IR) → zC X 2 m_X8_canBe 23 [some (.ref 76), some (.int p1), some (.int p2), none, none, none, none] [] (z_Z, Iz, J) 0 0 (some (.int r)) (z_Z, IR, J)) : ∀ (n : Nat) (y3 : Int32) (Iy : zk_I), l_X8_canBe_4 p1 p2 K n y3 Iy = some (r, IR) → zC X 2 m_X8_canBe 4 [some (.ref 76), some (.int p1), some (.int p2), some (.int y3), none, none, none] [] (z_Z, Iy, J) 0 0 (some (.int r)) (z_Z, IR, J) := by
  intro n
  induction n with
  | zero =>
    intro y3 Iy h
    cases h
  | succ n ih =>
    intro y3 Iy h
    rw [l_X8_canBe_4] at h
    refine c_iload_n rfl rfl ?_
    refine c_bipush rfl vb_8 ?_
    refine c_icmp_ge rfl (fun q1 => ?_) (fun q1 => ?_)
    · rw [if_pos q1] at h
      refine c_drop [true, true, true, false, true, true, true] (L2 := [some (.ref 76), some (.int p1), some (.int p2), none, none, none, none]) rfl ?_
      exact jK _ h
    · rw [if_neg q1] at h
      refine c_aload_n rfl rfl ?_
      refine c_getR rfl fk_X8_60 rfl (Nat.le_of_ble_eq_true rfl) rfl ?_
      refine c_iload_n rfl rfl ?_
      refine c_iconst rfl vi_m1 ?_
      obtain ⟨q2, h⟩ := zk_ck_e h
      refine e_iast rfl rfl (Nat.le_of_ble_eq_true rfl) q2 rfl ?_
      obtain ⟨I3, hI3, h⟩ := zk_lt_g h
      refine c_memI hI3 ?_
      refine e_iinc (L2 := [some (.ref 76), some (.int p1), some (.int p2), some (.int (y3 + (1 : Int32))), none, none, none]) rfl rfl vi_1 rfl rfl rfl ?_
      refine c_goto rfl ?_
      exact ih _ _ h
set_option maxRecDepth 20000 in
theorem kl_X8_canBe_25 {X : zk_X} {p1 : Int32} {J : zk_J} {K : zk_I → Option (Int32 × zk_I)} {r : Int32} {IR : zk_I} (jK : ∀ (Iz : zk_I), K Iz = some (r, IR) → zC X 2 m_X8_canBe 124 [some (.ref 76), none, none, none, none, none, none] [] (z_Z, Iz, J) 0 0 (some (.int r)) (z_Z, IR, J)) : ∀ (n : Nat) (y2 : Int32) (y3 : Int32) (Iy : zk_I), l_X8_canBe_25 p1 K n y2 y3 Iy = some (r, IR) → zC X 2 m_X8_canBe 25 [some (.ref 76), some (.int p1), some (.int y2), some (.int y3), none, none, none] [] (z_Z, Iy, J) 0 0 (some (.int r)) (z_Z, IR, J) := by
  intro n
  induction n with
  | zero =>
    intro y2 y3 Iy h
    cases h
  | succ n ih =>
    intro y2 y3 Iy h
    rw [l_X8_canBe_25] at h
    refine c_iload_n rfl rfl ?_
    refine c_aload_n rfl rfl ?_
    refine c_getI rfl fk_X8_133 rfl (Nat.le_of_ble_eq_true rfl) ?_
    refine c_icmp_ge rfl (fun q5 => ?_) (fun q5 => ?_)
    · rw [if_pos q5] at h
      refine c_drop [true, false, false, false, true, true, true] (L2 := [some (.ref 76), none, none, none, none, none, none]) rfl ?_
      exact jK _ h
    · rw [if_neg q5] at h
      refine c_iload_n rfl rfl ?_
      refine c_iload_n rfl rfl ?_
      refine c_ishr rfl ?_
      refine c_iconst rfl vi_1 ?_
      refine c_iand rfl ?_
      refine c_iconst rfl vi_1 ?_
      refine zk_jp2_e (Z := fun (v7 : Int32) (I8 : zk_I) => zC X 2 m_X8_canBe 118 [some (.ref 76), some (.int p1), some (.int v7), some (.int y3), none, none, none] [] (z_Z, I8, J) 0 0 (some (.int r)) (z_Z, IR, J)) h (fun v7 I8 h => ?_) (fun K9 jK9 h => ?_)
      · refine e_iinc (L2 := [some (.ref 76), some (.int p1), some (.int v7), some (.int (y3 + (1 : Int32))), none, none, none]) rfl rfl vi_1 rfl rfl rfl ?_
        refine c_goto rfl ?_
        exact ih _ _ _ h
      · refine c_icmp_ne rfl (fun q6 => ?_) (fun q6 => ?_)
        · rw [if_neg q6] at h
          exact jK9 _ _ h
        · rw [if_pos q6] at h
          refine c_aload_n rfl rfl ?_
          refine c_getR rfl fk_X8_32 rfl (Nat.le_of_ble_eq_true rfl) rfl ?_
          refine c_iload_n rfl rfl ?_
          obtain ⟨q10, h⟩ := zk_ck_e h
          refine e_iald rfl rfl (Nat.le_of_ble_eq_true rfl) q10 rfl ?_
          refine c_bipush rfl vb_8 ?_
          refine c_idiv rfl (by decide) ?_
          obtain ⟨x11, hx11, h⟩ := zk_lt_g h
          refine c_topi hx11 ?_
          refine e_istore (L2 := [some (.ref 76), some (.int p1), some (.int y2), some (.int y3), some (.int x11), none, none]) rfl rfl rfl rfl ?_
          refine c_aload_n rfl rfl ?_
          refine c_getR rfl fk_X8_32 rfl (Nat.le_of_ble_eq_true rfl) rfl ?_
          refine c_iload_n rfl rfl ?_
          obtain ⟨q12, h⟩ := zk_ck_e h
          refine e_iald rfl rfl (Nat.le_of_ble_eq_true rfl) q12 rfl ?_
          refine c_bipush rfl vb_8 ?_
          refine c_irem rfl (by decide) ?_
          obtain ⟨x13, hx13, h⟩ := zk_lt_g h
          refine c_topi hx13 ?_
          refine e_istore (L2 := [some (.ref 76), some (.int p1), some (.int y2), some (.int y3), some (.int x11), some (.int x13), none]) rfl rfl rfl rfl ?_
          refine c_aload_n rfl rfl ?_
          refine c_getR rfl fk_X8_60 rfl (Nat.le_of_ble_eq_true rfl) rfl ?_
          refine c_iload rfl rfl ?_
          obtain ⟨q14, h⟩ := zk_ck_e h
          refine e_iald rfl rfl (Nat.le_of_ble_eq_true rfl) q14 rfl ?_
          refine c_iconst rfl vi_m1 ?_
          refine c_icmp_ne rfl (fun q15 => ?_) (fun q15 => ?_)
          · rw [if_neg q15] at h
            refine c_iconst rfl vi_0 ?_
            obtain ⟨rfl, rfl⟩ := zk_r2 h
            exact c_ireturn rfl rfl zk_nb0
          · rw [if_pos q15] at h
            refine c_iload_n rfl rfl ?_
            refine c_iload rfl rfl ?_
            refine c_ishr rfl ?_
            refine c_iconst rfl vi_1 ?_
            refine c_iand rfl ?_
            refine c_iconst rfl vi_1 ?_
            refine c_icmp_eq rfl (fun q16 => ?_) (fun q16 => ?_)
            · rw [if_pos q16] at h
              refine c_iconst rfl vi_0 ?_
              obtain ⟨rfl, rfl⟩ := zk_r2 h
              exact c_ireturn rfl rfl zk_nb0
            · rw [if_neg q16] at h
              refine c_aload_n rfl rfl ?_
              refine c_iload rfl rfl ?_
              refine c_iconst rfl vi_0 ?_
              obtain ⟨r18, h17, h⟩ := zk_bd1_e h
              refine e_callV (As := [.int x11, .int (0 : Int32)]) (st := []) rfl lk_X8_136 rfl (Nat.le_of_ble_eq_true rfl) rfl rfl rfl (Nat.le_of_ble_eq_true rfl) rfl (k_X8_named h17) ?_
              refine c_iload rfl rfl ?_
              refine c_ishr rfl ?_
              refine c_iconst rfl vi_1 ?_
              refine c_iand rfl ?_
              refine c_if_ne rfl (fun q19 => ?_) (fun q19 => ?_)
              · rw [if_neg q19] at h
                refine c_aload_n rfl rfl ?_
                refine c_getR rfl fk_X8_60 rfl (Nat.le_of_ble_eq_true rfl) rfl ?_
                refine c_iload rfl rfl ?_
                refine c_iload rfl rfl ?_
                obtain ⟨q20, h⟩ := zk_ck_e h
                refine e_iast rfl rfl (Nat.le_of_ble_eq_true rfl) q20 rfl ?_
                obtain ⟨I21, hI21, h⟩ := zk_lt_g h
                refine c_memI hI21 ?_
                refine c_iload_n rfl rfl ?_
                refine c_iconst rfl vi_1 ?_
                refine c_iload rfl rfl ?_
                refine c_ishl rfl ?_
                refine c_ior rfl ?_
                obtain ⟨x22, hx22, h⟩ := zk_lt_g h
                refine c_topi hx22 ?_
                refine e_istore_n (L2 := [some (.ref 76), some (.int p1), some (.int x22), some (.int y3), some (.int x11), some (.int x13), none]) rfl rfl rfl rfl ?_
                refine c_drop [true, true, true, true, false, false, true] (L2 := [some (.ref 76), some (.int p1), some (.int x22), some (.int y3), none, none, none]) rfl ?_
                exact jK9 _ _ h
              · rw [if_pos q19] at h
                refine c_iconst rfl vi_0 ?_
                obtain ⟨rfl, rfl⟩ := zk_r2 h
                exact c_ireturn rfl rfl zk_nb0
set_option maxRecDepth 20000 in
theorem kl_X8_canBe_143 {X : zk_X} {I : zk_I} {p3 : Int32} {p4 : Int32} {J : zk_J} {K : Int32 → Option (Int32 × zk_I)} {r : Int32} {IR : zk_I} (jK : ∀ (z5 : Int32), K z5 = some (r, IR) → zC X 2 m_X8_canBe 171 [some (.ref 76), none, none, some (.int p3), some (.int p4), some (.int z5), none] [] (z_Z, I, J) 0 0 (some (.int r)) (z_Z, IR, J)) : ∀ (n : Nat) (y5 : Int32) (y6 : Int32), l_X8_canBe_143 I p3 p4 K n y5 y6 = some (r, IR) → zC X 2 m_X8_canBe 143 [some (.ref 76), none, none, some (.int p3), some (.int p4), some (.int y5), some (.int y6)] [] (z_Z, I, J) 0 0 (some (.int r)) (z_Z, IR, J) := by
  intro n
  induction n with
  | zero =>
    intro y5 y6 h
    cases h
  | succ n ih =>
    intro y5 y6 h
    rw [l_X8_canBe_143] at h
    refine c_iload rfl rfl ?_
    refine c_bipush rfl vb_8 ?_
    refine c_icmp_ge rfl (fun q25 => ?_) (fun q25 => ?_)
    · rw [if_pos q25] at h
      refine c_drop [true, true, true, true, true, true, false] (L2 := [some (.ref 76), none, none, some (.int p3), some (.int p4), some (.int y5), none]) rfl ?_
      exact jK _ h
    · rw [if_neg q25] at h
      refine c_iload rfl rfl ?_
      refine c_iconst rfl vi_m1 ?_
      refine c_icmp_eq rfl (fun q26 => ?_) (fun q26 => ?_)
      · rw [if_pos q26] at h
        refine c_drop [true, true, true, true, true, true, false] (L2 := [some (.ref 76), none, none, some (.int p3), some (.int p4), some (.int y5), none]) rfl ?_
        exact jK _ h
      · rw [if_neg q26] at h
        refine c_aload_n rfl rfl ?_
        refine c_getR rfl fk_X8_60 rfl (Nat.le_of_ble_eq_true rfl) rfl ?_
        refine c_iload rfl rfl ?_
        obtain ⟨q27, h⟩ := zk_ck_e h
        refine e_iald rfl rfl (Nat.le_of_ble_eq_true rfl) q27 rfl ?_
        obtain ⟨x28, hx28, h⟩ := zk_lt_g h
        refine c_topi hx28 ?_
        refine e_istore (L2 := [some (.ref 76), none, none, some (.int p3), some (.int p4), some (.int x28), some (.int y6)]) rfl rfl rfl rfl ?_
        refine e_iinc (L2 := [some (.ref 76), none, none, some (.int p3), some (.int p4), some (.int x28), some (.int (y6 + (1 : Int32)))]) rfl rfl vi_1 rfl rfl rfl ?_
        refine c_goto rfl ?_
        exact ih _ _ h
set_option maxRecDepth 20000 in
theorem kl_X8_canBe_129 {X : zk_X} {I : zk_I} {J : zk_J} {K : Int32 → Option (Int32 × zk_I)} {r : Int32} {IR : zk_I} (jK : ∀ (z3 : Int32), K z3 = some (r, IR) → zC X 2 m_X8_canBe 193 [none, none, none, some (.int z3), none, none, none] [] (z_Z, I, J) 0 0 (some (.int r)) (z_Z, IR, J)) : ∀ (n : Nat) (y3 : Int32) (y4 : Int32), l_X8_canBe_129 I K n y3 y4 = some (r, IR) → zC X 2 m_X8_canBe 129 [some (.ref 76), none, none, some (.int y3), some (.int y4), none, none] [] (z_Z, I, J) 0 0 (some (.int r)) (z_Z, IR, J) := by
  intro n
  induction n with
  | zero =>
    intro y3 y4 h
    cases h
  | succ n ih =>
    intro y3 y4 h
    rw [l_X8_canBe_129] at h
    refine c_iload rfl rfl ?_
    refine c_bipush rfl vb_8 ?_
    refine c_icmp_ge rfl (fun q24 => ?_) (fun q24 => ?_)
    · rw [if_pos q24] at h
      refine c_drop [false, true, true, true, false, true, true] (L2 := [none, none, none, some (.int y3), none, none, none]) rfl ?_
      exact jK _ h
    · rw [if_neg q24] at h
      refine c_iload rfl rfl ?_
      refine e_istore (L2 := [some (.ref 76), none, none, some (.int y3), some (.int y4), some (.int y4), none]) rfl rfl rfl rfl ?_
      refine c_iconst rfl vi_0 ?_
      refine e_istore (L2 := [some (.ref 76), none, none, some (.int y3), some (.int y4), some (.int y4), some (.int (0 : Int32))]) rfl rfl rfl rfl ?_
      refine kl_X8_canBe_143 (fun z29 h => ?_) _ _ _ h
      refine c_iload_n rfl rfl ?_
      refine zk_jp1_e (Z := fun (v31 : Int32) => zC X 2 m_X8_canBe 186 [some (.ref 76), none, none, none, some (.int y4), none, none] [.int v31] (z_Z, I, J) 0 0 (some (.int r)) (z_Z, IR, J)) h (fun v31 h => ?_) (fun K32 jK32 h => ?_)
      · refine e_istore_n (L2 := [some (.ref 76), none, none, some (.int v31), some (.int y4), none, none]) rfl rfl rfl rfl ?_
        refine e_iinc (L2 := [some (.ref 76), none, none, some (.int v31), some (.int (y4 + (1 : Int32))), none, none]) rfl rfl vi_1 rfl rfl rfl ?_
        refine c_goto rfl ?_
        exact ih _ _ h
      · refine zk_jp0_e (Z := zC X 2 m_X8_canBe 185 [some (.ref 76), none, none, none, some (.int y4), none, none] [] (z_Z, I, J) 0 0 (some (.int r)) (z_Z, IR, J)) h (fun h => ?_) (fun K33 jK33 h => ?_)
        · refine c_iconst rfl vi_0 ?_
          exact jK32 _ h
        · refine c_if_eq rfl (fun q30 => ?_) (fun q30 => ?_)
          · rw [if_pos q30] at h
            refine c_drop [true, true, true, false, true, false, true] (L2 := [some (.ref 76), none, none, none, some (.int y4), none, none]) rfl ?_
            exact jK33 h
          · rw [if_neg q30] at h
            refine c_iload rfl rfl ?_
            refine c_iconst rfl vi_m1 ?_
            refine c_icmp_ne rfl (fun q34 => ?_) (fun q34 => ?_)
            · rw [if_neg q34] at h
              refine c_drop [true, true, true, false, true, false, true] (L2 := [some (.ref 76), none, none, none, some (.int y4), none, none]) rfl ?_
              exact jK33 h
            · rw [if_pos q34] at h
              refine c_iconst rfl vi_1 ?_
              refine c_goto rfl ?_
              refine c_drop [true, true, true, false, true, false, true] (L2 := [some (.ref 76), none, none, none, some (.int y4), none, none]) rfl ?_
              exact jK32 _ h
set_option maxRecDepth 20000 in
theorem k_X8_canBe {X : zk_X} {I : zk_I} {J : zk_J} {a1 : Int32} {r : Int32} {IR : zk_I} (h : f_X8_canBe I a1 = some (r, IR)) : zC X 2 m_X8_canBe 0 (zk_ent [.ref 76, .int a1] 7) [] (z_Z, I, J) 0 0 (some (.int r)) (z_Z, IR, J) := by
  unfold f_X8_canBe at h
  refine c_ent (L2 := [some (.ref 76), some (.int a1), none, none, none, none, none]) rfl ?_
  refine c_iconst rfl vi_0 ?_
  refine e_istore_n (L2 := [some (.ref 76), some (.int a1), some (.int (0 : Int32)), none, none, none, none]) rfl rfl rfl rfl ?_
  refine c_iconst rfl vi_0 ?_
  refine e_istore_n (L2 := [some (.ref 76), some (.int a1), some (.int (0 : Int32)), some (.int (0 : Int32)), none, none, none]) rfl rfl rfl rfl ?_
  refine kl_X8_canBe_4 (fun I4 h => ?_) _ _ _ h
  refine c_iconst rfl vi_0 ?_
  refine e_istore_n (L2 := [some (.ref 76), some (.int a1), some (.int (0 : Int32)), some (.int (0 : Int32)), none, none, none]) rfl rfl rfl rfl ?_
  refine kl_X8_canBe_25 (fun I23 h => ?_) _ _ _ _ h
  refine c_iconst rfl vi_1 ?_
  refine e_istore_n (L2 := [some (.ref 76), none, none, some (.int (1 : Int32)), none, none, none]) rfl rfl rfl rfl ?_
  refine c_iconst rfl vi_0 ?_
  refine e_istore (L2 := [some (.ref 76), none, none, some (.int (1 : Int32)), some (.int (0 : Int32)), none, none]) rfl rfl rfl rfl ?_
  refine kl_X8_canBe_129 (fun z35 h => ?_) _ _ _ h
  obtain ⟨q36, h⟩ := zk_ck_e h
  refine c_iload_n rfl rfl ?_
  obtain ⟨rfl, rfl⟩ := zk_r2 h
  exact c_ireturn rfl rfl (zk_01_n q36)

def l_X8_forgedOnes_13 (p1 : Int32) (K : Int32 → zk_I → Option (Int32 × zk_I)) : Nat → Int32 → Int32 → zk_I → Option (Int32 × zk_I)
  | 0, _, _, _ => none
  | n + 1, y2, y3, Iy => (if y3 < 0 then (
    K y2 Iy) else (
    zk_bd2 (f_X8_canBe Iy (p1 &&& (y3 ^^^ (-1 : Int32)))) (fun (r4 : Int32) (I5 : zk_I) =>
     zk_jp1 (fun (v7 : Int32) =>
      zk_lt ((if v7 = 0 then y2 else y3)) (fun (v10 : Int32) =>
       l_X8_forgedOnes_13 p1 K n v10 (y3 + (-1 : Int32)) I5)) (fun (K8 : Int32 → Option (Int32 × zk_I)) =>
      zk_jp0 (K8 (0 : Int32)) (fun (K12 : Option (Int32 × zk_I)) =>
       (if r4 = 0 then (
        K12) else (
        zk_bd1 (f_X8_ones y3) (fun (r14 : Int32) =>
         zk_bd1 (f_X8_ones y2) (fun (r16 : Int32) =>
          (if r16 < r14 then (
           K12) else (
           K8 (1 : Int32))))))))))))
def f_X8_forgedOnes (I : zk_I) : Option (Int32 × zk_I) := zk_lt (((1 : Int32) <<< ((I 76 10) &&& 31)) - (1 : Int32)) (fun (x1 : Int32) =>
  l_X8_forgedOnes_13 x1 (fun (z18 : Int32) (I19 : zk_I) =>
   some (z18, I19)) 3000 x1 x1 I)
set_option maxRecDepth 20000 in
theorem kl_X8_forgedOnes_13 {X : zk_X} {p1 : Int32} {J : zk_J} {K : Int32 → zk_I → Option (Int32 × zk_I)} {r : Int32} {IR : zk_I} (jK : ∀ (z2 : Int32) (Iz : zk_I), K z2 Iz = some (r, IR) → zC X 3 m_X8_forgedOnes 64 [none, none, some (.int z2), none, none] [] (z_Z, Iz, J) 0 0 (some (.int r)) (z_Z, IR, J)) : ∀ (n : Nat) (y2 : Int32) (y3 : Int32) (Iy : zk_I), l_X8_forgedOnes_13 p1 K n y2 y3 Iy = some (r, IR) → zC X 3 m_X8_forgedOnes 13 [some (.ref 76), some (.int p1), some (.int y2), some (.int y3), none] [] (z_Z, Iy, J) 0 0 (some (.int r)) (z_Z, IR, J) := by
  intro n
  induction n with
  | zero =>
    intro y2 y3 Iy h
    cases h
  | succ n ih =>
    intro y2 y3 Iy h
    rw [l_X8_forgedOnes_13] at h
    refine c_iload_n rfl rfl ?_
    refine c_if_lt rfl (fun q2 => ?_) (fun q2 => ?_)
    · rw [if_pos q2] at h
      refine c_drop [false, false, true, false, true] (L2 := [none, none, some (.int y2), none, none]) rfl ?_
      exact jK _ _ h
    · rw [if_neg q2] at h
      refine c_aload_n rfl rfl ?_
      refine c_iload_n rfl rfl ?_
      refine c_iload_n rfl rfl ?_
      refine c_iconst rfl vi_m1 ?_
      refine c_ixor rfl ?_
      refine c_iand rfl ?_
      obtain ⟨r4, I5, h3, h⟩ := zk_bd2_e h
      refine e_callV (As := [.int (p1 &&& (y3 ^^^ (-1 : Int32)))]) (st := []) rfl lk_X8_186 rfl (Nat.le_of_ble_eq_true rfl) rfl rfl rfl (Nat.le_of_ble_eq_true rfl) rfl (k_X8_canBe h3) ?_
      refine zk_jp1_e (Z := fun (v7 : Int32) => zC X 3 m_X8_forgedOnes 45 [some (.ref 76), some (.int p1), some (.int y2), some (.int y3), none] [.int v7] (z_Z, I5, J) 0 0 (some (.int r)) (z_Z, IR, J)) h (fun v7 h => ?_) (fun K8 jK8 h => ?_)
      · refine e_istore (L2 := [some (.ref 76), some (.int p1), some (.int y2), some (.int y3), some (.int v7)]) rfl rfl rfl rfl ?_
        refine c_iload rfl rfl ?_
        refine zk_lt1K (Z := fun (v10 : Int32) => zC X 3 m_X8_forgedOnes 57 [some (.ref 76), some (.int p1), none, some (.int y3), none] [.int v10] (z_Z, I5, J) 0 0 (some (.int r)) (z_Z, IR, J)) h (fun v10 h => ?_) (fun hz => ?_)
        · refine e_istore_n (L2 := [some (.ref 76), some (.int p1), some (.int v10), some (.int y3), none]) rfl rfl rfl rfl ?_
          refine e_iinc (L2 := [some (.ref 76), some (.int p1), some (.int v10), some (.int (y3 + (-1 : Int32))), none]) rfl rfl vi_m1 rfl rfl rfl ?_
          refine c_goto rfl ?_
          exact ih _ _ _ h
        · refine c_if_eq rfl (fun q9 => ?_) (fun q9 => ?_)
          · refine c_iload_n rfl rfl ?_
            refine c_drop [true, true, false, true, false] (L2 := [some (.ref 76), some (.int p1), none, some (.int y3), none]) rfl ?_
            rw [if_pos q9] at hz
            exact hz
          · refine c_iload_n rfl rfl ?_
            refine c_goto rfl ?_
            refine c_drop [true, true, false, true, false] (L2 := [some (.ref 76), some (.int p1), none, some (.int y3), none]) rfl ?_
            rw [if_neg q9] at hz
            exact hz
      · refine zk_jp0_e (Z := zC X 3 m_X8_forgedOnes 44 [some (.ref 76), some (.int p1), some (.int y2), some (.int y3), none] [] (z_Z, I5, J) 0 0 (some (.int r)) (z_Z, IR, J)) h (fun h => ?_) (fun K12 jK12 h => ?_)
        · refine c_iconst rfl vi_0 ?_
          exact jK8 _ h
        · refine c_if_eq rfl (fun q6 => ?_) (fun q6 => ?_)
          · rw [if_pos q6] at h
            exact jK12 h
          · rw [if_neg q6] at h
            refine c_iload_n rfl rfl ?_
            obtain ⟨r14, h13, h⟩ := zk_bd1_e h
            refine e_callS (As := [.int y3]) (st := []) rfl lk_X8_152 rfl rfl rfl (Nat.le_of_ble_eq_true rfl) rfl (k_X8_ones h13) ?_
            refine c_iload_n rfl rfl ?_
            obtain ⟨r16, h15, h⟩ := zk_bd1_e h
            refine e_callS (As := [.int y2]) (st := [.int r14]) rfl lk_X8_152 rfl rfl rfl (Nat.le_of_ble_eq_true rfl) rfl (k_X8_ones h15) ?_
            refine c_icmp_gt rfl (fun q17 => ?_) (fun q17 => ?_)
            · rw [if_pos q17] at h
              exact jK12 h
            · rw [if_neg q17] at h
              refine c_iconst rfl vi_1 ?_
              refine c_goto rfl ?_
              exact jK8 _ h
set_option maxRecDepth 20000 in
theorem k_X8_forgedOnes {X : zk_X} {I : zk_I} {J : zk_J} {r : Int32} {IR : zk_I} (h : f_X8_forgedOnes I = some (r, IR)) : zC X 3 m_X8_forgedOnes 0 (zk_ent [.ref 76] 5) [] (z_Z, I, J) 0 0 (some (.int r)) (z_Z, IR, J) := by
  unfold f_X8_forgedOnes at h
  refine c_ent (L2 := [some (.ref 76), none, none, none, none]) rfl ?_
  refine c_iconst rfl vi_1 ?_
  refine c_aload_n rfl rfl ?_
  refine c_getI rfl fk_X8_133 rfl (Nat.le_of_ble_eq_true rfl) ?_
  refine c_ishl rfl ?_
  refine c_iconst rfl vi_1 ?_
  refine c_isub rfl ?_
  obtain ⟨x1, hx1, h⟩ := zk_lt_g h
  refine c_topi hx1 ?_
  refine e_istore_n (L2 := [some (.ref 76), some (.int x1), none, none, none]) rfl rfl rfl rfl ?_
  refine c_iload_n rfl rfl ?_
  refine e_istore_n (L2 := [some (.ref 76), some (.int x1), some (.int x1), none, none]) rfl rfl rfl rfl ?_
  refine c_iload_n rfl rfl ?_
  refine e_istore_n (L2 := [some (.ref 76), some (.int x1), some (.int x1), some (.int x1), none]) rfl rfl rfl rfl ?_
  refine kl_X8_forgedOnes_13 (fun z18 I19 h => ?_) _ _ _ _ h
  refine c_iload_n rfl rfl ?_
  obtain ⟨rfl, rfl⟩ := zk_r2 h
  exact c_ireturn rfl rfl rfl
def f_X8_forged (I : zk_I) (a1 : Int32) : Option (Int32 × zk_I) := zk_lt (f_X8_in a1 (0 : Int32) (1 : Int32)) (fun (r2 : Int32) =>
  (if r2 = 0 then (
   some ((-3 : Int32), I)) else (
   zk_bd2 (f_X8_forgedOnes I) (fun (r5 : Int32) (I6 : zk_I) =>
    (if a1 = 0 then (
     zk_bd1 (f_X8_ones r5) (fun (r9 : Int32) =>
      some (r9, I6))) else (
     some (r5, I6)))))))
set_option maxRecDepth 20000 in
theorem k_X8_forged {X : zk_X} {I : zk_I} {J : zk_J} {a1 : Int32} {r : Int32} {IR : zk_I} (h : f_X8_forged I a1 = some (r, IR)) : zC X 4 m_X8_forged 0 (zk_ent [.ref 76, .int a1] 3) [] (z_Z, I, J) 0 0 (some (.int r)) (z_Z, IR, J) := by
  unfold f_X8_forged at h
  refine c_ent (L2 := [some (.ref 76), some (.int a1), none]) rfl ?_
  refine c_iload_n rfl rfl ?_
  refine c_iconst rfl vi_0 ?_
  refine c_iconst rfl vi_1 ?_
  obtain ⟨r2, h1, h⟩ := zk_lt_g h
  refine e_callS (As := [.int a1, .int (0 : Int32), .int (1 : Int32)]) (st := []) rfl lk_X8_63 rfl rfl rfl (Nat.le_of_ble_eq_true rfl) rfl (k_X8_in h1.symm) ?_
  refine c_if_ne rfl (fun q3 => ?_) (fun q3 => ?_)
  · rw [if_neg q3] at h
    refine c_aload_n rfl rfl ?_
    obtain ⟨r5, I6, h4, h⟩ := zk_bd2_e h
    refine e_callV (As := []) (st := []) rfl lk_X8_189 rfl (Nat.le_of_ble_eq_true rfl) rfl rfl rfl (Nat.le_of_ble_eq_true rfl) rfl (k_X8_forgedOnes h4) ?_
    refine e_istore_n (L2 := [some (.ref 76), some (.int a1), some (.int r5)]) rfl rfl rfl rfl ?_
    refine c_iload_n rfl rfl ?_
    refine c_if_ne rfl (fun q7 => ?_) (fun q7 => ?_)
    · rw [if_neg q7] at h
      refine c_iload_n rfl rfl ?_
      obtain ⟨rfl, rfl⟩ := zk_r2 h
      exact c_ireturn rfl rfl rfl
    · rw [if_pos q7] at h
      refine c_iload_n rfl rfl ?_
      obtain ⟨r9, h8, h⟩ := zk_bd1_e h
      refine e_callS (As := [.int r5]) (st := []) rfl lk_X8_152 rfl rfl rfl (Nat.le_of_ble_eq_true rfl) rfl (k_X8_ones h8) ?_
      refine c_goto rfl ?_
      obtain ⟨rfl, rfl⟩ := zk_r2 h
      exact c_ireturn rfl rfl rfl
  · rw [if_pos q3] at h
    refine c_bipush rfl vb_m3 ?_
    obtain ⟨rfl, rfl⟩ := zk_r2 h
    exact c_ireturn rfl rfl rfl
def l_X8_holder_12 (I : zk_I) (p1 : Int32) (K : Int32 → Int32 → Option (Int32 × zk_I)) : Nat → Int32 → Int32 → Int32 → Option (Int32 × zk_I)
  | 0, _, _, _ => none
  | n + 1, y2, y3, y4 => (if (I 76 10) ≤ y4 then (
    K y2 y3) else (
    zk_lt ((if ((p1 >>> (y4 &&& 31)) &&& (1 : Int32)) = 0 then (1 : Int32) else (0 : Int32))) (fun (v6 : Int32) =>
     zk_jp1 (fun (v9 : Int32) =>
      zk_jp1 (fun (v12 : Int32) =>
       l_X8_holder_12 I p1 K n (y2 ||| v9) (y3 ||| v12) (y4 + (1 : Int32))) (fun (K13 : Int32 → Option (Int32 × zk_I)) =>
       (if v6 = 0 then (
        K13 (0 : Int32)) else (
        zk_ck (zk_in y4 8) (
         K13 ((1 : Int32) <<< (((I 84 y4.toNatClampNeg) / (8 : Int32)) &&& 31))))))) (fun (K10 : Int32 → Option (Int32 × zk_I)) =>
      (if v6 = 0 then (
       K10 (0 : Int32)) else (
       zk_ck (zk_in y4 8) (
        K10 ((1 : Int32) <<< (((I 84 y4.toNatClampNeg) - (I 84 y4.toNatClampNeg) / (8 : Int32) * (8 : Int32)) &&& 31)))))))))
def l_X8_holder_98 (I : zk_I) (p2 : Int32) (p3 : Int32) (K : Int32 → Option (Int32 × zk_I)) : Nat → Int32 → Int32 → Option (Int32 × zk_I)
  | 0, _, _ => none
  | n + 1, y4, y5 => (if y5 < 0 then (
    K y4) else (
    zk_lt ((if (((p2 &&& (p3 ^^^ (-1 : Int32))) >>> (y5 &&& 31)) &&& (1 : Int32)) = (1 : Int32) then y5 else y4)) (fun (v20 : Int32) =>
     l_X8_holder_98 I p2 p3 K n v20 (y5 + (-1 : Int32)))))
def f_X8_holder (I : zk_I) : Option (Int32 × zk_I) := zk_bd2 (f_X8_forgedOnes I) (fun (r2 : Int32) (I3 : zk_I) =>
  l_X8_holder_12 I3 r2 (fun (z16 : Int32) (z17 : Int32) =>
   l_X8_holder_98 I3 z16 z17 (fun (z22 : Int32) =>
    some (z22, I3)) 3000 (-1 : Int32) (7 : Int32)) 3000 (0 : Int32) (0 : Int32) (0 : Int32))
set_option maxRecDepth 20000 in
theorem kl_X8_holder_12 {X : zk_X} {I : zk_I} {p1 : Int32} {J : zk_J} {K : Int32 → Int32 → Option (Int32 × zk_I)} {r : Int32} {IR : zk_I} (jK : ∀ (z2 : Int32) (z3 : Int32), K z2 z3 = some (r, IR) → zC X 4 m_X8_holder 91 [none, none, some (.int z2), some (.int z3), none, none] [] (z_Z, I, J) 0 0 (some (.int r)) (z_Z, IR, J)) : ∀ (n : Nat) (y2 : Int32) (y3 : Int32) (y4 : Int32), l_X8_holder_12 I p1 K n y2 y3 y4 = some (r, IR) → zC X 4 m_X8_holder 12 [some (.ref 76), some (.int p1), some (.int y2), some (.int y3), some (.int y4), none] [] (z_Z, I, J) 0 0 (some (.int r)) (z_Z, IR, J) := by
  intro n
  induction n with
  | zero =>
    intro y2 y3 y4 h
    cases h
  | succ n ih =>
    intro y2 y3 y4 h
    rw [l_X8_holder_12] at h
    refine c_iload rfl rfl ?_
    refine c_aload_n rfl rfl ?_
    refine c_getI rfl fk_X8_133 rfl (Nat.le_of_ble_eq_true rfl) ?_
    refine c_icmp_ge rfl (fun q4 => ?_) (fun q4 => ?_)
    · rw [if_pos q4] at h
      refine c_drop [false, false, true, true, false, true] (L2 := [none, none, some (.int y2), some (.int y3), none, none]) rfl ?_
      exact jK _ _ h
    · rw [if_neg q4] at h
      refine c_iload_n rfl rfl ?_
      refine c_iload rfl rfl ?_
      refine c_ishr rfl ?_
      refine c_iconst rfl vi_1 ?_
      refine c_iand rfl ?_
      refine zk_lt1K (Z := fun (v6 : Int32) => zC X 4 m_X8_holder 35 [some (.ref 76), some (.int p1), some (.int y2), some (.int y3), some (.int y4), none] [.int v6] (z_Z, I, J) 0 0 (some (.int r)) (z_Z, IR, J)) h (fun v6 h => ?_) (fun hz => ?_)
      · refine e_istore (L2 := [some (.ref 76), some (.int p1), some (.int y2), some (.int y3), some (.int y4), some (.int v6)]) rfl rfl rfl rfl ?_
        refine c_iload_n rfl rfl ?_
        refine c_iload rfl rfl ?_
        refine zk_jp1_e (Z := fun (v9 : Int32) => zC X 4 m_X8_holder 59 [some (.ref 76), some (.int p1), none, some (.int y3), some (.int y4), some (.int v6)] [.int v9, .int y2] (z_Z, I, J) 0 0 (some (.int r)) (z_Z, IR, J)) h (fun v9 h => ?_) (fun K10 jK10 h => ?_)
        · refine c_ior rfl ?_
          refine e_istore_n (L2 := [some (.ref 76), some (.int p1), some (.int (y2 ||| v9)), some (.int y3), some (.int y4), some (.int v6)]) rfl rfl rfl rfl ?_
          refine c_iload_n rfl rfl ?_
          refine c_iload rfl rfl ?_
          refine zk_jp1_e (Z := fun (v12 : Int32) => zC X 4 m_X8_holder 83 [some (.ref 76), some (.int p1), some (.int (y2 ||| v9)), none, some (.int y4), none] [.int v12, .int y3] (z_Z, I, J) 0 0 (some (.int r)) (z_Z, IR, J)) h (fun v12 h => ?_) (fun K13 jK13 h => ?_)
          · refine c_ior rfl ?_
            refine e_istore_n (L2 := [some (.ref 76), some (.int p1), some (.int (y2 ||| v9)), some (.int (y3 ||| v12)), some (.int y4), none]) rfl rfl rfl rfl ?_
            refine e_iinc (L2 := [some (.ref 76), some (.int p1), some (.int (y2 ||| v9)), some (.int (y3 ||| v12)), some (.int (y4 + (1 : Int32))), none]) rfl rfl vi_1 rfl rfl rfl ?_
            refine c_goto rfl ?_
            exact ih _ _ _ h
          · refine c_if_eq rfl (fun q11 => ?_) (fun q11 => ?_)
            · rw [if_pos q11] at h
              refine c_iconst rfl vi_0 ?_
              refine c_drop [true, true, true, false, true, false] (L2 := [some (.ref 76), some (.int p1), some (.int (y2 ||| v9)), none, some (.int y4), none]) rfl ?_
              exact jK13 _ h
            · rw [if_neg q11] at h
              refine c_iconst rfl vi_1 ?_
              refine c_aload_n rfl rfl ?_
              refine c_getR rfl fk_X8_32 rfl (Nat.le_of_ble_eq_true rfl) rfl ?_
              refine c_iload rfl rfl ?_
              obtain ⟨q14, h⟩ := zk_ck_e h
              refine e_iald rfl rfl (Nat.le_of_ble_eq_true rfl) q14 rfl ?_
              refine c_bipush rfl vb_8 ?_
              refine c_idiv rfl (by decide) ?_
              refine c_ishl rfl ?_
              refine c_goto rfl ?_
              refine c_drop [true, true, true, false, true, false] (L2 := [some (.ref 76), some (.int p1), some (.int (y2 ||| v9)), none, some (.int y4), none]) rfl ?_
              exact jK13 _ h
        · refine c_if_eq rfl (fun q8 => ?_) (fun q8 => ?_)
          · rw [if_pos q8] at h
            refine c_iconst rfl vi_0 ?_
            refine c_drop [true, true, false, true, true, true] (L2 := [some (.ref 76), some (.int p1), none, some (.int y3), some (.int y4), some (.int v6)]) rfl ?_
            exact jK10 _ h
          · rw [if_neg q8] at h
            refine c_iconst rfl vi_1 ?_
            refine c_aload_n rfl rfl ?_
            refine c_getR rfl fk_X8_32 rfl (Nat.le_of_ble_eq_true rfl) rfl ?_
            refine c_iload rfl rfl ?_
            obtain ⟨q15, h⟩ := zk_ck_e h
            refine e_iald rfl rfl (Nat.le_of_ble_eq_true rfl) q15 rfl ?_
            refine c_bipush rfl vb_8 ?_
            refine c_irem rfl (by decide) ?_
            refine c_ishl rfl ?_
            refine c_goto rfl ?_
            refine c_drop [true, true, false, true, true, true] (L2 := [some (.ref 76), some (.int p1), none, some (.int y3), some (.int y4), some (.int v6)]) rfl ?_
            exact jK10 _ h
      · refine c_if_ne rfl (fun q5 => ?_) (fun q5 => ?_)
        · refine c_iconst rfl vi_0 ?_
          rw [if_neg q5] at hz
          exact hz
        · refine c_iconst rfl vi_1 ?_
          refine c_goto rfl ?_
          rw [if_pos q5] at hz
          exact hz
set_option maxRecDepth 20000 in
theorem kl_X8_holder_98 {X : zk_X} {I : zk_I} {p2 : Int32} {p3 : Int32} {J : zk_J} {K : Int32 → Option (Int32 × zk_I)} {r : Int32} {IR : zk_I} (jK : ∀ (z4 : Int32), K z4 = some (r, IR) → zC X 4 m_X8_holder 132 [none, none, none, none, some (.int z4), none] [] (z_Z, I, J) 0 0 (some (.int r)) (z_Z, IR, J)) : ∀ (n : Nat) (y4 : Int32) (y5 : Int32), l_X8_holder_98 I p2 p3 K n y4 y5 = some (r, IR) → zC X 4 m_X8_holder 98 [none, none, some (.int p2), some (.int p3), some (.int y4), some (.int y5)] [] (z_Z, I, J) 0 0 (some (.int r)) (z_Z, IR, J) := by
  intro n
  induction n with
  | zero =>
    intro y4 y5 h
    cases h
  | succ n ih =>
    intro y4 y5 h
    rw [l_X8_holder_98] at h
    refine c_iload rfl rfl ?_
    refine c_if_lt rfl (fun q18 => ?_) (fun q18 => ?_)
    · rw [if_pos q18] at h
      refine c_drop [true, true, false, false, true, false] (L2 := [none, none, none, none, some (.int y4), none]) rfl ?_
      exact jK _ h
    · rw [if_neg q18] at h
      refine c_iload_n rfl rfl ?_
      refine c_iload_n rfl rfl ?_
      refine c_iconst rfl vi_m1 ?_
      refine c_ixor rfl ?_
      refine c_iand rfl ?_
      refine c_iload rfl rfl ?_
      refine c_ishr rfl ?_
      refine c_iconst rfl vi_1 ?_
      refine c_iand rfl ?_
      refine c_iconst rfl vi_1 ?_
      refine zk_lt1K (Z := fun (v20 : Int32) => zC X 4 m_X8_holder 124 [none, none, some (.int p2), some (.int p3), none, some (.int y5)] [.int v20] (z_Z, I, J) 0 0 (some (.int r)) (z_Z, IR, J)) h (fun v20 h => ?_) (fun hz => ?_)
      · refine e_istore (L2 := [none, none, some (.int p2), some (.int p3), some (.int v20), some (.int y5)]) rfl rfl rfl rfl ?_
        refine e_iinc (L2 := [none, none, some (.int p2), some (.int p3), some (.int v20), some (.int (y5 + (-1 : Int32)))]) rfl rfl vi_m1 rfl rfl rfl ?_
        refine c_goto rfl ?_
        exact ih _ _ h
      · refine c_icmp_ne rfl (fun q19 => ?_) (fun q19 => ?_)
        · refine c_iload rfl rfl ?_
          refine c_drop [true, true, true, true, false, true] (L2 := [none, none, some (.int p2), some (.int p3), none, some (.int y5)]) rfl ?_
          rw [if_neg q19] at hz
          exact hz
        · refine c_iload rfl rfl ?_
          refine c_goto rfl ?_
          refine c_drop [true, true, true, true, false, true] (L2 := [none, none, some (.int p2), some (.int p3), none, some (.int y5)]) rfl ?_
          rw [if_pos q19] at hz
          exact hz
set_option maxRecDepth 20000 in
theorem k_X8_holder {X : zk_X} {I : zk_I} {J : zk_J} {r : Int32} {IR : zk_I} (h : f_X8_holder I = some (r, IR)) : zC X 4 m_X8_holder 0 (zk_ent [.ref 76] 6) [] (z_Z, I, J) 0 0 (some (.int r)) (z_Z, IR, J) := by
  unfold f_X8_holder at h
  refine c_ent (L2 := [some (.ref 76), none, none, none, none, none]) rfl ?_
  refine c_aload_n rfl rfl ?_
  obtain ⟨r2, I3, h1, h⟩ := zk_bd2_e h
  refine e_callV (As := []) (st := []) rfl lk_X8_189 rfl (Nat.le_of_ble_eq_true rfl) rfl rfl rfl (Nat.le_of_ble_eq_true rfl) rfl (k_X8_forgedOnes h1) ?_
  refine e_istore_n (L2 := [some (.ref 76), some (.int r2), none, none, none, none]) rfl rfl rfl rfl ?_
  refine c_iconst rfl vi_0 ?_
  refine e_istore_n (L2 := [some (.ref 76), some (.int r2), some (.int (0 : Int32)), none, none, none]) rfl rfl rfl rfl ?_
  refine c_iconst rfl vi_0 ?_
  refine e_istore_n (L2 := [some (.ref 76), some (.int r2), some (.int (0 : Int32)), some (.int (0 : Int32)), none, none]) rfl rfl rfl rfl ?_
  refine c_iconst rfl vi_0 ?_
  refine e_istore (L2 := [some (.ref 76), some (.int r2), some (.int (0 : Int32)), some (.int (0 : Int32)), some (.int (0 : Int32)), none]) rfl rfl rfl rfl ?_
  refine kl_X8_holder_12 (fun z16 z17 h => ?_) _ _ _ _ h
  refine c_iconst rfl vi_m1 ?_
  refine e_istore (L2 := [none, none, some (.int z16), some (.int z17), some (.int (-1 : Int32)), none]) rfl rfl rfl rfl ?_
  refine c_bipush rfl vb_7 ?_
  refine e_istore (L2 := [none, none, some (.int z16), some (.int z17), some (.int (-1 : Int32)), some (.int (7 : Int32))]) rfl rfl rfl rfl ?_
  refine kl_X8_holder_98 (fun z22 h => ?_) _ _ _ h
  refine c_iload rfl rfl ?_
  obtain ⟨rfl, rfl⟩ := zk_r2 h
  exact c_ireturn rfl rfl rfl
def l_X8_count_17 (I : zk_I) (p1 : Int32) (K : Int32 → Option (Int32)) : Nat → Int32 → Int32 → Option (Int32)
  | 0, _, _ => none
  | n + 1, y2, y3 => (if (I 78 0) ≤ y3 then (
    K y2) else (
    zk_ck (zk_in ((18 : Int32) + y3) 38) (
     zk_bd1 (f_X8_ones (I 78 ((18 : Int32) + y3).toNatClampNeg)) (fun (r7 : Int32) =>
      l_X8_count_17 I p1 K n (y2 + r7) (y3 + (1 : Int32))))))
def l_X8_count_53 (I : zk_I) (p1 : Int32) (p2 : Int32) (K : Int32 → Option (Int32)) : Nat → Int32 → Int32 → Option (Int32)
  | 0, _, _ => none
  | n + 1, y3, y4 => (if (I 78 1) ≤ y4 then (
    K y3) else (
    zk_bd1 (f_X8_namedNow I y4) (fun (r11 : Int32) =>
     zk_lt ((if r11 = 0 then ((1 : Int32) <<< (y4 &&& 31)) else (0 : Int32))) (fun (v13 : Int32) =>
      l_X8_count_53 I p1 p2 K n (y3 ||| v13) (y4 + (1 : Int32))))))
def f_X8_count (I : zk_I) (a1 : Int32) : Option (Int32) := zk_lt (f_X8_in a1 (0 : Int32) (8 : Int32)) (fun (r2 : Int32) =>
  (if r2 = 0 then (
   some (-3 : Int32)) else (
   l_X8_count_17 I a1 (fun (z8 : Int32) =>
    l_X8_count_53 I a1 z8 (fun (z15 : Int32) =>
     (if a1 = (0 : Int32) then (
      some (I 78 0)) else if a1 = (1 : Int32) then (
      some (I 78 1)) else if a1 = (2 : Int32) then (
      some (I 80 0)) else if a1 = (3 : Int32) then (
      some (z8 / (2 : Int32))) else if a1 = (4 : Int32) then (
      some z15) else if a1 = (5 : Int32) then (
      some (I 76 10)) else if a1 = (6 : Int32) then (
      some (I 80 1)) else if a1 = (7 : Int32) then (
      some (I 76 6)) else (
      some (I 76 1)))) 3000 (0 : Int32) (0 : Int32)) 3000 (0 : Int32) (0 : Int32))))
set_option maxRecDepth 20000 in
theorem kl_X8_count_17 {X : zk_X} {I : zk_I} {p1 : Int32} {J : zk_J} {K : Int32 → Option (Int32)} {r : Int32} (jK : ∀ (z2 : Int32), K z2 = some r → zC X 3 m_X8_count 48 [some (.ref 76), some (.int p1), some (.int z2), none, none] [] (z_Z, I, J) 0 0 (some (.int r)) (z_Z, I, J)) : ∀ (n : Nat) (y2 : Int32) (y3 : Int32), l_X8_count_17 I p1 K n y2 y3 = some r → zC X 3 m_X8_count 17 [some (.ref 76), some (.int p1), some (.int y2), some (.int y3), none] [] (z_Z, I, J) 0 0 (some (.int r)) (z_Z, I, J) := by
  intro n
  induction n with
  | zero =>
    intro y2 y3 h
    cases h
  | succ n ih =>
    intro y2 y3 h
    rw [l_X8_count_17] at h
    refine c_iload_n rfl rfl ?_
    refine c_aload_n rfl rfl ?_
    refine c_getR rfl fk_X8_13 rfl (Nat.le_of_ble_eq_true rfl) rfl ?_
    refine c_iconst rfl vi_0 ?_
    refine e_iald rfl rfl (Nat.le_of_ble_eq_true rfl) (by decide) zt_0 ?_
    refine c_icmp_ge rfl (fun q4 => ?_) (fun q4 => ?_)
    · rw [if_pos q4] at h
      refine c_drop [true, true, true, false, true] (L2 := [some (.ref 76), some (.int p1), some (.int y2), none, none]) rfl ?_
      exact jK _ h
    · rw [if_neg q4] at h
      refine c_iload_n rfl rfl ?_
      refine c_aload_n rfl rfl ?_
      refine c_getR rfl fk_X8_13 rfl (Nat.le_of_ble_eq_true rfl) rfl ?_
      refine c_bipush rfl vb_18 ?_
      refine c_iload_n rfl rfl ?_
      refine c_iadd rfl ?_
      obtain ⟨q5, h⟩ := zk_ck_e h
      refine e_iald rfl rfl (Nat.le_of_ble_eq_true rfl) q5 rfl ?_
      obtain ⟨r7, h6, h⟩ := zk_bd1_e h
      refine e_callS (As := [.int (I 78 ((18 : Int32) + y3).toNatClampNeg)]) (st := [.int y2]) rfl lk_X8_152 rfl rfl rfl (Nat.le_of_ble_eq_true rfl) rfl (k_X8_ones h6) ?_
      refine c_iadd rfl ?_
      refine e_istore_n (L2 := [some (.ref 76), some (.int p1), some (.int (y2 + r7)), some (.int y3), none]) rfl rfl rfl rfl ?_
      refine e_iinc (L2 := [some (.ref 76), some (.int p1), some (.int (y2 + r7)), some (.int (y3 + (1 : Int32))), none]) rfl rfl vi_1 rfl rfl rfl ?_
      refine c_goto rfl ?_
      exact ih _ _ h
set_option maxRecDepth 20000 in
theorem kl_X8_count_53 {X : zk_X} {I : zk_I} {p1 : Int32} {p2 : Int32} {J : zk_J} {K : Int32 → Option (Int32)} {r : Int32} (jK : ∀ (z3 : Int32), K z3 = some r → zC X 3 m_X8_count 90 [some (.ref 76), some (.int p1), some (.int p2), some (.int z3), none] [] (z_Z, I, J) 0 0 (some (.int r)) (z_Z, I, J)) : ∀ (n : Nat) (y3 : Int32) (y4 : Int32), l_X8_count_53 I p1 p2 K n y3 y4 = some r → zC X 3 m_X8_count 53 [some (.ref 76), some (.int p1), some (.int p2), some (.int y3), some (.int y4)] [] (z_Z, I, J) 0 0 (some (.int r)) (z_Z, I, J) := by
  intro n
  induction n with
  | zero =>
    intro y3 y4 h
    cases h
  | succ n ih =>
    intro y3 y4 h
    rw [l_X8_count_53] at h
    refine c_iload rfl rfl ?_
    refine c_aload_n rfl rfl ?_
    refine c_getR rfl fk_X8_13 rfl (Nat.le_of_ble_eq_true rfl) rfl ?_
    refine c_iconst rfl vi_1 ?_
    refine e_iald rfl rfl (Nat.le_of_ble_eq_true rfl) (by decide) zt_1 ?_
    refine c_icmp_ge rfl (fun q9 => ?_) (fun q9 => ?_)
    · rw [if_pos q9] at h
      refine c_drop [true, true, true, true, false] (L2 := [some (.ref 76), some (.int p1), some (.int p2), some (.int y3), none]) rfl ?_
      exact jK _ h
    · rw [if_neg q9] at h
      refine c_iload_n rfl rfl ?_
      refine c_aload_n rfl rfl ?_
      refine c_iload rfl rfl ?_
      obtain ⟨r11, h10, h⟩ := zk_bd1_e h
      refine e_callV (As := [.int y4]) (st := [.int y3]) rfl lk_X8_146 rfl (Nat.le_of_ble_eq_true rfl) rfl rfl rfl (Nat.le_of_ble_eq_true rfl) rfl (k_X8_namedNow h10) ?_
      refine zk_lt1K (Z := fun (v13 : Int32) => zC X 3 m_X8_count 82 [some (.ref 76), some (.int p1), some (.int p2), none, some (.int y4)] [.int v13, .int y3] (z_Z, I, J) 0 0 (some (.int r)) (z_Z, I, J)) h (fun v13 h => ?_) (fun hz => ?_)
      · refine c_ior rfl ?_
        refine e_istore_n (L2 := [some (.ref 76), some (.int p1), some (.int p2), some (.int (y3 ||| v13)), some (.int y4)]) rfl rfl rfl rfl ?_
        refine e_iinc (L2 := [some (.ref 76), some (.int p1), some (.int p2), some (.int (y3 ||| v13)), some (.int (y4 + (1 : Int32)))]) rfl rfl vi_1 rfl rfl rfl ?_
        refine c_goto rfl ?_
        exact ih _ _ h
      · refine c_if_ne rfl (fun q12 => ?_) (fun q12 => ?_)
        · refine c_iconst rfl vi_0 ?_
          refine c_drop [true, true, true, false, true] (L2 := [some (.ref 76), some (.int p1), some (.int p2), none, some (.int y4)]) rfl ?_
          rw [if_neg q12] at hz
          exact hz
        · refine c_iconst rfl vi_1 ?_
          refine c_iload rfl rfl ?_
          refine c_ishl rfl ?_
          refine c_goto rfl ?_
          refine c_drop [true, true, true, false, true] (L2 := [some (.ref 76), some (.int p1), some (.int p2), none, some (.int y4)]) rfl ?_
          rw [if_pos q12] at hz
          exact hz
set_option maxRecDepth 20000 in
theorem k_X8_count {X : zk_X} {I : zk_I} {J : zk_J} {a1 : Int32} {r : Int32} (h : f_X8_count I a1 = some r) : zC X 3 m_X8_count 0 (zk_ent [.ref 76, .int a1] 5) [] (z_Z, I, J) 0 0 (some (.int r)) (z_Z, I, J) := by
  unfold f_X8_count at h
  refine c_ent (L2 := [some (.ref 76), some (.int a1), none, none, none]) rfl ?_
  refine c_iload_n rfl rfl ?_
  refine c_iconst rfl vi_0 ?_
  refine c_bipush rfl vb_8 ?_
  obtain ⟨r2, h1, h⟩ := zk_lt_g h
  refine e_callS (As := [.int a1, .int (0 : Int32), .int (8 : Int32)]) (st := []) rfl lk_X8_63 rfl rfl rfl (Nat.le_of_ble_eq_true rfl) rfl (k_X8_in h1.symm) ?_
  refine c_if_ne rfl (fun q3 => ?_) (fun q3 => ?_)
  · rw [if_neg q3] at h
    refine c_iconst rfl vi_0 ?_
    refine e_istore_n (L2 := [some (.ref 76), some (.int a1), some (.int (0 : Int32)), none, none]) rfl rfl rfl rfl ?_
    refine c_iconst rfl vi_0 ?_
    refine e_istore_n (L2 := [some (.ref 76), some (.int a1), some (.int (0 : Int32)), some (.int (0 : Int32)), none]) rfl rfl rfl rfl ?_
    refine kl_X8_count_17 (fun z8 h => ?_) _ _ _ h
    refine c_iconst rfl vi_0 ?_
    refine e_istore_n (L2 := [some (.ref 76), some (.int a1), some (.int z8), some (.int (0 : Int32)), none]) rfl rfl rfl rfl ?_
    refine c_iconst rfl vi_0 ?_
    refine e_istore (L2 := [some (.ref 76), some (.int a1), some (.int z8), some (.int (0 : Int32)), some (.int (0 : Int32))]) rfl rfl rfl rfl ?_
    refine kl_X8_count_53 (fun z15 h => ?_) _ _ _ h
    refine c_iload_n rfl rfl ?_
    by_cases q16_0 : a1 = (0 : Int32)
    · rw [if_pos q16_0] at h
      refine c_topi q16_0.symm ?_
      refine c_swIn (off := 45) (tgt := 136) rfl (by decide) (by decide) (by decide +kernel) (by decide) ?_
      refine c_aload_n rfl rfl ?_
      refine c_getR rfl fk_X8_13 rfl (Nat.le_of_ble_eq_true rfl) rfl ?_
      refine c_iconst rfl vi_0 ?_
      refine e_iald rfl rfl (Nat.le_of_ble_eq_true rfl) (by decide) zt_0 ?_
      have h := zk_r1 h
      subst h
      exact c_ireturn rfl rfl rfl
    · rw [if_neg q16_0] at h
      by_cases q16_1 : a1 = (1 : Int32)
      · rw [if_pos q16_1] at h
        refine c_topi q16_1.symm ?_
        refine c_swIn (off := 52) (tgt := 143) rfl (by decide) (by decide) (by decide +kernel) (by decide) ?_
        refine c_aload_n rfl rfl ?_
        refine c_getR rfl fk_X8_13 rfl (Nat.le_of_ble_eq_true rfl) rfl ?_
        refine c_iconst rfl vi_1 ?_
        refine e_iald rfl rfl (Nat.le_of_ble_eq_true rfl) (by decide) zt_1 ?_
        have h := zk_r1 h
        subst h
        exact c_ireturn rfl rfl rfl
      · rw [if_neg q16_1] at h
        by_cases q16_2 : a1 = (2 : Int32)
        · rw [if_pos q16_2] at h
          refine c_topi q16_2.symm ?_
          refine c_swIn (off := 59) (tgt := 150) rfl (by decide) (by decide) (by decide +kernel) (by decide) ?_
          refine c_aload_n rfl rfl ?_
          refine c_getR rfl fk_X8_19 rfl (Nat.le_of_ble_eq_true rfl) rfl ?_
          refine c_iconst rfl vi_0 ?_
          refine e_iald rfl rfl (Nat.le_of_ble_eq_true rfl) (by decide) zt_0 ?_
          have h := zk_r1 h
          subst h
          exact c_ireturn rfl rfl rfl
        · rw [if_neg q16_2] at h
          by_cases q16_3 : a1 = (3 : Int32)
          · rw [if_pos q16_3] at h
            refine c_topi q16_3.symm ?_
            refine c_swIn (off := 66) (tgt := 157) rfl (by decide) (by decide) (by decide +kernel) (by decide) ?_
            refine c_iload_n rfl rfl ?_
            refine c_iconst rfl vi_2 ?_
            refine c_idiv rfl (by decide) ?_
            have h := zk_r1 h
            subst h
            exact c_ireturn rfl rfl rfl
          · rw [if_neg q16_3] at h
            by_cases q16_4 : a1 = (4 : Int32)
            · rw [if_pos q16_4] at h
              refine c_topi q16_4.symm ?_
              refine c_swIn (off := 70) (tgt := 161) rfl (by decide) (by decide) (by decide +kernel) (by decide) ?_
              refine c_iload_n rfl rfl ?_
              have h := zk_r1 h
              subst h
              exact c_ireturn rfl rfl rfl
            · rw [if_neg q16_4] at h
              by_cases q16_5 : a1 = (5 : Int32)
              · rw [if_pos q16_5] at h
                refine c_topi q16_5.symm ?_
                refine c_swIn (off := 72) (tgt := 163) rfl (by decide) (by decide) (by decide +kernel) (by decide) ?_
                refine c_aload_n rfl rfl ?_
                refine c_getI rfl fk_X8_133 rfl (Nat.le_of_ble_eq_true rfl) ?_
                have h := zk_r1 h
                subst h
                exact c_ireturn rfl rfl rfl
              · rw [if_neg q16_5] at h
                by_cases q16_6 : a1 = (6 : Int32)
                · rw [if_pos q16_6] at h
                  refine c_topi q16_6.symm ?_
                  refine c_swIn (off := 77) (tgt := 168) rfl (by decide) (by decide) (by decide +kernel) (by decide) ?_
                  refine c_aload_n rfl rfl ?_
                  refine c_getR rfl fk_X8_19 rfl (Nat.le_of_ble_eq_true rfl) rfl ?_
                  refine c_iconst rfl vi_1 ?_
                  refine e_iald rfl rfl (Nat.le_of_ble_eq_true rfl) (by decide) zt_1 ?_
                  have h := zk_r1 h
                  subst h
                  exact c_ireturn rfl rfl rfl
                · rw [if_neg q16_6] at h
                  by_cases q16_7 : a1 = (7 : Int32)
                  · rw [if_pos q16_7] at h
                    refine c_topi q16_7.symm ?_
                    refine c_swIn (off := 84) (tgt := 175) rfl (by decide) (by decide) (by decide +kernel) (by decide) ?_
                    refine c_aload_n rfl rfl ?_
                    refine c_getI rfl fk_X8_130 rfl (Nat.le_of_ble_eq_true rfl) ?_
                    have h := zk_r1 h
                    subst h
                    exact c_ireturn rfl rfl rfl
                  · rw [if_neg q16_7] at h
                    refine c_swOut (tgt := 180) rfl (by
                      have := lv_neT (a := 0) q16_0 (by decide)
                      have := lv_neT (a := 1) q16_1 (by decide)
                      have := lv_neT (a := 2) q16_2 (by decide)
                      have := lv_neT (a := 3) q16_3 (by decide)
                      have := lv_neT (a := 4) q16_4 (by decide)
                      have := lv_neT (a := 5) q16_5 (by decide)
                      have := lv_neT (a := 6) q16_6 (by decide)
                      have := lv_neT (a := 7) q16_7 (by decide)
                      omega) (by decide) ?_
                    refine c_aload_n rfl rfl ?_
                    refine c_getI rfl fk_X8_67 rfl (Nat.le_of_ble_eq_true rfl) ?_
                    have h := zk_r1 h
                    subst h
                    exact c_ireturn rfl rfl rfl
  · rw [if_pos q3] at h
    refine c_bipush rfl vb_m3 ?_
    have h := zk_r1 h
    subst h
    exact c_ireturn rfl rfl rfl

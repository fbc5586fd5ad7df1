/-! rows with the index named; small words -/
def zk_nz (y : Int32) : Bool := !decide (y = 0)
def zk_nzl (y : Int64) : Bool := !decide (y = 0)
theorem zk_nz_n {y : Int32} (h : zk_nz y = true) : ¬ y = 0 := by simpa [zk_nz] using h
theorem zk_nzl_n {y : Int64} (h : zk_nzl y = true) : ¬ y = 0 := by simpa [zk_nzl] using h
section ZE
variable {X : zk_X} {d pc npc tg : Nat} {mt : zk_Mt} {L : List (Option Value)} {st : List Value} {Z : zk_Z} {I : zk_I} {J : zk_J} {M' : zk_M} {dc ds : Nat} {rv : Option Value}
theorem e_iald {n a j : Nat} {i : Int32} (h : zk_at mt pc = some (.iaload, npc, tg)) (ha : Z.2.1 a = (20, n)) (hz : a < Z.1) (hi : zk_in i n = true) (hj : i.toNatClampNeg = j) (k : zC X d mt npc L (.int (I a j) :: st) (Z, I, J) dc ds rv M') : zC X d mt pc L (.int i :: .ref a :: st) (Z, I, J) dc ds rv M' := by
  subst hj
  exact c_iald h ha hz hi k
theorem e_cald {n a j : Nat} {i : Int32} (h : zk_at mt pc = some (.caload, npc, tg)) (ha : Z.2.1 a = (23, n)) (hz : a < Z.1) (hi : zk_in i n = true) (hj : i.toNatClampNeg = j) (k : zC X d mt npc L (.int (I a j) :: st) (Z, I, J) dc ds rv M') : zC X d mt pc L (.int i :: .ref a :: st) (Z, I, J) dc ds rv M' := by
  subst hj
  exact c_cald h ha hz hi k
theorem e_zald {n a j : Nat} {i : Int32} (h : zk_at mt pc = some (.baload, npc, tg)) (ha : Z.2.1 a = (22, n)) (hz : a < Z.1) (hi : zk_in i n = true) (hj : i.toNatClampNeg = j) (k : zC X d mt npc L (.int (I a j) :: st) (Z, I, J) dc ds rv M') : zC X d mt pc L (.int i :: .ref a :: st) (Z, I, J) dc ds rv M' := by
  subst hj
  exact c_zald h ha hz hi k
theorem e_lald {n a j : Nat} {i : Int32} (h : zk_at mt pc = some (.laload, npc, tg)) (ha : Z.2.1 a = (21, n)) (hz : a < Z.1) (hi : zk_in i n = true) (hj : i.toNatClampNeg = j) (k : zC X d mt npc L (.long (J a j) :: st) (Z, I, J) dc ds rv M') : zC X d mt pc L (.int i :: .ref a :: st) (Z, I, J) dc ds rv M' := by
  subst hj
  exact c_lald h ha hz hi k
theorem e_iast {n a j : Nat} {i : Int32} {x : Int32} (h : zk_at mt pc = some (.iastore, npc, tg)) (ha : Z.2.1 a = (20, n)) (hz : a < Z.1) (hi : zk_in i n = true) (hj : i.toNatClampNeg = j) (k : zC X d mt npc L st (Z, zk_sc I a (upd (I a) j x), J) dc ds rv M') : zC X d mt pc L (.int x :: .int i :: .ref a :: st) (Z, I, J) dc ds rv M' := by
  subst hj
  exact c_iast h ha hz hi k
theorem e_cast {n a j : Nat} {i : Int32} {x : Int32} (h : zk_at mt pc = some (.castore, npc, tg)) (ha : Z.2.1 a = (23, n)) (hz : a < Z.1) (hi : zk_in i n = true) (hj : i.toNatClampNeg = j) (k : zC X d mt npc L st (Z, zk_sc I a (upd (I a) j (vp_nar .char x)), J) dc ds rv M') : zC X d mt pc L (.int x :: .int i :: .ref a :: st) (Z, I, J) dc ds rv M' := by
  subst hj
  exact c_cast h ha hz hi k
theorem e_zast {n a j : Nat} {i : Int32} {x : Int32} (h : zk_at mt pc = some (.bastore, npc, tg)) (ha : Z.2.1 a = (22, n)) (hz : a < Z.1) (hi : zk_in i n = true) (hj : i.toNatClampNeg = j) (k : zC X d mt npc L st (Z, zk_sc I a (upd (I a) j (vp_nar .boolean x)), J) dc ds rv M') : zC X d mt pc L (.int x :: .int i :: .ref a :: st) (Z, I, J) dc ds rv M' := by
  subst hj
  exact c_zast h ha hz hi k
theorem e_last {n a j : Nat} {i : Int32} {x : Int64} (h : zk_at mt pc = some (.lastore, npc, tg)) (ha : Z.2.1 a = (21, n)) (hz : a < Z.1) (hi : zk_in i n = true) (hj : i.toNatClampNeg = j) (k : zC X d mt npc L st (Z, I, zk_sj J a (vp_updL (J a) j x)) dc ds rv M') : zC X d mt pc L (.long x :: .int i :: .ref a :: st) (Z, I, J) dc ds rv M' := by
  subst hj
  exact c_last h ha hz hi k
theorem e_copy {idx n0 n1 a0 a k0 : Nat} {n : Int32} (h : zk_at mt pc = some (.invokestatic idx, npc, tg)) (hw : Cond.methodLink mt.1.cls idx arraycopyName ∈ zk_tbl) (w2 : Cond.native arraycopyName ∈ zk_tbl) (w3 : Cond.static arraycopyName ∈ zk_tbl) (w4 : Cond.initialized "java/lang/System" ∈ zk_tbl) (ha0 : Z.2.1 a0 = (20, n0)) (ha : Z.2.1 a = (20, n1)) (hz0 : a0 < Z.1) (hz : a < Z.1) (h3 : ¬ n < 0) (hk0 : n.toNatClampNeg = k0) (h4 : k0 ≤ n0) (h5 : k0 ≤ n1) (hd1 : 1 ≤ d) (h8 : (st.map fun v => v.category).sum ≤ 8)
    (k : zC X d mt npc L st (Z, zk_sc I a (va_cpy (I a0) (I a) 0 0 k0), J) dc ds rv M') : zC X d mt pc L (.int n :: .int (0 : Int32) :: .ref a :: .int (0 : Int32) :: .ref a0 :: st) (Z, I, J) dc ds rv M' := by
  subst hk0
  exact c_copy h hw w2 w3 w4 ha0 ha hz0 hz (by decide) (by decide) h3 (by rw [show (0 : Int32).toNatClampNeg = 0 by decide]; omega) (by rw [show (0 : Int32).toNatClampNeg = 0 by decide]; omega) hd1 h8 k
variable {d2 : Nat} {mt2 : zk_Mt} {stk As : List Value} {I1 : zk_I} {J1 : zk_J} {rv1 : Option Value}
theorem e_callV {idx n ci b : Nat} (h : zk_at mt pc = some (.invokevirtual idx, npc, tg)) (hl : zk_LV mt.1.cls idx mt2 n ci) (hb : (Z.2.1 b).1 = ci) (hbz : b < Z.1) (hst : stk = As.reverse ++ .ref b :: st) (hn : As.length = n) (hav : Nat.ble (zk_flat (.ref b :: As)).length mt2.2.2.1 = true) (hd : d2 + 1 ≤ d) (h8 : Nat.ble (st.map fun v => v.category).sum 8 = true)
    (hcal : zC X d2 mt2 0 (zk_ent (.ref b :: As) mt2.2.2.1) [] (Z, I, J) 0 0 rv1 (Z, I1, J1)) (k : zC X d mt npc L (rv1.toList ++ st) (Z, I1, J1) 0 0 rv M') : zC X d mt pc L stk (Z, I, J) 0 0 rv M' :=
  c_callV (dc1 := 0) (ds1 := 0) (dc2 := 0) (ds2 := 0) h hl hb hbz hst hn (Nat.le_of_ble_eq_true hav) hd (Nat.le_of_ble_eq_true h8) rfl rfl rfl hcal k
theorem e_callVS {idx n i : Nat} (h : zk_at mt pc = some (.invokevirtual idx, npc, tg)) (hl : zk_LVS mt.1.cls idx mt2 n) (hi : i < 10) (hst : stk = As.reverse ++ .ref (1010 + i) :: st) (hn : As.length = n) (hav : Nat.ble (zk_flat (.ref (1010 + i) :: As)).length mt2.2.2.1 = true) (hd : d2 + 1 ≤ d) (h8 : Nat.ble (st.map fun v => v.category).sum 8 = true)
    (hcal : zC X d2 mt2 0 (zk_ent (.ref (1010 + i) :: As) mt2.2.2.1) [] (Z, I, J) 0 0 rv1 (Z, I1, J1)) (k : zC X d mt npc L (rv1.toList ++ st) (Z, I1, J1) 0 0 rv M') : zC X d mt pc L stk (Z, I, J) 0 0 rv M' :=
  c_callVS (dc1 := 0) (ds1 := 0) (dc2 := 0) (ds2 := 0) h hl hi hst hn (Nat.le_of_ble_eq_true hav) hd (Nat.le_of_ble_eq_true h8) rfl rfl rfl hcal k
theorem e_callS {idx n : Nat} (h : zk_at mt pc = some (.invokestatic idx, npc, tg)) (hl : zk_LS mt.1.cls idx mt2 n) (hst : stk = As.reverse ++ st) (hn : As.length = n) (hav : Nat.ble (zk_flat As).length mt2.2.2.1 = true) (hd : d2 + 1 ≤ d) (h8 : Nat.ble (st.map fun v => v.category).sum 8 = true)
    (hcal : zC X d2 mt2 0 (zk_ent As mt2.2.2.1) [] (Z, I, J) 0 0 rv1 (Z, I1, J1)) (k : zC X d mt npc L (rv1.toList ++ st) (Z, I1, J1) 0 0 rv M') : zC X d mt pc L stk (Z, I, J) 0 0 rv M' :=
  c_callS (dc1 := 0) (ds1 := 0) (dc2 := 0) (ds2 := 0) h hl hst hn (Nat.le_of_ble_eq_true hav) hd (Nat.le_of_ble_eq_true h8) rfl rfl rfl hcal k
theorem e_callSN {idx n : Nat} (h : zk_at mt pc = some (.invokestatic idx, npc, tg)) (hl : zk_LSN mt.1.cls idx mt2 n) (hst : stk = As.reverse ++ st) (hn : As.length = n) (hav : Nat.ble (zk_flat As).length mt2.2.2.1 = true) (hd : d2 + 1 ≤ d) (h8 : Nat.ble (st.map fun v => v.category).sum 8 = true)
    (hcal : zC X d2 mt2 0 (zk_ent As mt2.2.2.1) [] (Z, I, J) 0 0 rv1 (Z, I1, J1)) (k : zC X d mt npc L (rv1.toList ++ st) (Z, I1, J1) 0 0 rv M') : zC X d mt pc L stk (Z, I, J) 0 0 rv M' :=
  c_callSN (dc1 := 0) (ds1 := 0) (dc2 := 0) (ds2 := 0) h hl hst hn (Nat.le_of_ble_eq_true hav) hd (Nat.le_of_ble_eq_true h8) rfl rfl rfl hcal k
end ZE
theorem zt_0 : (0 : Int32).toNatClampNeg = 0 := by decide
theorem zt_1 : (1 : Int32).toNatClampNeg = 1 := by decide
theorem zt_2 : (2 : Int32).toNatClampNeg = 2 := by decide
theorem zt_3 : (3 : Int32).toNatClampNeg = 3 := by decide
theorem zt_4 : (4 : Int32).toNatClampNeg = 4 := by decide
theorem zt_5 : (5 : Int32).toNatClampNeg = 5 := by decide
theorem zt_6 : (6 : Int32).toNatClampNeg = 6 := by decide
theorem zt_7 : (7 : Int32).toNatClampNeg = 7 := by decide
theorem zt_8 : (8 : Int32).toNatClampNeg = 8 := by decide
theorem zt_9 : (9 : Int32).toNatClampNeg = 9 := by decide
theorem zt_10 : (10 : Int32).toNatClampNeg = 10 := by decide
theorem zt_14 : (14 : Int32).toNatClampNeg = 14 := by decide
theorem zt_16 : (16 : Int32).toNatClampNeg = 16 := by decide
theorem zt_18 : (18 : Int32).toNatClampNeg = 18 := by decide
theorem zt_26 : (26 : Int32).toNatClampNeg = 26 := by decide
theorem zt_28 : (28 : Int32).toNatClampNeg = 28 := by decide
theorem zt_31 : (31 : Int32).toNatClampNeg = 31 := by decide
theorem zt_32 : (32 : Int32).toNatClampNeg = 32 := by decide
theorem zt_34 : (34 : Int32).toNatClampNeg = 34 := by decide
theorem zt_38 : (38 : Int32).toNatClampNeg = 38 := by decide
theorem zt_48 : (48 : Int32).toNatClampNeg = 48 := by decide
theorem zt_57 : (57 : Int32).toNatClampNeg = 57 := by decide
theorem zt_59 : (59 : Int32).toNatClampNeg = 59 := by decide
theorem zt_63 : (63 : Int32).toNatClampNeg = 63 := by decide
theorem zt_97 : (97 : Int32).toNatClampNeg = 97 := by decide
theorem zt_98 : (98 : Int32).toNatClampNeg = 98 := by decide
theorem zt_99 : (99 : Int32).toNatClampNeg = 99 := by decide
theorem zt_100 : (100 : Int32).toNatClampNeg = 100 := by decide
theorem zt_101 : (101 : Int32).toNatClampNeg = 101 := by decide
theorem zt_102 : (102 : Int32).toNatClampNeg = 102 := by decide
theorem zt_105 : (105 : Int32).toNatClampNeg = 105 := by decide
theorem zt_107 : (107 : Int32).toNatClampNeg = 107 := by decide
theorem zt_108 : (108 : Int32).toNatClampNeg = 108 := by decide
theorem zt_109 : (109 : Int32).toNatClampNeg = 109 := by decide
theorem zt_110 : (110 : Int32).toNatClampNeg = 110 := by decide
theorem zt_111 : (111 : Int32).toNatClampNeg = 111 := by decide
theorem zt_112 : (112 : Int32).toNatClampNeg = 112 := by decide
theorem zt_114 : (114 : Int32).toNatClampNeg = 114 := by decide
theorem zt_115 : (115 : Int32).toNatClampNeg = 115 := by decide
theorem zt_116 : (116 : Int32).toNatClampNeg = 116 := by decide
theorem zt_117 : (117 : Int32).toNatClampNeg = 117 := by decide
theorem zt_118 : (118 : Int32).toNatClampNeg = 118 := by decide
theorem zt_121 : (121 : Int32).toNatClampNeg = 121 := by decide
theorem zt_122 : (122 : Int32).toNatClampNeg = 122 := by decide
theorem zt_160 : (160 : Int32).toNatClampNeg = 160 := by decide
theorem zt_255 : (255 : Int32).toNatClampNeg = 255 := by decide
theorem zt_256 : (256 : Int32).toNatClampNeg = 256 := by decide
theorem zt_999 : (999 : Int32).toNatClampNeg = 999 := by decide
theorem zt_2048 : (2048 : Int32).toNatClampNeg = 2048 := by decide
/-! texts: length and charAt -/
def zk_sln (w : Nat) : Int32 := Int32.ofNat (zk_sl.getD w 0)
def zk_sch (w : Nat) (j : Int32) : Int32 := (((zk_sb.getD w []).getD j.toNatClampNeg 0 &&& 255).toUInt32 % 65536).toInt32
theorem k_Scoder {X : zk_X} {I : zk_I} {J : zk_J} {w : Nat} (h_w : w < 10) : zC X 1 m_J0_coder_7d493 0 (zk_ent [.ref (1010 + w)] 1) [] (z_Z, I, J) 0 0 (some (.int 0)) (z_Z, I, J) := by
  refine c_ent (L2 := [some (.ref (1010 + w))]) rfl ?_
  refine c_getsCS rfl fk_J0_38 ?_
  refine c_if_eq rfl (fun q => absurd q (by decide)) (fun q => ?_)
  refine c_aload_n rfl rfl ?_
  refine c_strC rfl fk_J0_15 h_w ?_
  refine c_goto rfl ?_
  exact c_ireturn rfl rfl rfl
theorem k_Slat {X : zk_X} {I : zk_I} {J : zk_J} {w : Nat} (h_w : w < 10) : zC X 1 m_J0_isLatin1_aae02 0 (zk_ent [.ref (1010 + w)] 1) [] (z_Z, I, J) 0 0 (some (.int 1)) (z_Z, I, J) := by
  refine c_ent (L2 := [some (.ref (1010 + w))]) rfl ?_
  refine c_getsCS rfl fk_J0_38 ?_
  refine c_if_eq rfl (fun q => absurd q (by decide)) (fun q => ?_)
  refine c_aload_n rfl rfl ?_
  refine c_strC rfl fk_J0_15 h_w ?_
  refine c_if_ne rfl (fun q => absurd rfl q) (fun q => ?_)
  refine c_iconst rfl vi_1 ?_
  refine c_goto rfl ?_
  exact c_ireturn rfl rfl rfl
theorem k_Slen {X : zk_X} {I : zk_I} {J : zk_J} {w : Nat} (h_w : w < 10) : zC X 3 m_J0_length_8abf5 0 (zk_ent [.ref (1010 + w)] 1) [] (z_Z, I, J) 0 0 (some (.int (zk_sln w))) (z_Z, I, J) := by
  refine c_ent (L2 := [some (.ref (1010 + w))]) rfl ?_
  refine c_aload_n rfl rfl ?_
  refine c_strV rfl fk_J0_9 h_w ?_
  refine c_strL rfl h_w rfl ?_
  refine c_aload_n rfl rfl ?_
  refine e_callVS (i := w) (As := []) (st := [.int (Int32.ofNat (zk_sl.getD w 0))]) rfl lk_J0_335 h_w rfl rfl rfl (Nat.le_of_ble_eq_true rfl) rfl (k_Scoder h_w) ?_
  refine c_ishr rfl ?_
  have e : Int32.ofNat (zk_sl.getD w 0) >>> ((0 : Int32) &&& 31) = zk_sln w := by
    match w, h_w with
    | 0, _ => decide
    | 1, _ => decide
    | 2, _ => decide
    | 3, _ => decide
    | 4, _ => decide
    | 5, _ => decide
    | 6, _ => decide
    | 7, _ => decide
    | 8, _ => decide
    | 9, _ => decide
    | k + 10, h => exact absurd h (by omega)
  refine c_topi e.symm ?_
  exact c_ireturn rfl rfl rfl
theorem k_Spre {X : zk_X} {I : zk_I} {J : zk_J} {a b : Int32} {v : Value} (hv : v.category = 1) (h0 : 0 ≤ a) (h1 : a < b) : zC X 1 m_J3_checkIndex_8e157 0 (zk_ent [.int a, .int b, v] 3) [] (z_Z, I, J) 0 0 (some (.int a)) (z_Z, I, J) := by
  have e : zk_ent [.int a, .int b, v] 3 = [some (.int a), some (.int b), some v] := by
    have h2 : ¬ v.category = 2 := by omega
    simp only [zk_ent, zk_flat, List.flatMap_cons, List.flatMap_nil, if_neg h2]
    rfl
  refine c_ent e ?_
  refine c_iload_n rfl rfl ?_
  refine c_if_lt rfl (fun q => absurd h0 (Int32.not_le.mpr q)) (fun q => ?_)
  refine c_iload_n rfl rfl ?_
  refine c_iload_n rfl rfl ?_
  refine c_icmp_lt rfl (fun q => ?_) (fun q => absurd h1 q)
  refine c_iload_n rfl rfl ?_
  exact c_ireturn rfl rfl rfl
theorem k_Schk {X : zk_X} {I : zk_I} {J : zk_J} {a b : Int32} (h0 : 0 ≤ a) (h1 : a < b) : zC X 2 m_J0_checkIndex_df160 0 (zk_ent [.int a, .int b] 2) [] (z_Z, I, J) 0 0 none (z_Z, I, J) := by
  refine c_ent (L2 := [some (.int a), some (.int b)]) rfl ?_
  refine c_iload_n rfl rfl ?_
  refine c_iload_n rfl rfl ?_
  refine c_getsSI rfl fk_J0_1053 ?_ ?_
  · refine e_callS (As := [.int a, .int b, .null]) (st := []) rfl lk_J0_1059 rfl rfl rfl (Nat.le_of_ble_eq_true rfl) rfl (k_Spre rfl h0 h1) ?_
    refine c_pop rfl rfl ?_
    exact c_return rfl rfl
  · refine e_callS (As := [.int a, .int b, .ref 1003]) (st := []) rfl lk_J0_1059 rfl rfl rfl (Nat.le_of_ble_eq_true rfl) rfl (k_Spre rfl h0 h1) ?_
    refine c_pop rfl rfl ?_
    exact c_return rfl rfl
theorem zk_in_b {j : Int32} {w : Nat} (h_w : w < 10) (h : zk_in j (zk_sl.getD w 0) = true) : 0 ≤ j ∧ j < Int32.ofNat (zk_sl.getD w 0) := by
  have h1 := vp_in_iff.mp (zk_in_vp h)
  have hl : zk_sl.getD w 0 < 2 ^ 31 := by
    match w, h_w with
    | 0, _ => decide
    | 1, _ => decide
    | 2, _ => decide
    | 3, _ => decide
    | 4, _ => decide
    | 5, _ => decide
    | 6, _ => decide
    | 7, _ => decide
    | 8, _ => decide
    | 9, _ => decide
    | k + 10, h => exact absurd h (by omega)
  refine ⟨by rw [Int32.le_iff_toInt_le, Int32.toInt_zero]; exact h1.1, ?_⟩
  rw [Int32.lt_iff_toInt_lt]
  have : (Int32.ofNat (zk_sl.getD w 0)).toInt = (zk_sl.getD w 0 : Int) := nI_toInt hl
  rw [this]
  exact h1.2
theorem k_SLc {X : zk_X} {I : zk_I} {J : zk_J} {w : Nat} {j : Int32} (h_w : w < 10) (hj : zk_in j (zk_sl.getD w 0) = true) : zC X 3 m_J1_charAt_3b067 0 (zk_ent [.ref (1030 + w), .int j] 2) [] (z_Z, I, J) 0 0 (some (.int (zk_sch w j))) (z_Z, I, J) := by
  refine c_ent (L2 := [some (.ref (1030 + w)), some (.int j)]) rfl ?_
  refine c_iload_n rfl rfl ?_
  refine c_aload_n rfl rfl ?_
  refine c_strL rfl h_w rfl ?_
  refine e_callS (As := [.int j, .int (Int32.ofNat (zk_sl.getD w 0))]) (st := []) rfl lk_J1_9 rfl rfl rfl (Nat.le_of_ble_eq_true rfl) rfl (k_Schk (zk_in_b h_w hj).1 (zk_in_b h_w hj).2) ?_
  refine c_aload_n rfl rfl ?_
  refine c_iload_n rfl rfl ?_
  refine c_strB rfl h_w hj ?_
  refine c_sipush rfl vs_255 ?_
  refine c_iand rfl ?_
  refine c_i2c rfl ?_
  exact c_ireturn rfl rfl (pk_nc _)
theorem k_Schar {X : zk_X} {I : zk_I} {J : zk_J} {w : Nat} {j : Int32} (h_w : w < 10) (hj : zk_in j (zk_sl.getD w 0) = true) : zC X 5 m_J0_charAt_5068e 0 (zk_ent [.ref (1010 + w), .int j] 2) [] (z_Z, I, J) 0 0 (some (.int (zk_sch w j))) (z_Z, I, J) := by
  refine c_ent (L2 := [some (.ref (1010 + w)), some (.int j)]) rfl ?_
  refine c_aload_n rfl rfl ?_
  refine e_callVS (i := w) (As := []) (st := []) rfl lk_J0_492 h_w rfl rfl rfl (Nat.le_of_ble_eq_true rfl) rfl (k_Slat h_w) ?_
  refine c_if_eq rfl (fun q => absurd q (by decide)) (fun q => ?_)
  refine c_aload_n rfl rfl ?_
  refine c_strV rfl fk_J0_9 h_w ?_
  refine c_iload_n rfl rfl ?_
  refine e_callS (As := [.ref (1030 + w), .int j]) (st := []) rfl lk_J0_495 rfl rfl rfl (Nat.le_of_ble_eq_true rfl) rfl (k_SLc h_w hj) ?_
  exact c_ireturn rfl rfl (pk_nc _)

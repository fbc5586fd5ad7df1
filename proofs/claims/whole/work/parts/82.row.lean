/-! row -/
def lbN (c : Nat) : Nat := if c.testBit 0 then 0 else if c.testBit 1 then 1 else if c.testBit 2 then 2 else if c.testBit 3 then 3 else if c.testBit 4 then 4 else if c.testBit 5 then 5 else if c.testBit 6 then 6 else 7
theorem lbN_ok : ∀ c, c < 256 → c ≠ 0 → lbN c < 8 ∧ c.testBit (lbN c) = true ∧ ∀ y, y < 8 → y < lbN c → c.testBit y = false := by decide +kernel
theorem lbN_lst {c : Nat} (hc : c < 256) {r : Int32} (h : LST (fun x => c.testBit x) 8 r) : r = if c = 0 then -1 else nI (lbN c) := by
  refine h.uniq ?_
  by_cases h0 : c = 0
  · rw [if_pos h0, h0]
    exact Or.inr ⟨fun x hx => Nat.zero_testBit x, rfl⟩
  · rw [if_neg h0]
    obtain ⟨l1, l2, l3⟩ := lbN_ok c hc h0
    exact Or.inl ⟨_, l1, l2, fun y hy => l3 y (by omega) hy, rfl⟩
theorem lgV_ch {T : TD} (hT : wfT T) {dy h s w : Nat} (hs : s < 256) : chLN T dy h s w = 0 ↔ lgV T dy h s w = 0 := by
  obtain ⟨i1, i2⟩ := mx2_ok (chN T dy h s w) (fun x => lgV T dy h (s ||| 2 ^ x) x) (fun x => 0) (fun u v => u) 0 8 (by decide)
  have e1 := mx2_fst (chN T dy h s w) (fun x => lgV T dy h (s ||| 2 ^ x) x) (fun x => 0) (fun u v => u) 0 8
  have e2 : (mx2 (chN T dy h s w) (fun x => lgV T dy h (s ||| 2 ^ x) x) (fun x => 0) (fun u v => u) 0 8).1 = lgV T dy h s w := by
    rw [e1, lgV_rec hT hs]
    rfl
  rw [e2] at i1 i2
  constructor
  · intro h0
    rcases i2 with i2 | i2
    · exact i2.1
    · have e3 : seN (chN T dy h s w) (fun x => lgV T dy h (s ||| 2 ^ x) x) (lgV T dy h s w) = chLN T dy h s w := rfl
      rw [e3, h0, jF_z] at i2
      cases i2
  · intro h0
    apply Nat.eq_of_testBit_eq
    intro x
    rw [Nat.zero_testBit]
    cases hb : (chLN T dy h s w).testBit x
    · rfl
    · have := ((chLN_bit hT).mp hb).2
      omega
def rwF (T : TD) (dy h : Nat) : Nat → Nat → Nat → Int32
  | 0, _, w => nI w
  | m + 1, s, w => if chLN T dy h s w = 0 then -1 else rwF T dy h m (s ||| 2 ^ lbN (chLN T dy h s w)) (lbN (chLN T dy h s w))
theorem sh1 {x : Nat} (hx : x < 8) : (1 : Int32) <<< (nI x &&& 31) = nI (2 ^ x) := by rw [xlit 1, xlit 31, xb_shl1 x (by omega)]
theorem x_row38 {T : TD} {I : zk_I} {J : zk_J} {dy h w0 a : Nat} (hT : wfT T) (hB : begC T dy h w0 I) (ha : a < 8) (hf : flD T h (fun s w => lN (lgV T dy h s w)) J 68 h) : ∀ m t s w n, t + m = a + 1 → m < n → s < 2 ^ nrT T → s &&& h = h → w < nrT T → s.testBit w = true → l_X3_readerOfFirstRow_38 I J (nI a) (fun (z13 : Int32) => some (z13, I, J)) n (nI s) (nI w) (nI t) = some (rwF T dy h m s w, I, J) := by
  have hnr := hT.1
  have hpw := pow_le8 hnr
  intro m
  induction m with
  | zero =>
    intro t s w n ht hn hs hsub hw hsw
    obtain ⟨n, rfl⟩ : ∃ k, n = k + 1 := ⟨n - 1, by omega⟩
    rw [l_X3_readerOfFirstRow_38, if_pos (nI_lt (by omega) (by omega))]
    rfl
  | succ m ih =>
    intro t s w n ht hn hs hsub hw hsw
    obtain ⟨n, rfl⟩ : ∃ k, n = k + 1 := ⟨n - 1, by omega⟩
    have hc := chLN_lt T dy h s w
    obtain ⟨r, r1, r2⟩ := x_leastOf hc
    have r3 := lbN_lst hc r2
    rw [l_X3_readerOfFirstRow_38, if_neg (nI_nlt (by omega) (by omega)), x_chL hT hB hs hsub hw hsw hf, zbd1, r1, zbd1, r3, rwF]
    by_cases h0 : chLN T dy h s w = 0
    · rw [if_pos h0, if_pos rfl, if_pos h0]
    · obtain ⟨l1, l2, l3⟩ := lbN_ok _ hc h0
      obtain ⟨c1, c2⟩ := chN_bit hT ((chLN_bit hT).mp l2).1
      have hne : ¬ nI (lbN (chLN T dy h s w)) = (-1 : Int32) := by
        have : ∀ x, x < 8 → ¬ nI x = (-1 : Int32) := by decide
        exact this _ l1
      rw [if_neg h0, if_neg hne, if_neg h0, zlt, sh1 l1, xb_or, nI_1]
      exact ih (t + 1) _ _ n (by omega) (by omega) (Nat.or_lt_two_pow hs (Nat.pow_lt_pow_right (by decide) c1)) (or_sub hsub) c1 (or_in _ _)
theorem x_rofr {T : TD} {D : DD} {I : zk_I} {J : zk_J} {b a : Nat} (hT : wfT T) (hD : wfD T D) (hr : repC T I 3) (hd : repDC T D I 16) (hb : b < nbT T) (ha : a < 8) : ∃ I1 J1, f_X3_readerOfFirstRow I J (nI b) (nI a) = some (rwF T (dyD D) (haD D b) (a + 1) (haD D b) (hoD D b), I1, J1) ∧ (∀ c, ¬ (63 ≤ c ∧ c ≤ 66) → I1 c = I c) := by
  obtain ⟨I1, b1, b2, b3, b4⟩ := x_beginR hT hD hr hd hb
  obtain ⟨w1, w2, w3, -⟩ := hD.2 b hb
  have hh : 1 ≤ haD D b := by
    by_cases h0 : haD D b = 0
    · rw [h0, Nat.zero_testBit] at w3; cases w3
    · omega
  obtain ⟨J1, f1, f2, f3⟩ := x_fillR hT b2 hh w2 (ms_most (J := J) (tb := 68) hT b2)
  refine ⟨I1, J1, ?_, b3⟩
  unfold f_X3_readerOfFirstRow
  rw [if_pos (show nI a < (8 : Int32) from nI_lt (b := 8) ha (by decide)), b1, zbd1, f1, zbd1, b2.2.1, b2.2.2.1]
  exact x_row38 hT b2 ha f3 (a + 1) 0 _ _ 3000 (by omega) (by omega) w2 (Nat.and_self _) w1 w3
/-- the reference's -/
theorem x8_row71 {T : TD} {I : zk_I} {dy h s w : Nat} {p1 p2 p5 : Int32} (hT : wfT T) (hs : s < 256) (hw : w < 8) (hL : 0 < lgV T dy h s w) (h85 : I 85 (8 * s + w) = nI (lgV T dy h s w)) (hl : ∀ x, (chN T dy h s w).testBit x = true → I 85 (8 * (s ||| 2 ^ x) + x) = nI (lgV T dy h (s ||| 2 ^ x) x)) (K : Int32 → Option (Int32 × zk_I)) : ∃ r, l_X8_row_71 I p1 p2 (nI (8 * s + w)) p5 (nI s) (nI (chN T dy h s w)) K 3000 (-1) 7 = K r ∧ LST (fun x => (chLN T dy h s w).testBit x) 8 r := by
  have hc := chN_lt hT dy h s w
  have hLe := lgV_le T dy h s w
  refine dn_loop8 (fun n v y => l_X8_row_71 I p1 p2 (nI (8 * s + w)) p5 (nI s) (nI (chN T dy h s w)) K n v y) K (fun x => (chLN T dy h s w).testBit x) (fun n v => ?_) (fun n v k hk => ?_)
  · rw [l_X8_row_71, if_pos (show nI 0 - 1 < (0 : Int32) by decide)]
  · have e8 : ((8 : Int32) * (nI s ||| ((1 : Int32) <<< (nI k &&& 31)))) + nI k = nI (8 * (s ||| 2 ^ k) + k) := by
      rw [sh1 hk, xb_or, xlit 8, pk_mul, nI_add]
    have ho : s ||| 2 ^ k < 256 := or_lt hs (p2_lt8 hk)
    rw [l_X8_row_71, if_neg (nI_pos (by omega)), e8]
    refine (jp1_to (v := nI (if (chLN T dy h s w).testBit k then 1 else 0)) (fun K' => ?_)).trans ?_
    · refine (zjp0 _ _).trans ?_
      rw [xlit 1, xlit 31, xb_bit (show chN T dy h s w < 2 ^ 31 by omega) (show k < 32 by omega)]
      cases hb : (chN T dy h s w).testBit k
      · have : (chLN T dy h s w).testBit k = false := by
          cases hb2 : (chLN T dy h s w).testBit k
          · rfl
          · rw [((chLN_bit hT).mp hb2).1] at hb; cases hb
        rw [if_neg (by decide), this]; rfl
      · have h7 := hl k hb
        have hL2 := lgV_le T dy h (s ||| 2 ^ k) k
        rw [if_pos (by rfl), zck (zin (show 8 * (s ||| 2 ^ k) + k < 2048 by omega) (by decide)), zck (zin (show 8 * s + w < 2048 by omega) (by decide)), nI_clamp (by omega), nI_clamp (by omega), h7, h85, nI_sub (by omega)]
        by_cases h0 : lgV T dy h (s ||| 2 ^ k) k + 1 = lgV T dy h s w
        · have : (chLN T dy h s w).testBit k = true := (chLN_bit hT).mpr ⟨hb, h0⟩
          rw [if_pos (by rw [← h0, Nat.add_sub_cancel]), this]; rfl
        · have : (chLN T dy h s w).testBit k = false := by
            cases hb2 : (chLN T dy h s w).testBit k
            · rfl
            · exact absurd ((chLN_bit hT).mp hb2).2 h0
          have hne : ¬ nI (lgV T dy h (s ||| 2 ^ k) k) = nI (lgV T dy h s w - 1) := fun q => by
            have := (nI_eq (show lgV T dy h (s ||| 2 ^ k) k < 2 ^ 31 by omega) (show lgV T dy h s w - 1 < 2 ^ 31 by omega)).mp q
            omega
          rw [if_neg hne, this]; rfl
    · refine (zlt _ _).trans ?_
      rw [q01]
theorem x8_row30 {T : TD} {D : DD} {I : zk_I} {b a : Nat} (hT : wfT T) (hD : wfD T D) (hr : repM T I 78) (hd : repDM T D I 80 0) (hb : b < nbT T) (ha : a < 2 ^ 31) (hl : ∀ s r, s < 2 ^ nrT T → r < nrT T → isSt (haD D b) (hoD D b) s r = true → atQ I (8 * s + r) (RV7 T (dyD D) (haD D b) s r)) : ∀ L t s w v n, lgV T (dyD D) (haD D b) s w = L → t + L < 100 → L < n → t ≤ a + 1 → (t = a + 1 → v = nI w) → s < 2 ^ nrT T → w < nrT T → isSt (haD D b) (hoD D b) s w = true → l_X8_row_30 I (nI b) (nI a) (fun (z26 : Int32) (z27 : Int32) => (if z27 ≤ nI a then (some ((-1 : Int32), I)) else (some (z26, I)))) n (nI (8 * s + w)) v (nI t) = some (if t + L ≤ a then -1 else rwF T (dyD D) (haD D b) (a + 1 - t) s w, I) := by
  have hnr := hT.1
  have hpw := pow_le8 hnr
  intro L
  induction L with
  | zero =>
    intro t s w v n hL ht hn hta hv hs hw hst
    obtain ⟨n, rfl⟩ : ∃ k, n = k + 1 := ⟨n - 1, by omega⟩
    have h85 : I 85 (8 * s + w) = nI (lgV T (dyD D) (haD D b) s w) := (hl s w hs hw hst).1
    by_cases he : t = a + 1
    · rw [l_X8_row_30, if_pos (nI_lt (by omega) (by omega)), if_neg (nI_ge (by omega) (by omega)), if_neg (show ¬ t + 0 ≤ a by omega), hv he, show a + 1 - t = 0 by omega, rwF]
    · rw [l_X8_row_30, if_neg (nI_nlt (by omega) (by omega)), zck (zin (show 8 * s + w < 2048 by omega) (by decide)), nI_clamp (by omega), h85, hL, if_pos (show nI 0 ≤ (0 : Int32) by decide), if_pos (nI_le (by omega) (by omega)), if_pos (show t + 0 ≤ a by omega)]
  | succ L ih =>
    intro t s w v n hL ht hn hta hv hs hw hst
    obtain ⟨n, rfl⟩ : ∃ k, n = k + 1 := ⟨n - 1, by omega⟩
    have h85 : I 85 (8 * s + w) = nI (lgV T (dyD D) (haD D b) s w) := (hl s w hs hw hst).1
    have hLe := lgV_le T (dyD D) (haD D b) s w
    by_cases he : t = a + 1
    · rw [l_X8_row_30, if_pos (nI_lt (by omega) (by omega)), if_neg (nI_ge (by omega) (by omega)), if_neg (show ¬ t + (L + 1) ≤ a by omega), hv he, show a + 1 - t = 0 by omega, rwF]
    · have hsub : s &&& haD D b = haD D b := by
        have hst' := hst
        unfold isSt at hst'
        rw [Bool.and_eq_true, Bool.and_eq_true, decide_eq_true_eq] at hst'
        exact hst'.1.1
      have hdiv : nI (8 * s + w) / (8 : Int32) = nI s := by
        rw [xlit 8, pk_div (by omega) (by decide) (by decide), show (8 * s + w) / 8 = s by omega]
      have hrem : nI (8 * s + w) - nI s * (8 : Int32) = nI w := by
        rw [xlit 8, pk_mul, nI_sub (by omega), show 8 * s + w - s * 8 = w by omega]
      have hc := chLN_lt T (dyD D) (haD D b) s w
      have h0 : ¬ chLN T (dyD D) (haD D b) s w = 0 := fun q => by
        have := (lgV_ch hT (by omega)).mp q
        omega
      obtain ⟨l1, l2, l3⟩ := lbN_ok _ hc h0
      have lc := (chLN_bit hT).mp l2
      obtain ⟨c1, c2⟩ := chN_bit hT lc.1
      rw [l_X8_row_30, if_neg (nI_nlt (by omega) (by omega)), zck (zin (show 8 * s + w < 2048 by omega) (by decide)), nI_clamp (by omega), h85, if_neg (show ¬ nI (lgV T (dyD D) (haD D b) s w) ≤ 0 from nI_ge (a := 0) (by omega) (by omega)), hdiv, hrem, x8_nexts hT hD hr hd hb hs hsub hw, zbd1]
      obtain ⟨r, r1, r2⟩ := x8_row71 (p1 := nI b) (p2 := nI a) (p5 := nI t) hT (by omega) (by omega) (by omega) h85 (fun x hx => (hl _ _ (Nat.or_lt_two_pow hs (Nat.pow_lt_pow_right (by decide) (chN_bit hT hx).1)) (chN_bit hT hx).1 (isSt_next hT hst hx)).1) (fun (z24 : Int32) => zk_lt (((8 : Int32) * ((nI s) ||| ((1 : Int32) <<< (z24 &&& 31)))) + z24) (fun (x25 : Int32) => l_X8_row_30 I (nI b) (nI a) (fun (z26 : Int32) (z27 : Int32) => (if z27 ≤ nI a then (some ((-1 : Int32), I)) else (some (z26, I)))) n x25 z24 (nI t + (1 : Int32))))
      refine r1.trans ?_
      have r3 := lbN_lst hc r2
      rw [if_neg h0] at r3
      rw [r3, zlt, sh1 l1, xb_or, xlit 8, pk_mul, nI_add, nI_1]
      rw [ih (t + 1) _ _ _ n (show lgV T (dyD D) (haD D b) (s ||| 2 ^ lbN (chLN T (dyD D) (haD D b) s w)) (lbN (chLN T (dyD D) (haD D b) s w)) = L by omega) (by omega) (by omega) (by omega) (fun _ => rfl) (Nat.or_lt_two_pow hs (Nat.pow_lt_pow_right (by decide) c1)) c1 (isSt_next hT hst lc.1)]
      by_cases hta2 : t + (L + 1) ≤ a
      · rw [if_pos hta2, if_pos (show t + 1 + L ≤ a by omega)]
      · rw [if_neg hta2, if_neg (show ¬ t + 1 + L ≤ a by omega), show a + 1 - t = (a + 1 - (t + 1)) + 1 by omega, rwF, if_neg h0]
theorem rwF_none {T : TD} (hT : wfT T) (dy h : Nat) : ∀ L m s w, lgV T dy h s w = L → s < 256 → L < m → rwF T dy h m s w = -1
  | 0, m, s, w, hL, hs, hm => by
    obtain ⟨m, rfl⟩ : ∃ k, m = k + 1 := ⟨m - 1, by omega⟩
    rw [rwF, if_pos ((lgV_ch hT hs).mpr hL)]
  | L + 1, m, s, w, hL, hs, hm => by
    obtain ⟨m, rfl⟩ : ∃ k, m = k + 1 := ⟨m - 1, by omega⟩
    have hc := chLN_lt T dy h s w
    have h0 : ¬ chLN T dy h s w = 0 := fun q => by
      have := (lgV_ch hT hs).mp q
      omega
    obtain ⟨l1, l2, l3⟩ := lbN_ok _ hc h0
    have lc := (chLN_bit hT).mp l2
    rw [rwF, if_neg h0]
    exact rwF_none hT dy h L m _ _ (by omega) (or_lt hs (p2_lt8 l1)) (by omega)
theorem lgV_le8 (T : TD) (dy h s w : Nat) (hp : 1 ≤ pc s) : lgV T dy h s w ≤ 8 := Nat.le_trans (tabL_le T dy h _ s w) (by omega)
theorem o_row {S : ST} (hw : wfS S) (a a2 : Int32) : opF S (fun I J => f_X7_row I J a a2) (fun I => f_X8_row I a a2) := by
  have hnb : nbT (tdS S) ≤ 4 := hw.2.1.2.1
  have hnr : nrT (tdS S) ≤ 8 := hw.2.1.1
  have hpw := pow_le8 hnr
  unfold f_X7_row f_X8_row
  rcases arg_cases a (n := nbT (tdS S)) (by omega) with ha | ⟨j, hj, rfl⟩
  · refine opF.no (-2) (fun I J hI => ?_) (fun I hI => ?_)
    · rw [x_hasB0 hI.2.1 ha, zlt, if_pos rfl]
    · rw [x8_isB0 hw.2.1 hI.2.1 ha, zbd1, if_pos rfl]
  · by_cases h2 : 0 ≤ a2
    · obtain ⟨i, hi, rfl⟩ := nI_of (x := a2) (Int32.not_lt.mpr h2)
      obtain ⟨w1, w2, w3, -⟩ := hw.2.2.1.2 j hj
      have w1' : hoS S j < nrT (tdS S) := w1
      have w2' : haS S j < 2 ^ nrT (tdS S) := w2
      have hpc : 1 ≤ pc (haS S j) := pc_pos _ (by omega) _ (show hoS S j < 8 by omega) w3
      have hL := lgV_le8 (tdS S) (dyS S) (haS S j) (haS S j) (hoS S j) hpc
      have hlow : ∀ m, lgV (tdS S) (dyS S) (haS S j) (haS S j) (hoS S j) < m → rwF (tdS S) (dyS S) (haS S j) m (haS S j) (hoS S j) = -1 := fun m hm => rwF_none hw.2.1 _ _ _ m _ _ rfl (by omega) hm
      refine ⟨rwF (tdS S) (dyS S) (haS S j) (i + 1) (haS S j) (hoS S j), fun I J hI => ?_, fun I hI => ?_⟩
      · by_cases h8 : i < 8
        · obtain ⟨I1, J1, a1, a2⟩ := x_rofr (J := J) hw.2.1 hw.2.2.1 hI.2.1 hI.2.2.1 hj h8
          refine ⟨I1, J1, ?_, hI.fr (rel63 a2).1, (rel63 a2).2⟩
          dsimp only
          rw [x_hasB1 hw.2.1 hI.2.1 hj, zlt, if_neg n10, if_pos h2, a1, zbd3]
        · refine ⟨I, J, ?_, hI, keepM.rf⟩
          dsimp only
          unfold f_X3_readerOfFirstRow
          rw [x_hasB1 hw.2.1 hI.2.1 hj, zlt, if_neg n10, if_pos h2, if_neg (show ¬ nI i < (8 : Int32) from nI_nlt (b := 8) (by omega) hi), zbd3, hlow _ (by omega)]
      · obtain ⟨I1, a1, a2, a3⟩ := x8_laysAll hw.2.1 hw.2.2.1 hI.2.1 hI.2.2.1 hj
        have hI1 : invM S I1 := hI.fr (rel85 a2).1
        refine ⟨I1, ?_, hI1, (rel85 a2).2⟩
        dsimp only
        rw [x8_isB1 hw.2.1 hI.2.1 hj, zbd1, if_neg n10, if_pos h2, a1, zbd2]
        refine (x8_row30 (T := tdS S) (D := ddS S) hw.2.1 hw.2.2.1 hI1.2.1 hI1.2.2.1 hj hi a3 (lgV (tdS S) (dyS S) (haS S j) (haS S j) (hoS S j)) 0 (haS S j) (hoS S j) (-1) 3000 rfl (by omega) (by omega) (by omega) (fun q => by omega) w2 w1 (isSt_0 hw.2.2.1 hj)).trans ?_
        by_cases hle : 0 + lgV (tdS S) (dyS S) (haS S j) (haS S j) (hoS S j) ≤ i
        · rw [if_pos hle, hlow _ (by omega)]
        · rw [if_neg hle]
          rfl
    · refine opF.no (-3) (fun I J hI => ?_) (fun I hI => ?_)
      · rw [x_hasB1 hw.2.1 hI.2.1 hj, zlt, if_neg n10, if_neg h2]
      · rw [x8_isB1 hw.2.1 hI.2.1 hj, zbd1, if_neg n10, if_neg h2]

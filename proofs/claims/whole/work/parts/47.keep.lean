/-! keep, back, slip, burn, count -/
theorem in01 {a : Int32} (h : a < 0 ∨ nI 2 ≤ a) : f_X8_in a 0 1 = 0 := by
  rw [x8_in, if_pos]
  rcases h with h | h
  · exact Or.inl h
  · refine Or.inr ?_
    have : (1 : Int32) = nI 2 - nI 1 := by decide
    rw [this]
    exact (nI_m1_lt (by decide) a).mpr h
theorem in01' : ∀ k, k < 2 → f_X8_in (nI k) 0 1 = 1 := by decide +kernel
theorem lt2' : ∀ k, k < 2 → nI k < (2 : Int32) := by decide +kernel
theorem x8_keep_l {I : zk_I} {k : Nat} (hk : k < 2) (K : zk_I → Option (Int32 × zk_I)) : l_X8_keep_14 (nI k) K 3000 0 I = K (zk_sc I 82 (fun j => if 14 * k ≤ j ∧ j < 14 * k + 14 then I 80 (j - 14 * k) else I 82 j)) := by
  have h0 : I = zk_sc I 82 (fun j => if 14 * k ≤ j ∧ j < 14 * k + 0 then I 80 (j - 14 * k) else I 82 j) := by
    funext c
    by_cases hc : c = 82
    · subst hc
      rw [zk_sc_s]
      funext j
      rw [if_neg (by omega)]
    · rw [zk_sc_n _ _ hc]
  have key := zl_up (fun n i (s : zk_I) => l_X8_keep_14 (nI k) K n (nI i) s) K (fun i => zk_sc I 82 (fun j => if 14 * k ≤ j ∧ j < 14 * k + i then I 80 (j - 14 * k) else I 82 j)) 14 (fun n => ?_) (fun n i hi => ?_) 3000 0 (by omega) (by omega)
  · rw [← h0] at key
    exact key
  · simp only [l_X8_keep_14, xlit]
    rw [if_pos (nI_le (a := 14) (Nat.le_refl _) (by decide))]
  · simp only [l_X8_keep_14, xlit]
    rw [if_neg (nI_ge (b := 14) hi (by decide))]
    simp only [zk_sc_n I _ (show ¬ 80 = 82 by decide), xlit, pk_mul, nI_add, zck (zin (show 14 * k + i < 28 by omega) (by decide)), zck (zin (show i < 14 by omega) (by decide)), nI_clamp (show 14 * k + i < 2 ^ 31 by omega), nI_clamp (show i < 2 ^ 31 by omega), zk_lt, zk_sc_s]
    congr 1
    funext c
    by_cases hc : c = 82
    · subst hc
      rw [zk_sc_s, zk_sc_s]
      funext j
      by_cases hj : j = 14 * k + i
      · subst hj
        rw [pk_us, if_pos (by omega)]
        congr 1
        omega
      · rw [pk_un hj]
        by_cases h1 : 14 * k ≤ j ∧ j < 14 * k + i
        · rw [if_pos h1, if_pos (by omega)]
        · rw [if_neg h1, if_neg (by omega)]
    · rw [zk_sc_n _ _ hc, zk_sc_n _ _ hc, zk_sc_n _ _ hc]
theorem x8_back_l {I : zk_I} {k : Nat} (hk : k < 2) (K : zk_I → Option (Int32 × zk_I)) : l_X8_back_26 (nI k) K 3000 0 I = K (zk_sc I 80 (fun j => if j < 14 then I 82 (14 * k + j) else I 80 j)) := by
  have h0 : I = zk_sc I 80 (fun j => if j < 0 then I 82 (14 * k + j) else I 80 j) := by
    funext c
    by_cases hc : c = 80
    · subst hc
      rw [zk_sc_s]
      funext j
      rw [if_neg (by omega)]
    · rw [zk_sc_n _ _ hc]
  have key := zl_up (fun n i (s : zk_I) => l_X8_back_26 (nI k) K n (nI i) s) K (fun i => zk_sc I 80 (fun j => if j < i then I 82 (14 * k + j) else I 80 j)) 14 (fun n => ?_) (fun n i hi => ?_) 3000 0 (by omega) (by omega)
  · rw [← h0] at key
    exact key
  · simp only [l_X8_back_26, xlit]
    rw [if_pos (nI_le (a := 14) (Nat.le_refl _) (by decide))]
  · simp only [l_X8_back_26, xlit]
    rw [if_neg (nI_ge (b := 14) hi (by decide))]
    simp only [zk_sc_n I _ (show ¬ 82 = 80 by decide), xlit, pk_mul, nI_add, zck (zin (show 14 * k + i < 28 by omega) (by decide)), zck (zin (show i < 14 by omega) (by decide)), nI_clamp (show 14 * k + i < 2 ^ 31 by omega), nI_clamp (show i < 2 ^ 31 by omega), zk_lt, zk_sc_s]
    congr 1
    funext c
    by_cases hc : c = 80
    · subst hc
      rw [zk_sc_s, zk_sc_s]
      funext j
      by_cases hj : j = i
      · subst hj
        rw [pk_us, if_pos (by omega)]
      · rw [pk_un hj]
        by_cases h1 : j < i
        · rw [if_pos h1, if_pos (by omega)]
        · rw [if_neg h1, if_neg (by omega)]
    · rw [zk_sc_n _ _ hc, zk_sc_n _ _ hc, zk_sc_n _ _ hc]
theorem ks_or : ∀ k, k < 2 → ∀ ks, ks < 4 → ks ||| 2 ^ k < 4 := by decide +kernel
theorem nar1 : vp_nar .boolean (1 : Int32) = nI 1 := by decide +kernel
theorem o_keep {S : ST} (hw : wfS S) (a : Int32) : opS S (fun I => f_X7_keep I a) (fun I => f_X8_keep I a) := by
  have hw0 := hw
  obtain ⟨wt, hT, hD, hP, hK, hS⟩ := hw
  have hnb := hT.2.1
  rcases arg_cases a (n := 2) (by decide) with ha | ⟨k, hk, rfl⟩
  · refine opS.no hw0 (-2) (fun I hc => ?_) (fun I hm => ?_)
    · unfold f_X7_keep
      rcases ha with ha | ha
      · rw [if_pos ha]
      · by_cases h0 : a < 0
        · rw [if_pos h0]
        · rw [if_neg h0, if_neg (Int32.not_lt.mpr ha : ¬ a < (2 : Int32))]
    · simp only [f_X8_keep, zk_lt, in01 ha]
      rfl
  · refine ⟨(txS S, tdS S, ddS S, paS S, (fun q => if q = k then some (ddS S) else kpS S q), slS S), nI (dyD (ddS S)), ⟨wt, hT, hD, hP, fun q D hq h => ?_, hS⟩, fun I hc => ?_, fun I hm => ?_⟩
    · by_cases hqk : q = k
      · have h : (if q = k then some (ddS S) else kpS S q) = some D := h
        rw [if_pos hqk] at h
        cases h
        exact hD
      · have h : (if q = k then some (ddS S) else kpS S q) = some D := h
        rw [if_neg hqk] at h
        exact hK q D hq h
    · obtain ⟨ct, cT, cD, cP, ⟨ks, k1, k2, k3⟩, cS⟩ := hc
      obtain ⟨g1, g2⟩ := cpyD (t := 55 + 4 * k) (o := 16) hnb (by omega) cD
      have eq : f_X7_keep I (nI k) = (fun I5 : zk_I => some (I5 16 0, zk_sc I5 0 (upd (I5 0) 6 (I5 0 6 ||| nI (2 ^ k))))) (f_X1_copyFrom I (55 + 4 * k) 16) := by
        have xl : ((1 : Int32) <<< (nI k &&& 31)) = nI (2 ^ k) := by rw [xlit 1, xlit 31, xb_shl1 k (by omega)]
        unfold f_X7_keep
        rw [if_neg (nI_pos (by omega)), if_pos (lt2' k hk)]
        simp only [zck (zin hk (by decide)), nI_clamp (show k < 2 ^ 31 by omega), zk_lt, xl, zk_sc_n _ _ (show ¬ 16 = 0 by decide)]
      generalize f_X1_copyFrom I (55 + 4 * k) 16 = I5 at g1 g2 eq
      have f : ∀ q, q ≠ 0 → zk_sc I5 0 (upd (I5 0) 6 (I5 0 6 ||| nI (2 ^ k))) q = I5 q := fun q hq => zk_sc_n _ _ hq
      refine ⟨zk_sc I5 0 (upd (I5 0) 6 (I5 0 6 ||| nI (2 ^ k))), eq.trans ?_, ⟨ct.fr ?_ ?_, cT.fr ?_, cD.fr ?_, cP.fr ?_, ⟨ks ||| 2 ^ k, ks_or k hk ks k1, ?_, fun q hq => ⟨fun hn => ?_, fun D h => ?_⟩⟩, cS.fr ?_⟩, ?_⟩
      rotate_left
      · rw [f 1 (by omega), g2 1 (by omega)]
      · rw [f 2 (by omega), g2 2 (by omega)]
      · intro c h1 h2; rw [f c (by omega), g2 c (by omega)]
      · intro c h1 h2; rw [f c (by omega), g2 c (by omega)]
      · intro c h1 h2; rw [f c (by omega), g2 c (by omega)]
      · rw [zk_sc_s, pk_us, g2 0 (by omega), k2, xb_or]
      · have hn : (if q = k then some (ddS S) else kpS S q) = none := hn
        by_cases hqk : q = k
        · rw [if_pos hqk] at hn; cases hn
        · rw [if_neg hqk] at hn
          rw [Nat.testBit_or, (k3 q hq).1 hn, Nat.testBit_two_pow_of_ne (fun h => hqk h.symm)]
          rfl
      · have h : (if q = k then some (ddS S) else kpS S q) = some D := h
        by_cases hqk : q = k
        · rw [if_pos hqk] at h
          cases h
          subst hqk
          refine ⟨by rw [Nat.testBit_or, Nat.testBit_two_pow_self, Bool.or_true], g1.fr (fun c h1 h2 => f c (by omega))⟩
        · rw [if_neg hqk] at h
          refine ⟨by rw [Nat.testBit_or, ((k3 q hq).2 D h).1, Bool.true_or], ((k3 q hq).2 D h).2.fr (fun c h1 h2 => ?_)⟩
          rw [f c (by omega), g2 c (by omega)]
      · intro c h1 h2; rw [f c (by omega), g2 c (by omega)]
      · intro c h1; rw [f c (by omega), g2 c (by omega)]
      · show some (I5 16 0, _) = _
        rw [g2 16 (by omega), cD.1]
    · obtain ⟨mt, mT, mD, mP, mK, mS⟩ := hm
      have h83 : ∀ (f : Nat → Int32) (q : Nat), q ≠ 83 → q ≠ 82 → zk_sc (zk_sc I 82 f) 83 (upd (I 83) k (nI 1)) q = I q := fun f q h1 h2 => by rw [zk_sc_n _ _ h1, zk_sc_n _ _ h2]
      have eq : f_X8_keep I (nI k) = some (nI (dyD (ddS S)), zk_sc (zk_sc I 82 (fun j => if 14 * k ≤ j ∧ j < 14 * k + 14 then I 80 (j - 14 * k) else I 82 j)) 83 (upd (I 83) k (nI 1))) := by
        unfold f_X8_keep
        rw [in01' k hk, zlt, if_neg n10, x8_keep_l hk, nar1]
        simp only [zck (zin hk (by decide)), nI_clamp (show k < 2 ^ 31 by omega), zk_lt, zk_sc_n _ _ (show ¬ 80 = 83 by decide), zk_sc_n _ _ (show ¬ 80 = 82 by decide), zk_sc_n _ _ (show ¬ 83 = 82 by decide), mD.1]
      refine ⟨_, eq, ⟨mt.fr ?_ ?_, mT.fr ?_, mD.fr ?_, mP.fr ?_ ?_, fun q hq => ⟨fun hn => ?_, fun D h => ?_⟩, mS.fr ?_ ?_⟩, ?_⟩
      · rw [h83 _ 76 (by decide) (by decide)]
      · rw [h83 _ 77 (by decide) (by decide)]
      · rw [h83 _ 78 (by decide) (by decide)]
      · rw [h83 _ 80 (by decide) (by decide)]
      · rw [h83 _ 76 (by decide) (by decide)]
      · rw [h83 _ 81 (by decide) (by decide)]
      · have hn : (if q = k then some (ddS S) else kpS S q) = none := hn
        by_cases hqk : q = k
        · rw [if_pos hqk] at hn; cases hn
        · rw [if_neg hqk] at hn
          rw [zk_sc_s, pk_un hqk]
          exact (mK q hq).1 hn
      · have h : (if q = k then some (ddS S) else kpS S q) = some D := h
        by_cases hqk : q = k
        · rw [if_pos hqk] at h
          cases h
          subst hqk
          refine ⟨by rw [zk_sc_s, pk_us], ?_⟩
          unfold repDM
          simp only [zk_sc_n _ _ (show ¬ 82 = 83 by decide), zk_sc_s]
          obtain ⟨d1, d2, d3⟩ := mD
          rw [if_pos (by omega), if_pos (by omega), Nat.sub_self, show 14 * q + 1 - 14 * q = 0 + 1 by omega]
          refine ⟨d1, d2, fun b hb => ?_⟩
          have hb : b < nbT S.2.1 := hb
          rw [if_pos (by omega), if_pos (by omega), if_pos (by omega), show 14 * q + (2 + b) - 14 * q = 0 + (2 + b) by omega, show 14 * q + (6 + b) - 14 * q = 0 + (6 + b) by omega, show 14 * q + (10 + b) - 14 * q = 0 + (10 + b) by omega]
          exact d3 b hb
        · rw [if_neg hqk] at h
          obtain ⟨e1, d1, d2, d3⟩ := (mK q hq).2 D h
          refine ⟨by rw [zk_sc_s, pk_un hqk]; exact e1, ?_⟩
          unfold repDM
          simp only [zk_sc_n _ _ (show ¬ 82 = 83 by decide), zk_sc_s]
          rw [if_neg (by omega), if_neg (by omega)]
          refine ⟨d1, d2, fun b hb => ?_⟩
          have hb : b < nbT S.2.1 := hb
          rw [if_neg (by omega), if_neg (by omega), if_neg (by omega)]
          exact d3 b hb
      · rw [h83 _ 76 (by decide) (by decide)]
      · rw [h83 _ 84 (by decide) (by decide)]
      · intro c h1; exact h83 _ c (by omega) (by omega)
theorem o_back {S : ST} (hw : wfS S) (a : Int32) : opS S (fun I => f_X7_back I a) (fun I => f_X8_back I a) := by
  have hw0 := hw
  obtain ⟨wt, hT, hD, hP, hK, hS⟩ := hw
  have hnb := hT.2.1
  rcases arg_cases a (n := 2) (by decide) with ha | ⟨k, hk, rfl⟩
  · refine opS.no hw0 (-2) (fun I hc => ?_) (fun I hm => ?_)
    · unfold f_X7_back
      rcases ha with ha | ha
      · rw [if_pos ha]
      · by_cases h0 : a < 0
        · rw [if_pos h0]
        · rw [if_neg h0, if_neg (Int32.not_lt.mpr ha : ¬ a < (2 : Int32))]
    · simp only [f_X8_back, zk_lt, in01 ha]
      rfl
  · have C1 : ∀ I, invC S I → ∀ ks, ks < 4 → I 0 6 = nI ks → f_X7_back I (nI k) = if nI (if ks.testBit k then 1 else 0) = 0 then some ((-4 : Int32), I) else (fun I8 : zk_I => some (I8 16 0, zk_sc I8 20 (upd (I8 20) 0 (nI 0)))) (f_X1_copyFrom I 16 (55 + 4 * k)) := by
      intro I hc ks hks h6
      unfold f_X7_back f_X2_forget
      rw [if_neg (nI_pos (by omega)), if_pos (lt2' k hk)]
      simp only [zck (zin hk (by decide)), nI_clamp (show k < 2 ^ 31 by omega), zk_lt, h6, x_hasBit (show ks < 2 ^ 31 by omega) (show k < 32 by omega), zk_sc_n _ _ (show ¬ 16 = 20 by decide), ← xlit 0]
    have M1 : ∀ I, f_X8_back I (nI k) = if I 83 k = 0 then some ((-4 : Int32), I) else some ((if 0 < 14 then I 82 (14 * k + 0) else I 80 0), zk_sc (zk_sc I 80 (fun j => if j < 14 then I 82 (14 * k + j) else I 80 j)) 76 (upd (I 76) 6 (nI 0))) := by
      intro I
      unfold f_X8_back
      rw [in01' k hk, zlt, if_neg n10, zck (zin hk (by decide)), nI_clamp (show k < 2 ^ 31 by omega), x8_back_l hk]
      simp only [zk_lt, zk_sc_n _ _ (show ¬ 80 = 76 by decide), zk_sc_n _ _ (show ¬ 76 = 80 by decide), zk_sc_s, ← xlit 0]
    cases hkk : kpS S k with
    | none =>
      refine opS.no hw0 (-4) (fun I hc => ?_) (fun I hm => ?_)
      · obtain ⟨ks, k1, k2, k3⟩ := hc.2.2.2.2.1
        rw [C1 I hc ks k1 k2, (k3 k hk).1 hkk]
        rfl
      · rw [M1 I, (hm.2.2.2.2.1 k hk).1 hkk]
        rfl
    | some D =>
      refine ⟨(txS S, tdS S, D, (0, (paS S).2), kpS S, slS S), nI (dyD D), ⟨wt, hT, hK k D hk hkk, ⟨Nat.zero_le _, fun i hi => absurd hi (Nat.not_lt_zero _)⟩, hK, hS⟩, fun I hc => ?_, fun I hm => ?_⟩
      · have C2 := C1 I hc
        obtain ⟨ct, cT, cD, ⟨p1, nx, p2, p3, p4⟩, ⟨ks, k1, k2, k3⟩, cS⟩ := hc
        obtain ⟨b1, b2⟩ := (k3 k hk).2 D hkk
        have C3 := C2 ks k1 k2
        rw [b1, if_neg (by decide)] at C3
        obtain ⟨g1, g2⟩ := cpyD (t := 16) hnb (by omega) b2
        generalize f_X1_copyFrom I 16 (55 + 4 * k) = I5 at g1 g2 C3
        have f : ∀ q, q ≠ 20 → zk_sc I5 20 (upd (I5 20) 0 (nI 0)) q = I5 q := fun q hq => zk_sc_n _ _ hq
        refine ⟨zk_sc I5 20 (upd (I5 20) 0 (nI 0)), C3.trans ?_, ⟨ct.fr ?_ ?_, cT.fr ?_, g1.fr ?_, ⟨?_, nx, p2, ?_, fun i hi => absurd hi (Nat.not_lt_zero _)⟩, ⟨ks, k1, ?_, fun q hq => ⟨(k3 q hq).1, fun D h => ⟨((k3 q hq).2 D h).1, ((k3 q hq).2 D h).2.fr ?_⟩⟩⟩, cS.fr ?_⟩, ?_⟩
        rotate_left
        · rw [f 1 (by omega), g2 1 (by omega)]
        · rw [f 2 (by omega), g2 2 (by omega)]
        · intro c h1 h2; rw [f c (by omega), g2 c (by omega)]
        · intro c h1 h2; rw [f c (by omega)]
        · rw [zk_sc_s, pk_us]
        · rw [zk_sc_s, pk_un (by decide), g2 20 (by omega)]; exact p3
        · rw [f 0 (by omega), g2 0 (by omega)]; exact k2
        · intro c h1 h2; rw [f c (by omega), g2 c (by omega)]
        · intro c h1 h2; rw [f c (by omega), g2 c (by omega)]
        · intro c h1; rw [f c (by omega), g2 c (by omega)]
        · show some (I5 16 0, _) = _
          rw [g1.1]
      · obtain ⟨mt, mT, mD, mP, mK, mS⟩ := hm
        obtain ⟨e1, e2⟩ := (mK k hk).2 D hkk
        have M2 := M1 I
        rw [e1, if_neg (show ¬ nI 1 = 0 by decide), if_pos (by decide), Nat.add_zero, e2.1] at M2
        have f : ∀ (g h : Nat → Int32) q, q ≠ 80 → q ≠ 76 → zk_sc (zk_sc I 80 g) 76 h q = I q := fun g h q h1 h2 => by rw [zk_sc_n _ _ h2, zk_sc_n _ _ h1]
        refine ⟨_, M2, ⟨mt.fr ?_ ?_, mT.fr ?_, repDM_get hnb e2 ?_, ⟨?_, fun i hi => absurd hi (Nat.not_lt_zero _)⟩, mK.fr ?_ ?_, mS.fr ?_ ?_⟩, ?_⟩
        · rw [zk_sc_s, pk_un (by decide)]
        · rw [f _ _ 77 (by decide) (by decide)]
        · rw [f _ _ 78 (by decide) (by decide)]
        · intro j hj
          rw [zk_sc_n _ _ (by decide), zk_sc_s, if_pos hj]
        · rw [zk_sc_s, pk_us]
        · rw [f _ _ 83 (by decide) (by decide)]
        · rw [f _ _ 82 (by decide) (by decide)]
        · rw [zk_sc_s, pk_un (by decide)]
        · rw [f _ _ 84 (by decide) (by decide)]
        · intro c h1; exact f _ _ c (by omega) (by omega)
theorem o_burn {S : ST} (hw : wfS S) : opS S (fun I => f_X7_burn I) (fun I => f_X8_burn I) := by
  have hw0 := hw
  obtain ⟨wt, hT, hD, hP, hK, hS⟩ := hw
  refine ⟨(txS S, tdS S, ddS S, paS S, kpS S, (0, (slS S).2)), nI (slS S).1, ⟨wt, hT, hD, hP, hK, ⟨Nat.zero_le _, fun i hi => absurd hi (Nat.not_lt_zero _)⟩⟩, fun I hc => ?_, fun I hm => ?_⟩
  · obtain ⟨ct, cT, cD, cP, cK, cS⟩ := hc
    have f : ∀ g q, q ≠ 72 → zk_sc I 72 g q = I q := fun g q hq => zk_sc_n _ _ hq
    refine ⟨zk_sc I 72 (upd (I 72) 0 (nI 0)), ?_, ⟨ct.fr ?_ ?_, cT.fr ?_, cD.fr ?_, cP.fr ?_, cK.fr ?_ ?_, ⟨?_, fun i hi => absurd hi (Nat.not_lt_zero _)⟩⟩, keepM.sc _ (by decide)⟩
    · simp only [f_X7_burn, zk_lt, cS.1, xlit]
    · rw [f _ 1 (by omega)]
    · rw [f _ 2 (by omega)]
    · intro c h1 h2; exact f _ c (by omega)
    · intro c h1 h2; exact f _ c (by omega)
    · intro c h1 h2; exact f _ c (by omega)
    · rw [f _ 0 (by omega)]
    · intro c h1 h2; exact f _ c (by omega)
    · rw [zk_sc_s, pk_us]
  · obtain ⟨mt, mT, mD, mP, mK, mS⟩ := hm
    have f : ∀ g q, q ≠ 76 → zk_sc I 76 g q = I q := fun g q hq => zk_sc_n _ _ hq
    refine ⟨zk_sc I 76 (upd (I 76) 10 (nI 0)), ?_, ⟨mt.fr ?_ ?_, mT.fr ?_, mD.fr ?_, mP.fr ?_ ?_, mK.fr ?_ ?_, ⟨?_, fun i hi => absurd hi (Nat.not_lt_zero _)⟩⟩, keepC.sc _ (by decide)⟩
    · simp only [f_X8_burn, zk_lt, mS.1, xlit]
    · rw [zk_sc_s, pk_un (by decide)]
    · exact f _ _ (by omega)
    · exact f _ _ (by omega)
    · exact f _ _ (by omega)
    · rw [zk_sc_s, pk_un (by decide)]
    · exact f _ _ (by omega)
    · exact f _ _ (by omega)
    · exact f _ _ (by omega)
    · rw [zk_sc_s, pk_us]
theorem o_slip {S : ST} (hw : wfS S) (a b : Int32) : opS S (fun I => f_X7_slip I a b) (fun I => f_X8_slip I a b) := by
  have hw0 := hw
  obtain ⟨wt, hT, hD, hP, hK, hS⟩ := hw
  have hnr := hT.1
  have hs8 : (slS S).1 ≤ 8 := hS.1
  rcases arg_cases a (n := nrT S.2.1) (by omega) with ha | ⟨i, hi, rfl⟩
  · refine opS.no hw0 (-2) (fun I hc => ?_) (fun I hm => ?_)
    · simp only [f_X7_slip, zk_lt, x_hasR0 hc.2.1 ha]
      rfl
    · simp only [f_X8_slip, x8_isR0 hT hm.2.1 ha, zbd1]
      rfl
  · rcases arg_cases b (n := nrT S.2.1) (by omega) with hb | ⟨j, hj, rfl⟩
    · refine opS.no hw0 (-2) (fun I hc => ?_) (fun I hm => ?_)
      · simp only [f_X7_slip, zk_lt, x_hasR1 hT hc.2.1 hi, if_neg n10, x_hasR0 hc.2.1 hb]
        rfl
      · simp only [f_X8_slip, x8_isR1 hT hm.2.1 hi, x8_isR0 hT hm.2.1 hb, zbd1, if_neg n10]
        rfl
    · by_cases hij : i = j
      · subst hij
        refine opS.no hw0 (-2) (fun I hc => ?_) (fun I hm => ?_)
        · simp only [f_X7_slip, zk_lt, x_hasR1 hT hc.2.1 hi, if_neg n10, if_true]
        · simp only [f_X8_slip, x8_isR1 hT hm.2.1 hi, zbd1, if_neg n10, if_true]
      · have hne : ¬ nI i = nI j := fun q => hij (xl_inj (by omega) (by omega) q)
        by_cases hf : (slS S).1 = 8
        · refine opS.no hw0 (-5) (fun I hc => ?_) (fun I hm => ?_)
          · have e : ¬ I 72 0 < (8 : Int32) := by rw [hc.2.2.2.2.2.1, hf]; decide
            simp only [f_X7_slip, zk_lt, x_hasR1 hT hc.2.1 hi, x_hasR1 hT hc.2.1 hj, if_neg n10, if_neg hne, f_X4_add, if_neg e, zbd2]
            rfl
          · have e : I 76 10 = (8 : Int32) := by rw [hm.2.2.2.2.2.1, hf]; rfl
            simp only [f_X8_slip, x8_isR1 hT hm.2.1 hi, x8_isR1 hT hm.2.1 hj, zbd1, if_neg n10, if_neg hne, if_pos e]
        · refine ⟨(txS S, tdS S, ddS S, paS S, kpS S, ((slS S).1 + 1, (fun q => if q = (slS S).1 then i else (slS S).2.1 q), fun q => if q = (slS S).1 then j else (slS S).2.2 q)), nI ((slS S).1 + 1), ⟨wt, hT, hD, hP, hK, ⟨show (slS S).1 + 1 ≤ 8 by omega, fun q hq => ?_⟩⟩, fun I hc => ?_, fun I hm => ?_⟩
          · have hq : q < (slS S).1 + 1 := hq
            show (if q = (slS S).1 then i else (slS S).2.1 q) < _ ∧ (if q = (slS S).1 then j else (slS S).2.2 q) < _ ∧ (if q = (slS S).1 then i else (slS S).2.1 q) ≠ (if q = (slS S).1 then j else (slS S).2.2 q)
            by_cases hqs : q = (slS S).1
            · rw [if_pos hqs, if_pos hqs]; exact ⟨hi, hj, hij⟩
            · rw [if_neg hqs, if_neg hqs]; exact hS.2 q (show q < (slS S).1 by omega)
          · obtain ⟨ct, cT, cD, cP, cK, s1, s2⟩ := hc
            have s1' : I 72 0 = nI (slS S).1 := s1
            have e : nI (slS S).1 < (8 : Int32) := nI_lt (b := 8) (by omega) (by decide)
            have z : zk_in (nI (slS S).1) 8 = true := zin (show (slS S).1 < 8 by omega) (by decide)
            have f : ∀ g h k q, q ≠ 72 → q ≠ 73 → q ≠ 74 → zk_sc (zk_sc (zk_sc I 73 g) 74 h) 72 k q = I q := fun g h k q h1 h2 h3 => by rw [zk_sc_n _ _ h1, zk_sc_n _ _ h3, zk_sc_n _ _ h2]
            refine ⟨zk_sc (zk_sc (zk_sc I 73 (upd (I 73) (slS S).1 (nI i))) 74 (upd (I 74) (slS S).1 (nI j))) 72 (upd (I 72) 0 (nI ((slS S).1 + 1))), ?_, ⟨ct.fr ?_ ?_, cT.fr ?_, cD.fr ?_, cP.fr ?_, cK.fr ?_ ?_, ⟨?_, fun q hq => ?_⟩⟩, ?_⟩
            · simp only [f_X7_slip, zk_lt, x_hasR1 hT cT hi, x_hasR1 hT cT hj, if_neg n10, if_neg hne, f_X4_add, if_pos e, s1', zck z, nI_clamp (show (slS S).1 < 2 ^ 31 by omega), zk_sc_n _ _ (show ¬ 72 = 73 by decide), zk_sc_n _ _ (show ¬ 72 = 74 by decide), zk_sc_n _ _ (show ¬ 74 = 73 by decide), zk_sc_s, pk_us, zbd2, nI_1]
            · rw [f _ _ _ 1 (by omega) (by omega) (by omega)]
            · rw [f _ _ _ 2 (by omega) (by omega) (by omega)]
            · intro c h1 h2; exact f _ _ _ c (by omega) (by omega) (by omega)
            · intro c h1 h2; exact f _ _ _ c (by omega) (by omega) (by omega)
            · intro c h1 h2; exact f _ _ _ c (by omega) (by omega) (by omega)
            · rw [f _ _ _ 0 (by omega) (by omega) (by omega)]
            · intro c h1 h2; exact f _ _ _ c (by omega) (by omega) (by omega)
            · rw [zk_sc_s, pk_us]
            · have hq : q < (slS S).1 + 1 := hq
              rw [zk_sc_n _ _ (by decide), zk_sc_n _ _ (by decide), zk_sc_s, zk_sc_n _ _ (by decide), zk_sc_s]
              show _ = nI (if q = (slS S).1 then i else (slS S).2.1 q) ∧ _ = nI (if q = (slS S).1 then j else (slS S).2.2 q)
              by_cases hqs : q = (slS S).1
              · rw [if_pos hqs, if_pos hqs, hqs, pk_us, pk_us]; exact ⟨rfl, rfl⟩
              · rw [if_neg hqs, if_neg hqs, pk_un hqs, pk_un hqs]; exact s2 q (show q < (slS S).1 by omega)
            · intro c h1; exact f _ _ _ c (by omega) (by omega) (by omega)
          · obtain ⟨mt, mT, mD, mP, mK, s1, s2⟩ := hm
            have s1' : I 76 10 = nI (slS S).1 := s1
            have e : ¬ nI (slS S).1 = (8 : Int32) := fun q => hf (xl_inj (by omega) (by decide) (b := 8) q)
            have z : zk_in (nI (slS S).1) 8 = true := zin (show (slS S).1 < 8 by omega) (by decide)
            have e8 : (8 : Int32) * nI i + nI j = nI (8 * i + j) := by rw [xlit 8, pk_mul, nI_add]
            have f : ∀ g h q, q ≠ 84 → q ≠ 76 → zk_sc (zk_sc I 84 g) 76 h q = I q := fun g h q h1 h2 => by rw [zk_sc_n _ _ h2, zk_sc_n _ _ h1]
            refine ⟨zk_sc (zk_sc I 84 (upd (I 84) (slS S).1 (nI (8 * i + j)))) 76 (upd (I 76) 10 (nI ((slS S).1 + 1))), ?_, ⟨mt.fr ?_ ?_, mT.fr ?_, mD.fr ?_, mP.fr ?_ ?_, mK.fr ?_ ?_, ⟨?_, fun q hq => ?_⟩⟩, ?_⟩
            · simp only [f_X8_slip, x8_isR1 hT mT hi, x8_isR1 hT mT hj, zbd1, if_neg n10, if_neg hne, if_neg e, s1', zck z, nI_clamp (show (slS S).1 < 2 ^ 31 by omega), e8, zk_lt, zk_sc_n _ _ (show ¬ 76 = 84 by decide), zk_sc_s, pk_us, nI_1]
            · rw [zk_sc_s, pk_un (by decide)]
            · exact f _ _ _ (by omega) (by omega)
            · exact f _ _ _ (by omega) (by omega)
            · exact f _ _ _ (by omega) (by omega)
            · rw [zk_sc_s, pk_un (by decide)]
            · exact f _ _ _ (by omega) (by omega)
            · exact f _ _ _ (by omega) (by omega)
            · exact f _ _ _ (by omega) (by omega)
            · rw [zk_sc_s, pk_us]
            · have hq : q < (slS S).1 + 1 := hq
              rw [zk_sc_n _ _ (by decide), zk_sc_s]
              show _ = nI (8 * (if q = (slS S).1 then i else (slS S).2.1 q) + (if q = (slS S).1 then j else (slS S).2.2 q))
              by_cases hqs : q = (slS S).1
              · rw [if_pos hqs, if_pos hqs, hqs, pk_us]
              · rw [if_neg hqs, if_neg hqs, pk_un hqs]; exact s2 q (show q < (slS S).1 by omega)
            · intro c h1; exact f _ _ c (by omega) (by omega)
/-! count -/
def sm (f : Nat → Nat) : Nat → Nat
  | 0 => 0
  | n + 1 => sm f n + f n
theorem nmD_sm (T : TD) (D : DD) : ∀ n, nmD T D n = sm (fun b => pc (haD D b) - 1) n
  | 0 => rfl
  | n + 1 => by unfold nmD sm; rw [nmD_sm T D n]
theorem x_feud {T : TD} {I : zk_I} (hw : wfT T) (hr : repC T I 3) : f_X6_feudPairs I 3 = some (nI (sm (fun r => pc (fdT T r)) (nrT T)) / nI 2) := by
  have hn := hw.1
  unfold f_X6_feudPairs
  have key := zl_up (fun n i (s : Nat) => l_X6_feudPairs_4 I 3 (fun (z5 : Int32) => some (z5 / (2 : Int32))) n (nI s) (nI i)) (fun s => some (nI s / nI 2)) (fun i => sm (fun r => pc (fdT T r)) i) (nrT T) (fun n => ?_) (fun n i hi => ?_) 3000 0 (by omega) (by omega)
  · exact key
  · simp only [l_X6_feudPairs_4, hr.1]
    rw [if_pos (nI_le (Nat.le_refl _) (by omega)), xlit 2]
  · simp only [l_X6_feudPairs_4, hr.1]
    rw [if_neg (nI_ge hi (by omega))]
    have := (hr.2.2.1 i hi).2.2.1
    simp only [zck (zin (show i < 8 by omega) (by decide)), nI_clamp (show i < 2 ^ 31 by omega), zk_lt, this, pc_bits _ (hw.2.2.1 i hi).2.2.1, nI_1, nI_add, sm]
theorem x_namings {T : TD} {D : DD} {I : zk_I} (hw : wfT T) (hd : wfD T D) (hr : repC T I 3) (hD : repDC T D I 16) : f_X7_namings I = some (nI (nmD T D (nbT T))) := by
  have hn := hw.2.1
  unfold f_X7_namings
  have key := zl_up (fun n i (s : Nat) => l_X7_namings_4 I (fun (z5 : Int32) => some z5) n (nI s) (nI i)) (fun s => some (nI s)) (fun i => nmD T D i) (nbT T) (fun n => ?_) (fun n i hi => ?_) 3000 0 (by omega) (by omega)
  · exact key
  · simp only [l_X7_namings_4, hr.2.1]
    rw [if_pos (nI_le (Nat.le_refl _) (by omega))]
  · simp only [l_X7_namings_4, hr.2.1]
    rw [if_neg (nI_ge hi (by omega))]
    have h1 := (hD.2 i hi).2.1
    have hp : 1 ≤ pc (haD D i) := pc_pos _ (had_lt hw hd hi) _ (show hoD D i < 8 by have := (hd.2 i hi).1; have := hw.1; omega) (hd.2 i hi).2.2.1
    simp only [zck (zin (show i < 4 by omega) (by decide)), nI_clamp (show i < 2 ^ 31 by omega), zk_lt, h1, pc_bits _ (had_lt hw hd hi), nI_1, xlit, nI_sub hp, nI_add, nmD]
theorem x_walls {T : TD} {D : DD} {I : zk_I} (hw : wfT T) (hd : wfD T D) (hr : repC T I 3) (hD : repDC T D I 16) : f_X7_walledBooks I = some (nI (mk (fun b => decide (nowN T D b = 0)) (nbT T))) := by
  have hn := hw.2.1
  unfold f_X7_walledBooks
  have key := zl_up (fun n i (s : Nat) => l_X7_walledBooks_4 I (fun (z5 : Int32) => some z5) n (nI s) (nI i)) (fun s => some (nI s)) (fun i => mk (fun b => decide (nowN T D b = 0)) i) (nbT T) (fun n => ?_) (fun n i hi => ?_) 3000 0 (by omega) (by omega)
  · exact key
  · simp only [l_X7_walledBooks_4, hr.2.1]
    rw [if_pos (nI_le (Nat.le_refl _) (by omega))]
  · simp only [l_X7_walledBooks_4, hr.2.1]
    have hlt := nowN_lt hw D i
    have e0 : (nI (nowN T D i) = (0 : Int32)) = (nowN T D i = 0) := propext ⟨fun q => (nI_eq (show nowN T D i < 2 ^ 31 by omega) (show 0 < 2 ^ 31 by decide)).mp q, fun q => congrArg nI q⟩
    rw [if_neg (nI_ge hi (by omega)), x_now hw hd hr hD hi]
    simp only [zbd1, zk_jp1, zk_lt, nI_1, e0]
    rw [mk_succ]
    by_cases h0 : nowN T D i = 0
    · rw [if_pos h0, xlit 1, xlit 31, xb_shl1 i (by omega), xb_or]
      simp only [h0, decide_true, if_true]
    · rw [if_neg h0]
      simp only [h0, decide_false, Bool.false_eq_true, if_false, Nat.or_zero]
theorem x8_feud {T : TD} {I : zk_I} (hw : wfT T) (hr : repM T I 78) (a : Int32) (K : Int32 → Option Int32) : l_X8_count_17 I a K 3000 0 0 = K (nI (sm (fun r => pc (fdT T r)) (nrT T))) := by
  have hn := hw.1
  have key := zl_up (fun n i (s : Nat) => l_X8_count_17 I a K n (nI s) (nI i)) (fun s => K (nI s)) (fun i => sm (fun r => pc (fdT T r)) i) (nrT T) (fun n => ?_) (fun n i hi => ?_) 3000 0 (by omega) (by omega)
  · exact key
  · simp only [l_X8_count_17, hr.1]
    rw [if_pos (nI_le (Nat.le_refl _) (by omega))]
  · simp only [l_X8_count_17, hr.1]
    rw [if_neg (nI_ge hi (by omega))]
    have := (hr.2.2.1 i hi).2.2.1
    simp only [xlit, nI_add, zck (zin (show 18 + i < 38 by omega) (by decide)), nI_clamp (show 18 + i < 2 ^ 31 by omega), this, pc_ones _ (hw.2.2.1 i hi).2.2.1, zbd1, sm]
theorem x8_walls {T : TD} {D : DD} {I : zk_I} (hw : wfT T) (hd : wfD T D) (hr : repM T I 78) (hD : repDM T D I 80 0) (a b : Int32) (K : Int32 → Option Int32) : l_X8_count_53 I a b K 3000 0 0 = K (nI (mk (fun b => decide (nowN T D b = 0)) (nbT T))) := by
  have hn := hw.2.1
  have key := zl_up (fun n i (s : Nat) => l_X8_count_53 I a b K n (nI s) (nI i)) (fun s => K (nI s)) (fun i => mk (fun b => decide (nowN T D b = 0)) i) (nbT T) (fun n => ?_) (fun n i hi => ?_) 3000 0 (by omega) (by omega)
  · exact key
  · simp only [l_X8_count_53, hr.2.1]
    rw [if_pos (nI_le (Nat.le_refl _) (by omega))]
  · simp only [l_X8_count_53, hr.2.1]
    rw [if_neg (nI_ge hi (by omega)), x8_now hw hd hr hD hi]
    have hl := nowN_lt hw D i
    simp only [zbd1, zk_lt, nI_1]
    rw [mk_succ]
    by_cases h0 : nowN T D i = 0
    · rw [h0, if_pos (show nI 0 = 0 by decide), xlit 1, xlit 31, xb_shl1 i (by omega), xb_or]
      simp only [decide_true, if_true]
    · have hz : ¬ nI (nowN T D i) = (0 : Int32) := fun q => h0 (xl_inj (b := 0) (by omega) (by decide) q)
      rw [if_neg hz, xlit 0, xb_or]
      simp only [h0, decide_false, Bool.false_eq_true, if_false]
theorem cnt_cases (a : Int32) : a = 0 ∨ a = 1 ∨ a = 2 ∨ a = 3 ∨ a = 4 ∨ a = 5 ∨ a = 6 ∨ a = 7 ∨ a = 8 ∨ (¬ a = 0 ∧ ¬ a = 1 ∧ ¬ a = 2 ∧ ¬ a = 3 ∧ ¬ a = 4 ∧ ¬ a = 5 ∧ ¬ a = 6 ∧ ¬ a = 7 ∧ ¬ a = 8 ∧ (a < 0 ∨ (8 : Int32) < a)) := by
  rcases arg_cases a (n := 9) (by decide) with h | ⟨j, hj, rfl⟩
  · have h' : a < 0 ∨ (8 : Int32) < a := by
      rcases h with h | h
      · exact Or.inl h
      · right
        have e : (8 : Int32) = nI 9 - nI 1 := by decide
        rw [e]
        exact (nI_m1_lt (by decide) a).mpr h
    have hn : ∀ c : Int32, ¬ (c < 0 ∨ (8 : Int32) < c) → ¬ a = c := fun c hc e => hc (e ▸ h')
    exact Or.inr (Or.inr (Or.inr (Or.inr (Or.inr (Or.inr (Or.inr (Or.inr (Or.inr ⟨hn 0 (by decide), hn 1 (by decide), hn 2 (by decide), hn 3 (by decide), hn 4 (by decide), hn 5 (by decide), hn 6 (by decide), hn 7 (by decide), hn 8 (by decide), h'⟩))))))))
  · have : j = 0 ∨ j = 1 ∨ j = 2 ∨ j = 3 ∨ j = 4 ∨ j = 5 ∨ j = 6 ∨ j = 7 ∨ j = 8 := by omega
    rcases this with h | h | h | h | h | h | h | h | h <;> subst h <;> decide
theorem o_count {S : ST} {I : zk_I} (h : inv S I) (a : Int32) : ∃ r, f_X7_count I a = some r ∧ f_X8_count I a = some r := by
  obtain ⟨⟨-, hT, hD, -⟩, ⟨ct, cT, cD, cP, cK, cS⟩, ⟨mt, mT, mD, mP, mK, mS⟩⟩ := h
  have e8 : ∀ a : Int32, ¬ (a < 0 ∨ (8 : Int32) < a) → f_X8_count I a = (if a = (0 : Int32) then some (I 78 0) else if a = (1 : Int32) then some (I 78 1) else if a = (2 : Int32) then some (I 80 0) else if a = (3 : Int32) then some (nI (sm (fun r => pc (fdT S.2.1 r)) (nrT S.2.1)) / nI 2) else if a = (4 : Int32) then some (nI (mk (fun b => decide (nowN S.2.1 S.2.2.1 b = 0)) (nbT S.2.1))) else if a = (5 : Int32) then some (I 76 10) else if a = (6 : Int32) then some (I 80 1) else if a = (7 : Int32) then some (I 76 6) else some (I 76 1)) := by
    intro a ha
    unfold f_X8_count
    rw [x8_in, if_neg ha, zlt, if_neg n10, x8_feud hT mT, x8_walls hT hD mT mD, xlit 2]
  unfold f_X7_count
  rcases cnt_cases a with h | h | h | h | h | h | h | h | h | ⟨h0, h1, h2, h3, h4, h5, h6, h7, h8, h9⟩
  · subst h; exact ⟨_, rfl, by rw [e8 _ (by decide), if_pos rfl, mT.1, cT.1]⟩
  · subst h; exact ⟨_, rfl, by rw [e8 _ (by decide), if_neg (by decide), if_pos rfl, mT.2.1, cT.2.1]⟩
  · subst h; exact ⟨_, rfl, by rw [e8 _ (by decide), if_neg (by decide), if_neg (by decide), if_pos rfl, mD.1, cD.1]⟩
  · subst h
    rw [x_feud hT cT, e8 _ (by decide)]
    exact ⟨_, rfl, rfl⟩
  · subst h
    rw [x_walls hT hD cT cD, e8 _ (by decide)]
    exact ⟨_, rfl, rfl⟩
  · subst h
    rw [e8 _ (by decide), cS.1, mS.1]
    exact ⟨_, rfl, rfl⟩
  · subst h
    have : I 80 1 = nI (nmD S.2.1 S.2.2.1 (nbT S.2.1)) := mD.2.1
    rw [x_namings hT hD cT cD, e8 _ (by decide), this]
    exact ⟨_, rfl, rfl⟩
  · subst h
    rw [e8 _ (by decide), cP.1, mP.1]
    exact ⟨_, rfl, rfl⟩
  · subst h
    rw [e8 _ (by decide), ct.1, mt.1]
    exact ⟨_, rfl, rfl⟩
  · refine ⟨_, by rw [if_neg h0, if_neg h1, if_neg h2, if_neg h3, if_neg h4, if_neg h5, if_neg h6, if_neg h7, if_neg h8], ?_⟩
    unfold f_X8_count
    rw [x8_in, if_pos h9, zlt]
    rfl

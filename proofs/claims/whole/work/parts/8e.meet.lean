/-! meet -/
theorem x8_ho10 {T : TD} {D : DD} {I : zk_I} {J : zk_J} {b nn : Nat} (hT : wfT T) (hD : wfD T D) (hd : repDM T D I 80 0) (hb : b < nbT T) (hn8 : nn < 8) (hJ : odC T J (odA T (dyD D) (haD D b) (hoD D b) 2048)) (K : Int32 → Option (Int32 × zk_J)) : ∀ m i n mm, i + m = 2048 → m < n → mm < 256 → (∀ w, w < 8 → (mm.testBit w = true ↔ ∃ k, k < i ∧ odA T (dyD D) (haD D b) (hoD D b) 2048 k ≠ 0 ∧ pc (k / 8) = pc (haD D b) + nn ∧ k % 8 = w)) → ∃ m2, m2 < 256 ∧ l_X8_holders_10 I J (nI b) (nI nn) K n (nI mm) (nI i) = K (nI m2) ∧ ∀ w, w < 8 → (m2.testBit w = true ↔ ∃ k, k < 2048 ∧ odA T (dyD D) (haD D b) (hoD D b) 2048 k ≠ 0 ∧ pc (k / 8) = pc (haD D b) + nn ∧ k % 8 = w) := by
  have hnr := hT.1
  have hnb := hT.2.1
  have hpw := pow_le8 hnr
  have hh := had_lt hT hD hb
  obtain ⟨d1, d2, -⟩ := hd.2.2 b hb
  rw [Nat.zero_add] at d2
  have e6 : (6 : Int32) + nI b = nI (6 + b) := by rw [xlit 6, nI_add]
  intro m
  induction m with
  | zero =>
    intro i n mm hi hn hm hP
    obtain ⟨n, rfl⟩ : ∃ k, n = k + 1 := ⟨n - 1, by omega⟩
    have : i = 2048 := by omega
    subst this
    exact ⟨mm, hm, by rw [l_X8_holders_10, if_pos (show (2048 : Int32) ≤ nI 2048 by decide)], hP⟩
  | succ m ih =>
    intro i n mm hi hn hm hP
    obtain ⟨n, rfl⟩ : ∃ k, n = k + 1 := ⟨n - 1, by omega⟩
    have hbd := od_bd hT hD hb (k := 2048) (p := i) (Nat.le_refl _) (by omega)
    have hL := odL_pos hT i
    have hdiv : nI i / (8 : Int32) = nI (i / 8) := by rw [xlit 8, pk_div (by omega) (by decide) (by decide)]
    have hrem : nI i - nI (i / 8) * (8 : Int32) = nI (i % 8) := by
      rw [xlit 8, pk_mul, nI_sub (by omega), show i - i / 8 * 8 = i % 8 by omega]
    have z0 : ∀ a : Nat, nI a ||| (0 : Int32) = nI a := fun a => by rw [show (0 : Int32) = nI 0 from rfl, xb_or, Nat.or_zero]
    rw [l_X8_holders_10, if_neg (show ¬ (2048 : Int32) ≤ nI i from nI_ge (b := 2048) (by omega) (by decide)), zck (zin (show i < 2048 by omega) (by decide)), zjp1, zjp0, nI_clamp (show i < 2 ^ 31 by omega), hJ i (by omega), hdiv, hrem, nI_1]
    have keep : (¬ (odA T (dyD D) (haD D b) (hoD D b) 2048 i ≠ 0 ∧ pc (i / 8) = pc (haD D b) + nn)) → ∃ m2, m2 < 256 ∧ l_X8_holders_10 I J (nI b) (nI nn) K n (nI mm ||| 0) (nI (i + 1)) = K (nI m2) ∧ ∀ w, w < 8 → (m2.testBit w = true ↔ ∃ k, k < 2048 ∧ odA T (dyD D) (haD D b) (hoD D b) 2048 k ≠ 0 ∧ pc (k / 8) = pc (haD D b) + nn ∧ k % 8 = w) := by
      intro hno
      rw [z0]
      refine ih (i + 1) n mm (by omega) (by omega) hm (fun w hw => (hP w hw).trans ?_)
      constructor
      · rintro ⟨k, k1, k2⟩
        exact ⟨k, by omega, k2⟩
      · rintro ⟨k, k1, k2, k3, k4⟩
        by_cases he : k = i
        · subst he; exact absurd ⟨k2, k3⟩ hno
        · exact ⟨k, by omega, k2, k3, k4⟩
    by_cases h0 : odA T (dyD D) (haD D b) (hoD D b) 2048 i = 0
    · rw [if_pos ((cmp_le0 (by omega)).mpr (by rw [h0, Nat.mul_zero]))]
      exact keep (fun q => q.1 h0)
    · have hpos : ¬ odL T i * odA T (dyD D) (haD D b) (hoD D b) 2048 i = 0 := by
        intro q
        rcases Nat.mul_eq_zero.mp q with q | q
        · omega
        · exact h0 q
      have hst := od_sup hT hD hb (Nat.le_refl _) h0
      obtain ⟨p1, p2, p3⟩ := st_pc hT hst
      have hmo := pc_mono (isSt_sub hst.2.2).1
      rw [if_neg (fun q => hpos ((cmp_le0 (by omega)).mp q)), pc_ones _ p3, zbd1, e6, zck (zin (show 6 + b < 14 by omega) (by decide)), nI_clamp (show 6 + b < 2 ^ 31 by omega), d2, pc_ones _ hh, zbd1, nI_sub hmo]
      by_cases he : pc (i / 8) = pc (haD D b) + nn
      · rw [if_pos (show nI (pc (i / 8) - pc (haD D b)) = nI nn by rw [he, Nat.add_sub_cancel_left]), sh1 (show i % 8 < 8 by omega)]
        dsimp only
        rw [xb_or]
        refine ih (i + 1) n _ (by omega) (by omega) (or_lt hm (p2_lt8 (by omega))) (fun w hw => ?_)
        rw [Nat.testBit_or, Bool.or_eq_true, hP w hw, Nat.testBit_two_pow, decide_eq_true_eq]
        constructor
        · rintro (⟨k, k1, k2⟩ | q)
          · exact ⟨k, by omega, k2⟩
          · exact ⟨i, by omega, h0, he, q⟩
        · rintro ⟨k, k1, k2, k3, k4⟩
          by_cases hki : k = i
          · subst hki; exact Or.inr k4
          · exact Or.inl ⟨k, by omega, k2, k3, k4⟩
      · rw [if_neg (fun q => by
          have := xl_inj (show pc (i / 8) - pc (haD D b) < 2 ^ 31 by omega) (by omega) q
          omega)]
        exact keep (fun q => he q.2)
theorem x8_holders {T : TD} {D : DD} {I : zk_I} {J : zk_J} {b nn : Nat} (hT : wfT T) (hD : wfD T D) (hr : repM T I 78) (hd : repDM T D I 80 0) (hb : b < nbT T) (hn8 : nn < 8) : ∃ m J2, m < 256 ∧ f_X8_holders I J (nI b) (nI nn) = some (nI m, J2) ∧ ∀ w, w < 8 → (m.testBit w = true ↔ fpQ T D b (2 ^ nrT T) nn w) := by
  have hnr := hT.1
  have hpw := pow_le8 hnr
  obtain ⟨J2, a1, a2⟩ := x8_laysOdds (J := J) hT hD hr hd hb
  obtain ⟨m2, m3, m4, m5⟩ := x8_ho10 (I := I) hT hD hd hb hn8 a2 (fun (z15 : Int32) => some (z15, J2)) 2048 0 3000 0 (by omega) (by omega) (by decide) (fun w hw => by
    rw [Nat.zero_testBit]
    constructor
    · intro q; cases q
    · rintro ⟨k, k1, -⟩; exact absurd k1 (Nat.not_lt_zero _))
  refine ⟨m2, J2, m3, ?_, fun w hw => (m5 w hw).trans ?_⟩
  · unfold f_X8_holders
    rw [a1, zbd1]
    exact m4
  · constructor
    · rintro ⟨k, k1, k2, k3, k4⟩
      have hst := od_sup hT hD hb (Nat.le_refl _) k2
      refine ⟨k / 8, hst.1, ?_, k3⟩
      unfold Rch
      rw [← k4, show 8 * (k / 8) + k % 8 = k by omega]
      exact k2
    · rintro ⟨s, s1, s2, s3⟩
      exact ⟨8 * s + w, by omega, s2, by rw [show (8 * s + w) / 8 = s by omega]; exact s3, by omega⟩
def meP (T : TD) (D : DD) (b b2 n : Nat) : Prop := ∃ w, w < 8 ∧ fpQ T D b (2 ^ nrT T) n w ∧ fpQ T D b2 (2 ^ nrT T) n w
noncomputable def meB (T : TD) (D : DD) (b b2 n : Nat) : Bool := @decide (meP T D b b2 n) (Classical.propDecidable _)
theorem meB_t {T : TD} {D : DD} {b b2 n : Nat} : meB T D b b2 n = true ↔ meP T D b b2 n := @decide_eq_true_iff (meP T D b b2 n) (Classical.propDecidable _)
theorem and_meP {T : TD} {D : DD} {b b2 n m1 m2 : Nat} (h1 : m1 < 256) (e1 : ∀ w, w < 8 → (m1.testBit w = true ↔ fpQ T D b (2 ^ nrT T) n w)) (e2 : ∀ w, w < 8 → (m2.testBit w = true ↔ fpQ T D b2 (2 ^ nrT T) n w)) {α : Type} (X Y : α) : (if nI m1 &&& nI m2 = (0 : Int32) then X else Y) = if meB T D b b2 n then Y else X := by
  have hlt := and_lt (b := m2) h1
  rw [xb_and]
  by_cases h0 : m1 &&& m2 = 0
  · have : meB T D b b2 n = false := by
      cases hm : meB T D b b2 n
      · rfl
      · obtain ⟨w, w1, w2, w3⟩ := meB_t.mp hm
        have : (m1 &&& m2).testBit w = true := by rw [Nat.testBit_and, (e1 w w1).mpr w2, (e2 w w1).mpr w3]; rfl
        rw [h0, Nat.zero_testBit] at this
        cases this
    rw [this, h0, if_pos (show nI 0 = (0 : Int32) from rfl), if_neg (by decide)]
  · obtain ⟨w, w1, w2⟩ := bit_ex _ hlt h0
    rw [Nat.testBit_and, Bool.and_eq_true] at w2
    have : meB T D b b2 n = true := meB_t.mpr ⟨w, w1, (e1 w w1).mp w2.1, (e2 w w1).mp w2.2⟩
    rw [this, if_neg (nz0 (by omega) h0), if_pos rfl]
theorem up_loopG {β : Type} (F : Nat → Int32 → β) (g : Int32 → β) (p : Nat → Bool) (N : Nat) (h0 : ∀ n, F (n + 1) (nI N) = g (-1)) (hs : ∀ n i, i < N → F (n + 1) (nI i) = if p i then g (nI i) else F n (nI (i + 1))) : ∀ m i n, i + m = N → m < n → (∀ y, y < i → p y = false) → ∃ r, F n (nI i) = g r ∧ LST p N r := by
  intro m
  induction m with
  | zero =>
    intro i n hi hn hp
    obtain ⟨n, rfl⟩ : ∃ k, n = k + 1 := ⟨n - 1, by omega⟩
    have : i = N := by omega
    subst this
    exact ⟨_, h0 n, Or.inr ⟨hp, rfl⟩⟩
  | succ m ih =>
    intro i n hi hn hp
    obtain ⟨n, rfl⟩ : ∃ k, n = k + 1 := ⟨n - 1, by omega⟩
    rw [hs n i (by omega)]
    cases hb : p i
    · rw [if_neg (by decide)]
      refine ih (i + 1) n (by omega) (by omega) (fun y hy => ?_)
      by_cases he : y = i
      · subst he; exact hb
      · exact hp y (by omega)
    · rw [if_pos rfl]
      exact ⟨_, rfl, Or.inl ⟨i, by omega, hb, hp, rfl⟩⟩
theorem x_meet64 {T : TD} {D : DD} {I : zk_I} {b b2 : Nat} (h70 : reS I 70 8 (fpQ T D b (2 ^ nrT T))) (h71 : reS I 71 8 (fpQ T D b2 (2 ^ nrT T))) : ∃ r, l_X7_meet_64 I (some ((-1 : Int32), I)) 3000 0 = some (r, I) ∧ LST (meB T D b b2) 8 r := by
  refine up_loopG (fun n y => l_X7_meet_64 I (some ((-1 : Int32), I)) n y) (fun r => some (r, I)) (meB T D b b2) 8 (fun n => ?_) (fun n i hi => ?_) 8 0 3000 (by omega) (by omega) (fun y hy => absurd hy (Nat.not_lt_zero _))
  · rw [l_X7_meet_64, if_pos (show (8 : Int32) ≤ nI 8 by decide)]
  · obtain ⟨m1, a1, a2, a3⟩ := h70 i hi
    obtain ⟨m2, c1, c2, c3⟩ := h71 i hi
    rw [l_X7_meet_64, if_neg (show ¬ (8 : Int32) ≤ nI i from nI_ge (b := 8) hi (by decide)), zck (zin hi (by decide)), zck (zin hi (by decide)), nI_clamp (by omega), a2, c2, and_meP a1 a3 c3, nI_1]
theorem x8_meet30 {T : TD} {D : DD} {I : zk_I} {b b2 : Nat} (hT : wfT T) (hD : wfD T D) (hr : repM T I 78) (hd : repDM T D I 80 0) (hb : b < nbT T) (hb2 : b2 < nbT T) (K : Int32 → zk_J → Option (Int32 × zk_J)) : ∀ k v n (J : zk_J), k ≤ 8 → k < n → ((∃ x, k ≤ x ∧ x < 8 ∧ meB T D b b2 x = true ∧ (∀ y, k ≤ y → y < x → meB T D b b2 y = false) ∧ v = nI x) ∨ ((∀ x, k ≤ x → x < 8 → meB T D b b2 x = false) ∧ v = -1)) → ∃ r J', l_X8_meet_30 I (nI b) (nI b2) K n v (nI k - 1) J = K r J' ∧ LST (meB T D b b2) 8 r := by
  intro k
  induction k with
  | zero =>
    intro v n J hk hn hg
    obtain ⟨n, rfl⟩ : ∃ k, n = k + 1 := ⟨n - 1, by omega⟩
    refine ⟨v, J, by rw [l_X8_meet_30, if_pos (show nI 0 - 1 < (0 : Int32) by decide)], ?_⟩
    rcases hg with ⟨x, g1, g2, g3, g4, g5⟩ | ⟨g1, g2⟩
    · exact Or.inl ⟨x, g2, g3, fun y hy => g4 y (Nat.zero_le _) hy, g5⟩
    · exact Or.inr ⟨fun x hx => g1 x (Nat.zero_le _) hx, g2⟩
  | succ k ih =>
    intro v n J hk hn hg
    obtain ⟨n, rfl⟩ : ∃ k, n = k + 1 := ⟨n - 1, by omega⟩
    obtain ⟨m1, J1, a1, a2, a3⟩ := x8_holders (J := J) hT hD hr hd hb (show k < 8 by omega)
    obtain ⟨m2, J2, c1, c2, c3⟩ := x8_holders (J := J1) hT hD hr hd hb2 (show k < 8 by omega)
    rw [nI_sm1, l_X8_meet_30, if_neg (nI_pos (by omega)), a2, zbd2, c2, zbd2, and_meP a1 a3 c3, zlt, m1_add]
    refine ih _ n J2 (by omega) (by omega) ?_
    cases hbk : meB T D b b2 k
    · rw [if_neg (by decide)]
      rcases hg with ⟨x, g1, g2, g3, g4, g5⟩ | ⟨g1, g2⟩
      · refine Or.inl ⟨x, by omega, g2, g3, fun y h1 h2 => ?_, g5⟩
        by_cases he : y = k
        · subst he; exact hbk
        · exact g4 y (by omega) h2
      · refine Or.inr ⟨fun x h1 h2 => ?_, g2⟩
        by_cases he : x = k
        · subst he; exact hbk
        · exact g1 x (by omega) h2
    · rw [if_pos rfl]
      exact Or.inl ⟨k, Nat.le_refl _, by omega, hbk, fun y h1 h2 => by omega, rfl⟩
def opH {R : Type} (S : ST) (fC : zk_I → Option (R × zk_I)) (fM : zk_I → zk_J → Option (R × zk_J)) : Prop := ∃ r, (∀ I, invC S I → ∃ I1, fC I = some (r, I1) ∧ invC S I1 ∧ keepM I I1) ∧ ∀ I J, invM S I → ∃ J2, fM I J = some (r, J2)
theorem opH.go {R : Type} {S : ST} {fC : zk_I → Option (R × zk_I)} {fM : zk_I → zk_J → Option (R × zk_J)} {I : zk_I} (h : opH S fC fM) (hi : inv S I) (J : zk_J) : ∃ r I1 J2, fC I = some (r, I1) ∧ fM I1 J = some (r, J2) ∧ inv S I1 := by
  obtain ⟨r, hC, hM⟩ := h
  obtain ⟨I1, c1, c2, c3⟩ := hC I hi.2.1
  have hm : invM S I1 := hi.2.2.fr c3.rel
  obtain ⟨J2, m1⟩ := hM I1 J hm
  exact ⟨r, I1, J2, c1, m1, hi.1, c2, hm⟩
theorem opH.no {R : Type} {S : ST} {fC : zk_I → Option (R × zk_I)} {fM : zk_I → zk_J → Option (R × zk_J)} (r : R) (hC : ∀ I, invC S I → fC I = some (r, I)) (hM : ∀ I J, invM S I → fM I J = some (r, J)) : opH S fC fM :=
  ⟨r, fun I hI => ⟨I, hC I hI, hI, keepM.rf⟩, fun I J hI => ⟨J, hM I J hI⟩⟩
theorem o_meet {S : ST} (hw : wfS S) (a a2 : Int32) : opH S (fun I => f_X7_meet I a a2) (fun I J => f_X8_meet I J a a2) := by
  have hnb : nbT (tdS S) ≤ 4 := hw.2.1.2.1
  unfold f_X7_meet f_X8_meet
  rcases arg_cases a (n := nbT (tdS S)) (by omega) with ha | ⟨j, hj, rfl⟩
  · refine opH.no (-2) (fun I hI => ?_) (fun I J hI => ?_)
    · rw [x_hasB0 hI.2.1 ha, zlt, if_pos rfl]
    · rw [x8_isB0 hw.2.1 hI.2.1 ha, zbd1, if_pos rfl]
  · rcases arg_cases a2 (n := nbT (tdS S)) (by omega) with ha2 | ⟨i, hi, rfl⟩
    · refine opH.no (-2) (fun I hI => ?_) (fun I J hI => ?_)
      · rw [x_hasB1 hw.2.1 hI.2.1 hj, zlt, if_neg n10, x_hasB0 hI.2.1 ha2, zlt, if_pos rfl]
      · rw [x8_isB1 hw.2.1 hI.2.1 hj, zbd1, if_neg n10, x8_isB0 hw.2.1 hI.2.1 ha2, zbd1, if_pos rfl]
    · by_cases he : j = i
      · refine opH.no (-2) (fun I hI => ?_) (fun I J hI => ?_)
        · rw [x_hasB1 hw.2.1 hI.2.1 hj, zlt, if_neg n10, x_hasB1 hw.2.1 hI.2.1 hi, zlt, if_neg n10, if_pos (by rw [he])]
        · rw [x8_isB1 hw.2.1 hI.2.1 hj, zbd1, if_neg n10, x8_isB1 hw.2.1 hI.2.1 hi, zbd1, if_neg n10, if_pos (by rw [he])]
      · have hne : ¬ nI j = nI i := fun q => he (xl_inj (by omega) (by omega) q)
        obtain ⟨r, hr⟩ := LST_ex (meB (tdS S) (ddS S) j i) 8
        refine ⟨r, fun I hI => ?_, fun I J hI => ?_⟩
        · obtain ⟨I1, a1, a2, a3⟩ := x_findPlaces (pl := 70) hw.2.1 hw.2.2.1 hI.2.1 hI.2.2.1 hj (by decide)
          have r1 : relC I I1 ∧ keepM I I1 := ⟨⟨by rw [a2 0 (by decide) (by decide)], by rw [a2 1 (by decide) (by decide)], fun c hc => a2 c (by omega) (by omega)⟩, fun c hc => a2 c (by omega) (by omega)⟩
          have hI1 : invC S I1 := hI.fr r1.1
          obtain ⟨I2, b1, b2, b3⟩ := x_findPlaces (pl := 71) hw.2.1 hw.2.2.1 hI1.2.1 hI1.2.2.1 hi (by decide)
          have r2 : relC I1 I2 ∧ keepM I1 I2 := ⟨⟨by rw [b2 0 (by decide) (by decide)], by rw [b2 1 (by decide) (by decide)], fun c hc => b2 c (by omega) (by omega)⟩, fun c hc => b2 c (by omega) (by omega)⟩
          obtain ⟨r', c1, c2⟩ := x_meet64 (I := I2) (a3.fr (b2 70 (by decide) (by decide))) b3
          refine ⟨I2, ?_, hI1.fr r2.1, r1.2.tr r2.2⟩
          dsimp only
          rw [x_hasB1 hw.2.1 hI.2.1 hj, zlt, if_neg n10, x_hasB1 hw.2.1 hI.2.1 hi, zlt, if_neg n10, if_neg hne, a1, zbd1, b1, zbd1, c1, c2.uniq hr]
        · obtain ⟨r', J2, c1, c2⟩ := x8_meet30 hw.2.1 hw.2.2.1 hI.2.1 hI.2.2.1 hj hi (fun (z18 : Int32) (J19 : zk_J) => some (z18, J19)) 8 (-1) 3000 J (by omega) (by omega) (Or.inr ⟨fun x h1 h2 => by omega, rfl⟩)
          refine ⟨J2, ?_⟩
          dsimp only
          rw [x8_isB1 hw.2.1 hI.2.1 hj, zbd1, if_neg n10, x8_isB1 hw.2.1 hI.2.1 hi, zbd1, if_neg n10, if_neg hne]
          rw [c2.uniq hr] at c1
          exact c1

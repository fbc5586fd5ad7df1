/-! the reference lays all states -/
def isSt (h w0 s r : Nat) : Bool := decide (s &&& h = h) && s.testBit r && (if s = h then decide (r = w0) else !h.testBit r)
theorem isSt_next {T : TD} (hT : wfT T) {dy h w0 s w x : Nat} (hs : isSt h w0 s w = true) (hx : (chN T dy h s w).testBit x = true) : isSt h w0 (s ||| 2 ^ x) x = true := by
  obtain ⟨h1, h2⟩ := chN_bit hT hx
  unfold isSt at hs ⊢
  rw [Bool.and_eq_true, Bool.and_eq_true, decide_eq_true_eq] at hs
  have hsub := hs.1.1
  have hg := or_gt h2
  have hle := sub_le hsub
  have hne : ¬ (s ||| 2 ^ x) = h := by omega
  have hhx : h.testBit x = false := by
    cases hb : h.testBit x
    · rfl
    · rw [sub_bit hsub x hb] at h2; cases h2
  rw [if_neg hne, or_in, hhx, decide_eq_true (or_sub hsub)]
  rfl
theorem x8_isState {T : TD} {D : DD} {I : zk_I} {b s r : Nat} (hT : wfT T) (hD : wfD T D) (hr : repM T I 78) (hd : repDM T D I 80 0) (hb : b < nbT T) (hs : s < 2 ^ nrT T) (hrr : r < nrT T) : f_X8_isState I (nI b) (nI s) (nI r) = some (nI (if isSt (haD D b) (hoD D b) s r then 1 else 0)) := by
  have hnr := hT.1
  have hnb := hT.2.1
  have hpw := pow_le8 hnr
  have hh := had_lt hT hD hb
  obtain ⟨w1, w2, w3, -⟩ := hD.2 b hb
  obtain ⟨d1, d2, -⟩ := hd.2.2 b hb
  rw [Nat.zero_add] at d1 d2
  have e6 : (6 : Int32) + nI b = nI (6 + b) := by rw [xlit 6, nI_add]
  have e2 : (2 : Int32) + nI b = nI (2 + b) := by rw [xlit 2, nI_add]
  have hsh : (nI s >>> (nI (nrT T) &&& 31)) = (0 : Int32) := by
    rw [xlit 31, xb_shr (by omega) (by omega), Nat.div_eq_of_lt hs]
    rfl
  unfold f_X8_isState
  rw [e6, e2, zck (zin (show 6 + b < 14 by omega) (by decide)), nI_clamp (show 6 + b < 2 ^ 31 by omega), d2, nI_clamp (show 2 + b < 2 ^ 31 by omega), d1, hr.1]
  refine (zlt _ _).trans ?_
  refine (zjp1 _ _).trans ?_
  refine (zjp0 _ _).trans ?_
  dsimp only
  rw [xb_and, hsh, if_pos (rfl : (0 : Int32) = 0), xlit 1, xlit 31, xb_bit (show s < 2 ^ 31 by omega) (show r < 32 by omega), xb_bit (show haD D b < 2 ^ 31 by omega) (show r < 32 by omega)]
  have hand := and_lt (b := haD D b) (show s < 256 by omega)
  unfold isSt
  by_cases hsub : s &&& haD D b = haD D b
  · rw [if_pos (by rw [hsub]), decide_eq_true hsub, Bool.true_and]
    cases hbit : s.testBit r
    · rw [if_neg (by decide)]
      rfl
    · rw [if_pos (rfl : true = true), if_pos (rfl : nI 1 = nI 1), Bool.true_and]
      refine (zjp0 _ _).trans ?_
      rw [if_neg (by decide)]
      refine (zjp0 _ _).trans ?_
      by_cases he : s = haD D b
      · rw [if_pos (by rw [he]), if_pos he]
        refine (zck (zin (show 2 + b < 14 by omega) (by decide)) _).trans ?_
        by_cases hw : r = hoD D b
        · rw [if_pos (by rw [hw]), decide_eq_true hw]; rfl
        · rw [if_neg (fun q => hw (xl_inj (by omega) (by omega) q)), decide_eq_false hw]; rfl
      · rw [if_neg (fun q => he (xl_inj (by omega) (by omega) q)), if_neg he]
        cases hb2 : (haD D b).testBit r
        · rfl
        · rfl
  · rw [if_neg (fun q => hsub (xl_inj (by omega) (by omega) q)), decide_eq_false hsub]
    rfl
/-- the states from (s0, r0) on are laid -/
def layD (T : TD) (dy h w0 : Nat) (I : zk_I) (s0 r0 : Nat) : Prop := ∀ s r, s < 2 ^ nrT T → r < nrT T → isSt h w0 s r = true → (s0 < s ∨ (s = s0 ∧ r < r0)) → atQ I (8 * s + r) (RV7 T dy h s r)
theorem x8_l17 {T : TD} {D : DD} {I : zk_I} {b s : Nat} (hT : wfT T) (hD : wfD T D) (hr : repM T I 78) (hd : repDM T D I 80 0) (hb : b < nbT T) (hs : s < 2 ^ nrT T) (K : zk_I → Option (Int32 × zk_I)) : ∀ m i (I' : zk_I), i + m = nrT T → (∀ c, ¬ (85 ≤ c ∧ c ≤ 91) → I' c = I c) → layD T (dyD D) (haD D b) (hoD D b) I' s i → ∀ n, m < n → ∃ I'', l_X8_laysAll_17 (nI b) (nI s) K n (nI i) I' = K I'' ∧ (∀ c, ¬ (85 ≤ c ∧ c ≤ 91) → I'' c = I c) ∧ layD T (dyD D) (haD D b) (hoD D b) I'' s (nrT T) := by
  have hnr := hT.1
  have hpw := pow_le8 hnr
  intro m
  induction m with
  | zero =>
    intro i I' hi ho hl n hn
    obtain ⟨n, rfl⟩ : ∃ k, n = k + 1 := ⟨n - 1, by omega⟩
    have hr' : repM T I' 78 := hr.fr (ho 78 (by decide))
    refine ⟨I', ?_, ho, ?_⟩
    · rw [l_X8_laysAll_17, hr'.1, if_pos (nI_le (by omega) (by omega))]
    · rw [show nrT T = i by omega]; exact hl
  | succ m ih =>
    intro i I' hi ho hl n hn
    obtain ⟨n, rfl⟩ : ∃ k, n = k + 1 := ⟨n - 1, by omega⟩
    have hr' : repM T I' 78 := hr.fr (ho 78 (by decide))
    have hd' : repDM T D I' 80 0 := hd.fr (ho 80 (by decide))
    rw [l_X8_laysAll_17, hr'.1, if_neg (nI_ge (by omega) (by omega)), x8_isState hT hD hr' hd' hb hs (by omega), zbd1, zjp1, q01]
    cases hst : isSt (haD D b) (hoD D b) s i
    · rw [if_neg (by decide), nI_1]
      refine ih (i + 1) I' (by omega) ho (fun s' r' h1 h2 h3 h4 => ?_) n (by omega)
      rcases h4 with h4 | ⟨h4, h5⟩
      · exact hl s' r' h1 h2 h3 (Or.inl h4)
      · by_cases he : r' = i
        · subst h4; subst he; rw [hst] at h3; cases h3
        · exact hl s' r' h1 h2 h3 (Or.inr ⟨h4, by omega⟩)
    · have hsub : s &&& haD D b = haD D b := by
        have hst' := hst
        unfold isSt at hst'
        rw [Bool.and_eq_true, Bool.and_eq_true, decide_eq_true_eq] at hst'
        exact hst'.1.1
      rw [if_pos rfl, x8_lays hT hD hr' hd' hb hs hsub (show i < nrT T by omega) (fun x hx => ?_), zbd1, nI_1]
      · refine ih (i + 1) _ (by omega) (fun c hc => ?_) (fun s' r' h1 h2 h3 h4 => ?_) n (by omega)
        · rw [lyQ_c _ _ _ hc]; exact ho c hc
        · by_cases he : s' = s ∧ r' = i
          · obtain ⟨h5, h6⟩ := he
            subst h5; subst h6
            exact lyQ_at _ _ _
          · have hne : 8 * s' + r' ≠ 8 * s + i := by omega
            exact (hl s' r' h1 h2 h3 (by omega)).fr (fun c => lyQ_n _ _ _ hne)
      · obtain ⟨h1, h2⟩ := chN_bit hT hx
        exact hl _ _ (Nat.or_lt_two_pow hs (Nat.pow_lt_pow_right (by decide) h1)) h1 (isSt_next hT hst hx) (Or.inl (or_gt h2))
theorem x8_l11 {T : TD} {D : DD} {I : zk_I} {b : Nat} (hT : wfT T) (hD : wfD T D) (hr : repM T I 78) (hd : repDM T D I 80 0) (hb : b < nbT T) (K : zk_I → Option (Int32 × zk_I)) : ∀ k (I' : zk_I), k ≤ 2 ^ nrT T → (∀ c, ¬ (85 ≤ c ∧ c ≤ 91) → I' c = I c) → (∀ s r, s < 2 ^ nrT T → r < nrT T → isSt (haD D b) (hoD D b) s r = true → k ≤ s → atQ I' (8 * s + r) (RV7 T (dyD D) (haD D b) s r)) → ∀ n, k < n → ∃ I'', l_X8_laysAll_11 (nI b) K n (nI k - 1) I' = K I'' ∧ (∀ c, ¬ (85 ≤ c ∧ c ≤ 91) → I'' c = I c) ∧ ∀ s r, s < 2 ^ nrT T → r < nrT T → isSt (haD D b) (hoD D b) s r = true → atQ I'' (8 * s + r) (RV7 T (dyD D) (haD D b) s r) := by
  have hnr := hT.1
  have hpw := pow_le8 hnr
  intro k
  induction k with
  | zero =>
    intro I' hk ho hl n hn
    obtain ⟨n, rfl⟩ : ∃ k, n = k + 1 := ⟨n - 1, by omega⟩
    refine ⟨I', ?_, ho, fun s r h1 h2 h3 => hl s r h1 h2 h3 (Nat.zero_le _)⟩
    rw [l_X8_laysAll_11, if_pos (show nI 0 - 1 < (0 : Int32) by decide)]
  | succ k ih =>
    intro I' hk ho hl n hn
    obtain ⟨n, rfl⟩ : ∃ k, n = k + 1 := ⟨n - 1, by omega⟩
    have e1 : nI (k + 1) - 1 = nI k := by rw [xlit 1, nI_sub (by omega)]; rfl
    have e2 : nI k + (-1 : Int32) = nI k - 1 := by
      rw [Int32.sub_eq_add_neg]
    rw [l_X8_laysAll_11, e1, if_neg (nI_pos (show k < 2 ^ 31 by omega)), e2]
    obtain ⟨I2, a1, a2, a3⟩ := x8_l17 hT hD hr hd hb (show k < 2 ^ nrT T by omega) (fun (I11 : zk_I) => l_X8_laysAll_11 (nI b) K n (nI k - 1) I11) (nrT T) 0 I' (by omega) ho (fun s r h1 h2 h3 h4 => hl s r h1 h2 h3 (by omega)) 3000 (by omega)
    obtain ⟨I3, b1, b2, b3⟩ := ih I2 (by omega) a2 (fun s r h1 h2 h3 h4 => a3 s r h1 h2 h3 (by omega)) n (by omega)
    exact ⟨I3, a1.trans b1, b2, b3⟩
theorem x8_laysAll {T : TD} {D : DD} {I : zk_I} {b : Nat} (hT : wfT T) (hD : wfD T D) (hr : repM T I 78) (hd : repDM T D I 80 0) (hb : b < nbT T) : ∃ I1, f_X8_laysAll I (nI b) = some (nI (8 * haD D b + hoD D b), I1) ∧ (∀ c, ¬ (85 ≤ c ∧ c ≤ 91) → I1 c = I c) ∧ ∀ s r, s < 2 ^ nrT T → r < nrT T → isSt (haD D b) (hoD D b) s r = true → atQ I1 (8 * s + r) (RV7 T (dyD D) (haD D b) s r) := by
  have hnr := hT.1
  have hnb := hT.2.1
  have hpw := pow_le8 hnr
  have hsh : (1 : Int32) <<< (nI (nrT T) &&& 31) = nI (2 ^ nrT T) := by rw [xlit 1, xlit 31, xb_shl1 _ (by omega)]
  unfold f_X8_laysAll
  obtain ⟨I1, a1, a2, a3⟩ := x8_l11 hT hD hr hd hb (fun (I12 : zk_I) => zk_ck (zk_in ((6 : Int32) + nI b) 14) (zk_ck (zk_in ((2 : Int32) + nI b) 14) (some ((((8 : Int32) * (I12 80 ((6 : Int32) + nI b).toNatClampNeg)) + (I12 80 ((2 : Int32) + nI b).toNatClampNeg)), I12)))) (2 ^ nrT T) I (Nat.le_refl _) (fun _ _ => rfl) (fun s r h1 h2 h3 h4 => by omega) 3000 (by omega)
  refine ⟨I1, ?_, a2, a3⟩
  obtain ⟨d1, d2, -⟩ := hd.2.2 b hb
  rw [Nat.zero_add] at d1 d2
  have e6 : (6 : Int32) + nI b = nI (6 + b) := by rw [xlit 6, nI_add]
  have e2 : (2 : Int32) + nI b = nI (2 + b) := by rw [xlit 2, nI_add]
  refine (zlt _ _).trans ?_
  rw [hr.1, hsh]
  refine a1.trans ?_
  rw [e6, e2, zck (zin (show 6 + b < 14 by omega) (by decide)), zck (zin (show 2 + b < 14 by omega) (by decide)), nI_clamp (show 6 + b < 2 ^ 31 by omega), nI_clamp (show 2 + b < 2 ^ 31 by omega), a2 80 (by decide), d1, d2, xlit 8, pk_mul, nI_add]
theorem isSt_0 {T : TD} {D : DD} {b : Nat} (hD : wfD T D) (hb : b < nbT T) : isSt (haD D b) (hoD D b) (haD D b) (hoD D b) = true := by
  obtain ⟨w1, w2, w3, -⟩ := hD.2 b hb
  unfold isSt
  rw [Nat.and_self, w3, if_pos rfl, decide_eq_true rfl, decide_eq_true rfl]
  rfl
/-! calls that foretell -/
def opF {R : Type} (S : ST) (fC : zk_I → zk_J → Option (R × zk_I × zk_J)) (fM : zk_I → Option (R × zk_I)) : Prop := ∃ r, (∀ I J, invC S I → ∃ I1 J1, fC I J = some (r, I1, J1) ∧ invC S I1 ∧ keepM I I1) ∧ ∀ I, invM S I → ∃ I2, fM I = some (r, I2) ∧ invM S I2 ∧ keepC I I2
theorem opF.go {R : Type} {S : ST} {fC : zk_I → zk_J → Option (R × zk_I × zk_J)} {fM : zk_I → Option (R × zk_I)} {I : zk_I} (h : opF S fC fM) (hi : inv S I) (J : zk_J) : ∃ r I1 J1 I2, fC I J = some (r, I1, J1) ∧ fM I1 = some (r, I2) ∧ inv S I2 := by
  obtain ⟨r, hC, hM⟩ := h
  obtain ⟨I1, J1, c1, c2, c3⟩ := hC I J hi.2.1
  obtain ⟨I2, m1, m2, m3⟩ := hM I1 (hi.2.2.fr c3.rel)
  exact ⟨r, I1, J1, I2, c1, m1, hi.1, c2.fr m3.rel, m2⟩
theorem rel63 {I I1 : zk_I} (h : ∀ c, ¬ (63 ≤ c ∧ c ≤ 66) → I1 c = I c) : relC I I1 ∧ keepM I I1 := ⟨⟨by rw [h 0 (by decide)], by rw [h 1 (by decide)], fun c hc => h c (by omega)⟩, fun c hc => h c (by omega)⟩
theorem rel85 {I I1 : zk_I} (h : ∀ c, ¬ (85 ≤ c ∧ c ≤ 91) → I1 c = I c) : relM I I1 ∧ keepC I I1 := ⟨⟨by rw [h 76 (by decide)], by rw [h 76 (by decide)], by rw [h 76 (by decide)], fun c hc => h c (by omega)⟩, fun c hc => h c (by omega)⟩
theorem opF.no {R : Type} {S : ST} {fC : zk_I → zk_J → Option (R × zk_I × zk_J)} {fM : zk_I → Option (R × zk_I)} (r : R) (hC : ∀ I J, invC S I → fC I J = some (r, I, J)) (hM : ∀ I, invM S I → fM I = some (r, I)) : opF S fC fM :=
  ⟨r, fun I J hI => ⟨I, J, hC I J hI, hI, keepM.rf⟩, fun I hI => ⟨I, hM I hI, hI, keepC.rf⟩⟩

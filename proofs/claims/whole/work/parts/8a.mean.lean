/-! lowest terms -/
theorem gcd_st {a b : Nat} (h : b ≠ 0) : Nat.gcd a b = Nat.gcd b (a % b) := by
  rw [Nat.gcd_comm a b, Nat.gcd_rec, Nat.gcd_comm]
theorem half_lt {b r k : Nat} (h0 : 0 < r) (hr : r < b) (hb : b < 2 ^ (k + 1)) : b % r < 2 ^ k := by
  have h1 := Nat.mod_lt b h0
  have h2 := Nat.div_add_mod b r
  have h3 : 1 ≤ b / r := (Nat.one_le_div_iff h0).mpr (Nat.le_of_lt hr)
  have h4 : r * 1 ≤ r * (b / r) := Nat.mul_le_mul_left r h3
  rw [Nat.pow_succ] at hb
  omega
theorem x_low9 {p0 p2 : Int64} {p4 : Int32} (K : Int64 → Option Int64) : ∀ k a b t n, b < 2 ^ k → t + 2 * k ≤ 98 → 2 * k < n → a < 2 ^ 62 → b < 2 ^ 62 → l_X7_lowestTerms_9 p0 p2 p4 K n (lN a) (lN b) (nI t) = K (lN (Nat.gcd a b)) := by
  intro k
  induction k with
  | zero =>
    intro a b t n hb ht hn ha hb2
    obtain ⟨n, rfl⟩ : ∃ k, n = k + 1 := ⟨n - 1, by omega⟩
    have : b = 0 := by omega
    subst this
    rw [l_X7_lowestTerms_9, if_neg (show ¬ (100 : Int32) ≤ nI t from nI_ge (b := 100) (by omega) (by decide)), if_pos (cmp0.mpr (show lN 0 = (0 : Int64) from rfl)), Nat.gcd_zero_right]
  | succ k ih =>
    intro a b t n hb ht hn ha hb2
    obtain ⟨n, rfl⟩ : ∃ k, n = k + 2 := ⟨n - 2, by omega⟩
    rw [l_X7_lowestTerms_9, if_neg (show ¬ (100 : Int32) ≤ nI t from nI_ge (b := 100) (by omega) (by decide))]
    by_cases h0 : b = 0
    · subst h0
      rw [if_pos (cmp0.mpr (show lN 0 = (0 : Int64) from rfl)), Nat.gcd_zero_right]
    · have hr := Nat.mod_lt a (show 0 < b by omega)
      rw [if_neg (fun q => lN_nz hb2 h0 (cmp0.mp q)), zck (znl hb2 h0), pk_lRem (by omega) (by omega) (by omega), nI_1, l_X7_lowestTerms_9, if_neg (show ¬ (100 : Int32) ≤ nI (t + 1) from nI_ge (b := 100) (by omega) (by decide)), gcd_st h0]
      by_cases h1 : a % b = 0
      · rw [h1, if_pos (cmp0.mpr (show lN 0 = (0 : Int64) from rfl)), Nat.gcd_zero_right]
      · rw [if_neg (fun q => lN_nz (by omega) h1 (cmp0.mp q)), zck (znl (by omega) h1), pk_lRem (by omega) (by omega) (by omega), nI_1, gcd_st h1]
        have hh := half_lt (show 0 < a % b by omega) hr hb
        have hm := Nat.mod_lt b (show 0 < a % b by omega)
        exact ih (a % b) (b % (a % b)) (t + 1 + 1) n hh (by omega) (by omega) (by omega) (by omega)
theorem x8_part7 {p0 : Int64} {p2 : Int32} (K : Int64 → Option Int64) : ∀ k a b n, b < 2 ^ k → 2 * k < n → a < 2 ^ 62 → b < 2 ^ 62 → l_X8_part_7 p0 p2 K n (lN a) (lN b) = K (lN (Nat.gcd a b)) := by
  intro k
  induction k with
  | zero =>
    intro a b n hb hn ha hb2
    obtain ⟨n, rfl⟩ : ∃ k, n = k + 1 := ⟨n - 1, by omega⟩
    have : b = 0 := by omega
    subst this
    rw [l_X8_part_7, if_pos (cmp0.mpr (show lN 0 = (0 : Int64) from rfl)), Nat.gcd_zero_right]
  | succ k ih =>
    intro a b n hb hn ha hb2
    obtain ⟨n, rfl⟩ : ∃ k, n = k + 2 := ⟨n - 2, by omega⟩
    rw [l_X8_part_7]
    by_cases h0 : b = 0
    · subst h0
      rw [if_pos (cmp0.mpr (show lN 0 = (0 : Int64) from rfl)), Nat.gcd_zero_right]
    · have hr := Nat.mod_lt a (show 0 < b by omega)
      rw [if_neg (fun q => lN_nz hb2 h0 (cmp0.mp q)), zck (znl hb2 h0), pk_lRem (by omega) (by omega) (by omega), l_X8_part_7, gcd_st h0]
      by_cases h1 : a % b = 0
      · rw [h1, if_pos (cmp0.mpr (show lN 0 = (0 : Int64) from rfl)), Nat.gcd_zero_right]
      · rw [if_neg (fun q => lN_nz (by omega) h1 (cmp0.mp q)), zck (znl (by omega) h1), pk_lRem (by omega) (by omega) (by omega), gcd_st h1]
        have hh := half_lt (show 0 < a % b by omega) hr hb
        have hm := Nat.mod_lt b (show 0 < a % b by omega)
        exact ih (a % b) (b % (a % b)) n hh (by omega) (by omega) (by omega)
def ptN (a b i : Nat) : Nat := if i = 0 then a / Nat.gcd b a else b / Nat.gcd b a
theorem x_low {a b i : Nat} (ha : a < 2 ^ 40) (hb : b < 2 ^ 40) (h1 : 1 ≤ b) (hi : i < 2) : f_X7_lowestTerms (lN a) (lN b) (nI i) = some (lN (ptN a b i)) := by
  have hg : 0 < Nat.gcd b a := Nat.gcd_pos_of_pos_left a (by omega)
  have hg2 : Nat.gcd b a ≤ b := Nat.gcd_le_left a (by omega)
  unfold f_X7_lowestTerms
  rw [show (0 : Int32) = nI 0 from rfl, x_low9 _ 40 b a 0 3000 ha (by decide) (by decide) (by omega) (by omega), show nI 0 = (0 : Int32) from rfl, if_neg (fun q => lN_nz (by omega) (by omega) (cmp0.mp q))]
  unfold ptN
  have hi01 : i = 0 ∨ i = 1 := by omega
  rcases hi01 with rfl | rfl
  · rw [if_pos (show nI 0 = (0 : Int32) from rfl), zck (znl (by omega) (by omega)), pk_lDiv (by omega) hg (by omega), if_pos rfl]
  · rw [if_neg (show ¬ nI 1 = (0 : Int32) by decide), zck (znl (by omega) (by omega)), pk_lDiv (by omega) hg (by omega), if_neg (by decide)]
theorem x8_part {a b v i : Nat} (hv : v * b = 217728000) (ha : v * a < 2 ^ 40) (hi : i < 2) : f_X8_part (lN (v * a)) (nI i) = some (lN (ptN a b i)) := by
  have hv0 : 0 < v := by
    apply Nat.pos_of_ne_zero
    intro q
    rw [q, Nat.zero_mul] at hv
    cases hv
  have hb0 : 0 < b := by
    apply Nat.pos_of_ne_zero
    intro q
    rw [q, Nat.mul_zero] at hv
    cases hv
  have hg : 0 < Nat.gcd b a := Nat.gcd_pos_of_pos_left a hb0
  have hG : Nat.gcd (v * a) 217728000 = v * Nat.gcd b a := by
    rw [← hv, Nat.gcd_mul_left, Nat.gcd_comm]
  have hG0 : 0 < v * Nat.gcd b a := Nat.mul_pos hv0 hg
  have hG2 : v * Nat.gcd b a ≤ 217728000 := by
    rw [← hv]
    exact Nat.mul_le_mul_left v (Nat.gcd_le_left a hb0)
  have key : l_X8_part_7 (lN (v * a)) (nI i) (fun (z3 : Int64) => (if (nI i) = 0 then (zk_ck (zk_nzl z3) (some (lN (v * a) / z3))) else (zk_ck (zk_nzl z3) (some ((217728000 : Int64) / z3))))) 3000 (lN (v * a)) (217728000 : Int64) = _ := x8_part7 _ 40 (v * a) 217728000 3000 (by decide) (by decide) (by omega) (by decide)
  unfold f_X8_part
  rw [key, hG]
  unfold ptN
  have hi01 : i = 0 ∨ i = 1 := by omega
  rcases hi01 with rfl | rfl
  · rw [if_pos (show nI 0 = (0 : Int32) from rfl), zck (znl (by omega) (by omega)), pk_lDiv (by omega) hG0 (by omega), if_pos rfl, Nat.mul_div_mul_left _ _ hv0]
  · rw [if_neg (show ¬ nI 1 = (0 : Int32) by decide), zck (znl (by omega) (by omega)), show (217728000 : Int64) = lN 217728000 from rfl, pk_lDiv (by omega) hG0 (by omega), if_neg (by decide), ← hv, Nat.mul_div_mul_left _ _ hv0]
/-! the sum of what is handed on -/
def odW (T : TD) (h : Nat) (wt : Nat → Bool) (p : Nat) : Nat := if p / 8 = h then 0 else if wt (p % 8) then odL T p else 0
theorem smx_mulc {M c : Nat} {f : Nat → Nat} : ∀ n, smx M f n * c = c * smx M f n := fun n => Nat.mul_comm _ _
theorem od_sum {T : TD} {D : DD} {b : Nat} (hT : wfT T) (hD : wfD T D) (hb : b < nbT T) (wt : Nat → Bool) : sm (fun p => odA T (dyD D) (haD D b) (hoD D b) 2048 p * odW T (haD D b) wt p) 2048 = (217728000 / ltsN (nrT T - pc (haD D b))) * gnV T (dyD D) (haD D b) wt (haD D b) (hoD D b) := by
  have hnr := hT.1
  have hpw := pow_le8 hnr
  obtain ⟨w1, w2, w3, -⟩ := hD.2 b hb
  have e0 : (8 * haD D b + hoD D b) / 8 = haD D b := by omega
  have e1 : (8 * haD D b + hoD D b) % 8 = hoD D b := by omega
  have h := fw_pot (M := odM T (dyD D) (haD D b)) (c := odc T (dyD D) (haD D b)) (a0 := fun p => if p = 8 * haD D b + hoD D b then 217728000 / ltsN (nrT T - pc (haD D b)) else 0) (V := fun p => gnV T (dyD D) (haD D b) wt (p / 8) (p % 8)) (W := odW T (haD D b) wt) (e := fun _ => 0) (od_go hT _ _) (fun k hk hne => ?_) 2048 (Nat.le_refl _)
  · rw [sm_one (show 8 * haD D b + hoD D b < 2048 by omega)] at h
    have e2 : odW T (haD D b) wt (8 * haD D b + hoD D b) = 0 := by
      unfold odW
      rw [e0, if_pos rfl]
    rw [e0, e1, e2, Nat.zero_add] at h
    rw [← h]
    exact sm_congr (fun p hp => by
      show odA T (dyD D) (haD D b) (hoD D b) 2048 p * odW T (haD D b) wt p = odA T (dyD D) (haD D b) (hoD D b) 2048 p * (odW T (haD D b) wt p + if 2048 ≤ p then _ else 0)
      rw [if_neg (show ¬ 2048 ≤ p by omega), Nat.add_zero])
  · have hst : stP T (haD D b) (hoD D b) k := od_sup hT hD hb (by omega) hne
    obtain ⟨p1, p2, p3⟩ := st_pc hT hst
    show gnV T (dyD D) (haD D b) wt (k / 8) (k % 8) = 0 + odc T (dyD D) (haD D b) k * smx (odM T (dyD D) (haD D b) k) (fun x => odW T (haD D b) wt (nxP k x) + gnV T (dyD D) (haD D b) wt (nxP k x / 8) (nxP k x % 8)) 8
    rw [Nat.zero_add, gnV_rec hT p3, Nat.mul_comm]
    refine congrArg (fun z => odc T (dyD D) (haD D b) k * z) (smx_congr (fun x hx hb => ?_))
    obtain ⟨c1, c2⟩ := chN_bit hT hb
    have hsub := (isSt_sub hst.2.2).1
    have hne2 : ¬ (k / 8 ||| 2 ^ x) = haD D b := by
      have := or_gt c2
      have := sub_le hsub
      omega
    unfold odW
    rw [nx_div hx, nx_mod hx, if_neg hne2, (od_share hT (dy := dyD D) hst x hb).1, Nat.add_comm]
theorem x8_mean35 {T : TD} {I : zk_I} {J : zk_J} {b h : Nat} {a : Nat → Nat} {p2 : Int32} (hb : b < 4) (hd : I 80 (6 + b) = nI h) (hh : h < 256) (hJ : odC T J a) (K : Int64 → Option (Int64 × zk_J)) : l_X8_mean_35 I J (nI b) p2 K 3000 0 0 = K (lN (sm (fun p => a p * odW T h (fun _ => true) p) 2048)) := by
  have e6 : (6 : Int32) + nI b = nI (6 + b) := by rw [xlit 6, nI_add]
  have key := zl_up (fun n i (s : Int64) => l_X8_mean_35 I J (nI b) p2 K n s (nI i)) K (fun i => lN (sm (fun p => a p * odW T h (fun _ => true) p) i)) 2048 (fun n => ?_) (fun n i hi => ?_) 3000 0 (by omega) (by omega)
  · exact key
  · rw [l_X8_mean_35, if_pos (show (2048 : Int32) ≤ nI 2048 by decide)]
  · have hdiv : nI i / (8 : Int32) = nI (i / 8) := by rw [xlit 8, pk_div (by omega) (by decide) (by decide)]
    rw [l_X8_mean_35, if_neg (show ¬ (2048 : Int32) ≤ nI i from nI_ge (b := 2048) hi (by decide)), e6, zck (zin (show 6 + b < 14 by omega) (by decide)), nI_clamp (show 6 + b < 2 ^ 31 by omega), hd, hdiv, nI_1]
    refine (jp1_to (v := lN (a i * odW T h (fun _ => true) i)) (fun K' => ?_)).trans ?_
    · unfold odW
      by_cases he : i / 8 = h
      · rw [if_pos (by rw [he]), if_pos he, Nat.mul_zero]
        rfl
      · rw [if_neg (fun q => he (xl_inj (by omega) (by omega) q)), if_neg he, if_pos rfl, zck (zin hi (by decide)), nI_clamp (by omega), hJ i hi, Nat.mul_comm]
    · rw [lN_add]
      rfl
def opG {R : Type} (S : ST) (fC : zk_I → zk_J → Option (R × zk_I × zk_J)) (fM : zk_I → zk_J → Option (R × zk_J)) : Prop := ∃ r, (∀ I J, invC S I → ∃ I1 J1, fC I J = some (r, I1, J1) ∧ invC S I1 ∧ keepM I I1) ∧ ∀ I J, invM S I → ∃ J2, fM I J = some (r, J2)
theorem opG.go {R : Type} {S : ST} {fC : zk_I → zk_J → Option (R × zk_I × zk_J)} {fM : zk_I → zk_J → Option (R × zk_J)} {I : zk_I} (h : opG S fC fM) (hi : inv S I) (J : zk_J) : ∃ r I1 J1 J2, fC I J = some (r, I1, J1) ∧ fM I1 J1 = some (r, J2) ∧ inv S I1 := by
  obtain ⟨r, hC, hM⟩ := h
  obtain ⟨I1, J1, c1, c2, c3⟩ := hC I J hi.2.1
  have hm : invM S I1 := hi.2.2.fr c3.rel
  obtain ⟨J2, m1⟩ := hM I1 J1 hm
  exact ⟨r, I1, J1, J2, c1, m1, hi.1, c2, hm⟩
theorem opG.no {R : Type} {S : ST} {fC : zk_I → zk_J → Option (R × zk_I × zk_J)} {fM : zk_I → zk_J → Option (R × zk_J)} (r : R) (hC : ∀ I J, invC S I → fC I J = some (r, I, J)) (hM : ∀ I J, invM S I → fM I J = some (r, J)) : opG S fC fM :=
  ⟨r, fun I J hI => ⟨I, J, hC I J hI, hI, keepM.rf⟩, fun I J hI => ⟨J, hM I J hI⟩⟩
theorem x_lotsBelow {T : TD} {I : zk_I} {dy h w0 : Nat} (hT : wfT T) (hB : begC T dy h w0 I) (hh : h < 2 ^ nrT T) (hp : 1 ≤ pc h) : f_X3_lotsBelow I = some (lN (ltsN (nrT T - pc h))) := by
  have hnr := hT.1
  unfold f_X3_lotsBelow
  rw [hB.2.1, x_unread hT hB.1 hh, zlt, x_lots _ (by omega), zbd1]
theorem gn_small {T : TD} {D : DD} {b : Nat} (hT : wfT T) (hD : wfD T D) (hb : b < nbT T) (wt : Nat → Bool) : gnV T (dyD D) (haD D b) wt (haD D b) (hoD D b) < 2 ^ 40 ∧ ltsN (nrT T - pc (haD D b)) < 2 ^ 40 ∧ 1 ≤ ltsN (nrT T - pc (haD D b)) ∧ (217728000 / ltsN (nrT T - pc (haD D b))) * ltsN (nrT T - pc (haD D b)) = 217728000 ∧ (217728000 / ltsN (nrT T - pc (haD D b))) * gnV T (dyD D) (haD D b) wt (haD D b) (hoD D b) < 2 ^ 40 := by
  have hnr := hT.1
  obtain ⟨w1, w2, w3, -⟩ := hD.2 b hb
  obtain ⟨p1, p2, p3⟩ := st_pc hT (st_0 hT hD hb)
  have e0 : (8 * haD D b + hoD D b) / 8 = haD D b := by omega
  rw [e0] at p1 p2
  obtain ⟨l1, l2⟩ := LT_pos (nrT T - pc (haD D b)) (by omega)
  have hg := gnV_le hT (dyD D) (haD D b) wt _ (haD D b) (hoD D b) (Nat.le_refl _) w2 p1
  have hW := LT_W (nrT T - pc (haD D b)) (by omega)
  have h1 : (nrT T - pc (haD D b)) * ltsN (nrT T - pc (haD D b)) ≤ 8 * 217728000 := Nat.mul_le_mul (by omega) l2
  refine ⟨by omega, by omega, l1, hW, ?_⟩
  have h2 : (217728000 / ltsN (nrT T - pc (haD D b))) * gnV T (dyD D) (haD D b) wt (haD D b) (hoD D b) ≤ (217728000 / ltsN (nrT T - pc (haD D b))) * ((nrT T - pc (haD D b)) * ltsN (nrT T - pc (haD D b))) := Nat.mul_le_mul_left _ hg
  have h3 : (217728000 / ltsN (nrT T - pc (haD D b))) * ((nrT T - pc (haD D b)) * ltsN (nrT T - pc (haD D b))) = (nrT T - pc (haD D b)) * 217728000 := by
    rw [Nat.mul_left_comm, hW]
  have h4 : (nrT T - pc (haD D b)) * 217728000 ≤ 8 * 217728000 := Nat.mul_le_mul_right _ (by omega)
  omega
theorem o_mean {S : ST} (hw : wfS S) (a a2 : Int32) : opG S (fun I J => f_X7_mean I J a a2) (fun I J => f_X8_mean I J a a2) := by
  have hnb : nbT (tdS S) ≤ 4 := hw.2.1.2.1
  have hnr : nrT (tdS S) ≤ 8 := hw.2.1.1
  have hpw := pow_le8 hnr
  unfold f_X7_mean f_X8_mean
  rcases arg_cases a (n := nbT (tdS S)) (by omega) with ha | ⟨j, hj, rfl⟩
  · refine opG.no (-2) (fun I J hI => ?_) (fun I J hI => ?_)
    · rw [x_hasB0 hI.2.1 ha, zlt, if_pos rfl]
    · rw [x8_isB0 hw.2.1 hI.2.1 ha, zbd1, if_pos rfl]
  · rcases arg_cases a2 (n := 2) (by decide) with h2 | ⟨i, hi, rfl⟩
    · obtain ⟨n0, n1⟩ := bad01 h2
      refine opG.no (-3) (fun I J hI => ?_) (fun I J hI => ?_)
      · rw [x_hasB1 hw.2.1 hI.2.1 hj, zlt, if_neg n10, zjp0, if_neg n0, if_neg n1]
      · rw [x8_isB1 hw.2.1 hI.2.1 hj, zbd1, if_neg n10, in01 h2, zlt, if_pos rfl]
    · obtain ⟨w1, w2, w3, -⟩ := hw.2.2.1.2 j hj
      have w1' : hoS S j < nrT (tdS S) := w1
      have w2' : haS S j < 2 ^ nrT (tdS S) := w2
      have hpc : 1 ≤ pc (haS S j) := pc_pos _ (by omega) _ (show hoS S j < 8 by omega) w3
      obtain ⟨g1, g2, g3, g4, g5⟩ := gn_small hw.2.1 hw.2.2.1 hj (fun _ => true)
      refine ⟨lN (ptN (gnV (tdS S) (dyS S) (haS S j) (fun _ => true) (haS S j) (hoS S j)) (ltsN (nrT (tdS S) - pc (haS S j))) i), fun I J hI => ?_, fun I J hI => ?_⟩
      · obtain ⟨I1, J1, a1, a2, a3, a4, a5⟩ := x_foreS (J := J) (tb := 69) (V := fun s w => lN (gnV (tdS S) (dyS S) (haS S j) (fun _ => true) s w)) hw.2.1 hw.2.2.1 hI.2.1 hI.2.2.1 hj (by decide) (by decide) (Or.inr ⟨by decide, rfl⟩) (fun I1 b1 _ _ => ms_mean hw.2.1 b1)
        refine ⟨I1, J1, ?_, hI.fr (rel63 a3).1, (rel63 a3).2⟩
        dsimp only
        have hif : ∀ (A B : Option (Int64 × zk_I × zk_J)), (if nI i = 0 then A else if nI i = (1 : Int32) then A else B) = A := by
          intro A B
          have hi01 : i = 0 ∨ i = 1 := by omega
          rcases hi01 with rfl | rfl <;> rfl
        rw [x_hasB1 hw.2.1 hI.2.1 hj, zlt, if_neg n10, zjp0, hif, a1, zbd3, x_lotsBelow hw.2.1 a2 w2 hpc, zbd1]
        have hx := x_low g1 g2 g3 hi
        rw [hx, zbd1]
      · obtain ⟨J2, b1, b2⟩ := x8_laysOdds (J := J) hw.2.1 hw.2.2.1 hI.2.1 hI.2.2.1 hj
        obtain ⟨d1, d2, -⟩ := hI.2.2.1.2.2 j hj
        rw [Nat.zero_add] at d2
        refine ⟨J2, ?_⟩
        dsimp only
        rw [x8_isB1 hw.2.1 hI.2.1 hj, zbd1, if_neg n10, in01' i hi, zlt, if_neg n10, b1, zbd1, x8_mean35 (show j < 4 by omega) d2 (show haS S j < 256 by omega) b2, od_sum hw.2.1 hw.2.2.1 hj, x8_part g4 g5 hi, zbd1]

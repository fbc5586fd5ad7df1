/-! odds -/
theorem sm8 {f : Nat → Nat} {r : Nat} (hr : r < 8) (h : ∀ p, p % 8 ≠ r → f p = 0) : ∀ n, sm f (8 * n) = sm (fun t => f (8 * t + r)) n
  | 0 => rfl
  | n + 1 => by
    have ih := sm8 hr h n
    rw [sm, ← ih]
    have e : sm f (8 * (n + 1)) = sm f (8 * n) + f (8 * n) + f (8 * n + 1) + f (8 * n + 2) + f (8 * n + 3) + f (8 * n + 4) + f (8 * n + 5) + f (8 * n + 6) + f (8 * n + 7) := rfl
    have g : ∀ i, i < 8 → i ≠ r → f (8 * n + i) = 0 := fun i hi hne => h _ (by omega)
    rw [e]
    have hc : r = 0 ∨ r = 1 ∨ r = 2 ∨ r = 3 ∨ r = 4 ∨ r = 5 ∨ r = 6 ∨ r = 7 := by omega
    have e0 : f (8 * n) = f (8 * n + 0) := rfl
    rcases hc with rfl | rfl | rfl | rfl | rfl | rfl | rfl | rfl
    · have := g 1 (by omega) (by omega); have := g 2 (by omega) (by omega); have := g 3 (by omega) (by omega); have := g 4 (by omega) (by omega); have := g 5 (by omega) (by omega); have := g 6 (by omega) (by omega); have := g 7 (by omega) (by omega); omega
    · have := g 0 (by omega) (by omega); have := g 2 (by omega) (by omega); have := g 3 (by omega) (by omega); have := g 4 (by omega) (by omega); have := g 5 (by omega) (by omega); have := g 6 (by omega) (by omega); have := g 7 (by omega) (by omega); omega
    · have := g 0 (by omega) (by omega); have := g 1 (by omega) (by omega); have := g 3 (by omega) (by omega); have := g 4 (by omega) (by omega); have := g 5 (by omega) (by omega); have := g 6 (by omega) (by omega); have := g 7 (by omega) (by omega); omega
    · have := g 0 (by omega) (by omega); have := g 1 (by omega) (by omega); have := g 2 (by omega) (by omega); have := g 4 (by omega) (by omega); have := g 5 (by omega) (by omega); have := g 6 (by omega) (by omega); have := g 7 (by omega) (by omega); omega
    · have := g 0 (by omega) (by omega); have := g 1 (by omega) (by omega); have := g 2 (by omega) (by omega); have := g 3 (by omega) (by omega); have := g 5 (by omega) (by omega); have := g 6 (by omega) (by omega); have := g 7 (by omega) (by omega); omega
    · have := g 0 (by omega) (by omega); have := g 1 (by omega) (by omega); have := g 2 (by omega) (by omega); have := g 3 (by omega) (by omega); have := g 4 (by omega) (by omega); have := g 6 (by omega) (by omega); have := g 7 (by omega) (by omega); omega
    · have := g 0 (by omega) (by omega); have := g 1 (by omega) (by omega); have := g 2 (by omega) (by omega); have := g 3 (by omega) (by omega); have := g 4 (by omega) (by omega); have := g 5 (by omega) (by omega); have := g 7 (by omega) (by omega); omega
    · have := g 0 (by omega) (by omega); have := g 1 (by omega) (by omega); have := g 2 (by omega) (by omega); have := g 3 (by omega) (by omega); have := g 4 (by omega) (by omega); have := g 5 (by omega) (by omega); have := g 6 (by omega) (by omega); omega
theorem x8_odds44 {I : zk_I} {J : zk_J} {r : Nat} {f : Nat → Nat} {p1 p2 p3 : Int32} (hr : r < 8) (hJ : ∀ t, t < 256 → J 92 (8 * t + r) = lN (f (8 * t + r))) (K : Int64 → Option (Int64 × zk_J)) : l_X8_odds_44 I J p1 p2 p3 K 3000 0 (nI r) = K (lN (sm (fun t => f (8 * t + r)) 256)) := by
  have key := zl_up (fun n i (s : Int64) => l_X8_odds_44 I J p1 p2 p3 K n s (nI (8 * i + r))) K (fun i => lN (sm (fun t => f (8 * t + r)) i)) 256 (fun n => ?_) (fun n i hi => ?_) 3000 0 (by omega) (by omega)
  · rw [Nat.mul_zero, Nat.zero_add] at key
    exact key
  · rw [l_X8_odds_44, if_pos (show (2048 : Int32) ≤ nI (8 * 256 + r) from nI_le (a := 2048) (by omega) (by omega))]
  · rw [l_X8_odds_44, if_neg (show ¬ (2048 : Int32) ≤ nI (8 * i + r) from nI_ge (b := 2048) (by omega) (by decide)), zck (zin (show 8 * i + r < 2048 by omega) (by decide)), nI_clamp (by omega), hJ i hi, lN_add, zlt, xlit 8, nI_add, show 8 * i + r + 8 = 8 * (i + 1) + r by omega]
    rfl
theorem part_one : ∀ i, i < 2 → f_X8_part 217728000 (nI i) = some 1 := by
  intro i hi
  have h := x8_part (a := 1) (b := 1) (v := 217728000) (i := i) (by decide) (by decide) hi
  have e : ptN 1 1 i = 1 := by
    unfold ptN
    have hi01 : i = 0 ∨ i = 1 := by omega
    rcases hi01 with rfl | rfl <;> rfl
  rw [e] at h
  exact h
theorem o_odds {S : ST} (hw : wfS S) (a a2 a3 : Int32) : opG S (fun I J => f_X7_odds I J a a2 a3) (fun I J => f_X8_odds I J a a2 a3) := by
  have hnb : nbT (tdS S) ≤ 4 := hw.2.1.2.1
  have hnr : nrT (tdS S) ≤ 8 := hw.2.1.1
  have hpw := pow_le8 hnr
  unfold f_X7_odds f_X8_odds
  rcases arg_cases a (n := nbT (tdS S)) (by omega) with ha | ⟨j, hj, rfl⟩
  · refine opG.no (-2) (fun I J hI => ?_) (fun I J hI => ?_)
    · rw [x_hasB0 hI.2.1 ha, zlt, if_pos rfl]
    · rw [x8_isB0 hw.2.1 hI.2.1 ha, zbd1, if_pos rfl]
  · rcases arg_cases a2 (n := nrT (tdS S)) (by omega) with ha2 | ⟨r, hr, rfl⟩
    · refine opG.no (-2) (fun I J hI => ?_) (fun I J hI => ?_)
      · rw [x_hasB1 hw.2.1 hI.2.1 hj, zlt, if_neg n10, x_hasR0 hI.2.1 ha2, zlt, if_pos rfl]
      · rw [x8_isB1 hw.2.1 hI.2.1 hj, zbd1, if_neg n10, x8_isR0 hw.2.1 hI.2.1 ha2, zbd1, if_pos rfl]
    · rcases arg_cases a3 (n := 2) (by decide) with h2 | ⟨i, hi, rfl⟩
      · obtain ⟨n0, n1⟩ := bad01 h2
        refine opG.no (-3) (fun I J hI => ?_) (fun I J hI => ?_)
        · rw [x_hasB1 hw.2.1 hI.2.1 hj, zlt, if_neg n10, x_hasR1 hw.2.1 hI.2.1 hr, zlt, if_neg n10, zjp0, if_neg n0, if_neg n1]
        · rw [x8_isB1 hw.2.1 hI.2.1 hj, zbd1, if_neg n10, x8_isR1 hw.2.1 hI.2.1 hr, zbd1, if_neg n10, in01 h2, zlt, if_pos rfl]
      · obtain ⟨w1, w2, w3, -⟩ := hw.2.2.1.2 j hj
        have w1' : hoS S j < nrT (tdS S) := w1
        have w2' : haS S j < 2 ^ nrT (tdS S) := w2
        have hpc : 1 ≤ pc (haS S j) := pc_pos _ (by omega) _ (show hoS S j < 8 by omega) w3
        obtain ⟨g1, g2, g3, g4, g5⟩ := gn_small hw.2.1 hw.2.2.1 hj (fun x => decide (x = r))
        have hif : ∀ (A B : Option (Int64 × zk_I × zk_J)), (if nI i = 0 then A else if nI i = (1 : Int32) then A else B) = A := by
          intro A B
          have hi01 : i = 0 ∨ i = 1 := by omega
          rcases hi01 with rfl | rfl <;> rfl
        have e6 : (6 : Int32) + nI j = nI (6 + j) := by rw [xlit 6, nI_add]
        have hbitM : ∀ I, invM S I → ((I 80 ((6 : Int32) + nI j).toNatClampNeg >>> (nI r &&& 31)) &&& (1 : Int32)) = nI (if (haS S j).testBit r then 1 else 0) := by
          intro I hI
          obtain ⟨d1, d2, -⟩ := hI.2.2.1.2.2 j hj
          rw [Nat.zero_add] at d2
          rw [e6, nI_clamp (by omega), d2, xlit 1, xlit 31]
          exact xb_bit (show haS S j < 2 ^ 31 by omega) (by omega)
        have hbitC : ∀ I, invC S I → f_X7_hasBit (I 18 (nI j).toNatClampNeg) (nI r) = nI (if (haS S j).testBit r then 1 else 0) := by
          intro I hI
          obtain ⟨d1, d2, -⟩ := hI.2.2.1.2 j hj
          have d2' : I 18 j = nI (haS S j) := d2
          rw [nI_clamp (by omega), d2']
          exact x_hasBit (show haS S j < 2 ^ 31 by omega) (by omega)
        cases hh : (haS S j).testBit r
        · refine ⟨lN (ptN (gnV (tdS S) (dyS S) (haS S j) (fun x => decide (x = r)) (haS S j) (hoS S j)) (ltsN (nrT (tdS S) - pc (haS S j))) i), fun I J hI => ?_, fun I J hI => ?_⟩
          · have hI13 : invC S (zk_sc I 63 (upd (I 63) 0 (nI r))) := hI.fr ⟨by rw [zk_sc_n _ _ (by decide)], by rw [zk_sc_n _ _ (by decide)], fun c hc => zk_sc_n _ _ (by omega)⟩
            obtain ⟨I1, J1, a1, a2, a3, a4, a5⟩ := x_foreS (I := zk_sc I 63 (upd (I 63) 0 (nI r))) (J := J) (tb := 69) (V := fun s w => lN (gnV (tdS S) (dyS S) (haS S j) (fun x => decide (x = r)) s w)) hw.2.1 hw.2.2.1 hI13.2.1 hI13.2.2.1 hj (by decide) (by decide) (Or.inr ⟨by decide, rfl⟩) (fun I1 b1 b2 _ => ms_odds hw.2.1 b1 hr (by rw [b2 0 (by decide) (by decide), zk_sc_s, pk_us]))
            have a3' : ∀ c, ¬ (63 ≤ c ∧ c ≤ 66) → I1 c = I c := fun c hc => by rw [a3 c hc, zk_sc_n _ _ (by omega)]
            refine ⟨I1, J1, ?_, hI.fr (rel63 a3').1, (rel63 a3').2⟩
            dsimp only
            have hx := x_low g1 g2 g3 hi
            rw [x_hasB1 hw.2.1 hI.2.1 hj, zlt, if_neg n10, x_hasR1 hw.2.1 hI.2.1 hr, zlt, if_neg n10, zjp0, hif, zck (zin (show j < 4 by omega) (by decide)), hbitC I hI, hh, zlt, if_pos (show nI (if false = true then 1 else 0) = (0 : Int32) from rfl), zlt, a1, zbd3, x_lotsBelow hw.2.1 a2 w2 hpc, zbd1, hx, zbd1]
          · obtain ⟨J2, b1, b2⟩ := x8_laysOdds (J := J) hw.2.1 hw.2.2.1 hI.2.1 hI.2.2.1 hj
            refine ⟨J2, ?_⟩
            dsimp only
            have hsum := od_sum hw.2.1 hw.2.2.1 hj (fun x => decide (x = r))
            have h8 := sm8 (f := fun p => odA (tdS S) (dyS S) (haS S j) (hoS S j) 2048 p * odW (tdS S) (haS S j) (fun x => decide (x = r)) p) (show r < 8 by omega) (fun p hp => by
              show odA (tdS S) (dyS S) (haS S j) (hoS S j) 2048 p * odW (tdS S) (haS S j) (fun x => decide (x = r)) p = 0
              unfold odW
              dsimp only
              rw [if_neg (show ¬ decide (p % 8 = r) = true by simp [hp])]
              split <;> rw [Nat.mul_zero]) 256
            have hcell : ∀ t, t < 256 → J2 92 (8 * t + r) = lN (odA (tdS S) (dyS S) (haS S j) (hoS S j) 2048 (8 * t + r) * odW (tdS S) (haS S j) (fun x => decide (x = r)) (8 * t + r)) := by
              intro t ht
              rw [b2 _ (by omega), Nat.mul_comm]
              unfold odW
              rw [show (8 * t + r) / 8 = t by omega, show (8 * t + r) % 8 = r by omega]
              dsimp only
              rw [if_pos (show decide (r = r) = true by simp)]
              by_cases he : t = haS S j
              · rw [if_pos he, Nat.mul_zero]
                have : odA (tdS S) (dyS S) (haS S j) (hoS S j) 2048 (8 * t + r) = 0 := by
                  apply Classical.byContradiction
                  intro hne
                  have hst : stP (tdS S) (haS S j) (hoS S j) (8 * t + r) := od_sup hw.2.1 hw.2.2.1 hj (Nat.le_refl _) hne
                  have := (isSt_sub hst.2.2).2
                  rw [show (8 * t + r) / 8 = t by omega, show (8 * t + r) % 8 = r by omega, he, hh] at this
                  cases this
                have e : odA (tdS S) (dyD (ddS S)) (haD (ddS S) j) (hoD (ddS S) j) 2048 (8 * t + r) = 0 := this
                rw [e, Nat.zero_mul]
              · rw [if_neg he]
            rw [x8_isB1 hw.2.1 hI.2.1 hj, zbd1, if_neg n10, x8_isR1 hw.2.1 hI.2.1 hr, zbd1, if_neg n10, in01' i hi, zlt, if_neg n10, b1, zbd1, x8_odds44 (f := fun p => odA (tdS S) (dyS S) (haS S j) (hoS S j) 2048 p * odW (tdS S) (haS S j) (fun x => decide (x = r)) p) (show r < 8 by omega) hcell, hbitM I hI, hh, if_neg (show ¬ nI (if false = true then 1 else 0) = (1 : Int32) by decide), e6, zck (zin (show 6 + j < 14 by omega) (by decide)), zlt]
            have h8' : sm (fun t => odA (tdS S) (dyS S) (haS S j) (hoS S j) 2048 (8 * t + r) * odW (tdS S) (haS S j) (fun x => decide (x = r)) (8 * t + r)) 256 = (217728000 / ltsN (nrT (tdS S) - pc (haS S j))) * gnV (tdS S) (dyS S) (haS S j) (fun x => decide (x = r)) (haS S j) (hoS S j) := h8.symm.trans hsum
            rw [h8', x8_part g4 g5 hi, zbd1]
        · refine ⟨1, fun I J hI => ⟨I, J, ?_, hI, keepM.rf⟩, fun I J hI => ?_⟩
          · dsimp only
            rw [x_hasB1 hw.2.1 hI.2.1 hj, zlt, if_neg n10, x_hasR1 hw.2.1 hI.2.1 hr, zlt, if_neg n10, zjp0, hif, zck (zin (show j < 4 by omega) (by decide)), hbitC I hI, hh, zlt, if_neg (show ¬ nI (if true = true then 1 else 0) = (0 : Int32) by decide)]
          · obtain ⟨J2, b1, b2⟩ := x8_laysOdds (J := J) hw.2.1 hw.2.2.1 hI.2.1 hI.2.2.1 hj
            refine ⟨J2, ?_⟩
            dsimp only
            rw [x8_isB1 hw.2.1 hI.2.1 hj, zbd1, if_neg n10, x8_isR1 hw.2.1 hI.2.1 hr, zbd1, if_neg n10, in01' i hi, zlt, if_neg n10, b1, zbd1, x8_odds44 (f := fun p => odL (tdS S) p * odA (tdS S) (dyS S) (haS S j) (hoS S j) 2048 p) (show r < 8 by omega) (fun t ht => b2 _ (by omega)), hbitM I hI, hh, if_pos (show nI (if true = true then 1 else 0) = (1 : Int32) from rfl), e6, zck (zin (show 6 + j < 14 by omega) (by decide)), zlt, part_one i hi, zbd1]

/-! longest, shortest, can, all, fame -/
def foC (S : ST) (j : Nat) (m : Int32) (v : Nat) : Prop := ∀ I J, invC S I → ∃ I1 J1, f_X3_foretell I J (nI j) m = some (lN v, I1, J1) ∧ (∀ c, ¬ (63 ≤ c ∧ c ≤ 66) → I1 c = I c)
abbrev dyS (S : ST) : Nat := dyD (ddS S)
abbrev haS (S : ST) (j : Nat) : Nat := haD (ddS S) j
abbrev hoS (S : ST) (j : Nat) : Nat := hoD (ddS S) j
theorem fo_S {S : ST} (hw : wfS S) {j : Nat} (hj : j < nbT (tdS S)) {m : Int32} {val : Nat → Nat → Nat} (h0 : ¬ m = 0) (h1 : ¬ m = (1 : Int32)) (h4 : ¬ m = (4 : Int32)) (hM : ∀ I J, begC (tdS S) (dyS S) (haS S j) (hoS S j) I → msOK (tdS S) (haS S j) (fun s w => lN (val s w)) I J m 69) : foC S j m (val (haS S j) (hoS S j)) := by
  intro I J hI
  obtain ⟨I1, J1, a1, a2, a3, -⟩ := x_foreS (J := J) (tb := 69) (V := fun s w => lN (val s w)) hw.2.1 hw.2.2.1 hI.2.1 hI.2.2.1 hj h1 h4 (Or.inr ⟨h0, rfl⟩) (fun I1 b1 _ _ => hM I1 J b1)
  exact ⟨I1, J1, a1, a3⟩
theorem fo_most {S : ST} (hw : wfS S) {j : Nat} (hj : j < nbT (tdS S)) : foC S j 0 (lgV (tdS S) (dyS S) (haS S j) (haS S j) (hoS S j)) := by
  intro I J hI
  obtain ⟨I1, J1, a1, a2, a3, -⟩ := x_foreMost (J := J) hw.2.1 hw.2.2.1 hI.2.1 hI.2.2.1 hj
  exact ⟨I1, J1, a1, a3⟩
theorem fo_ways {S : ST} (hw : wfS S) {j : Nat} (hj : j < nbT (tdS S)) : foC S j 1 (wyV (tdS S) (dyS S) (haS S j) (haS S j) (hoS S j)) := by
  intro I J hI
  exact x_foreL (V := fun s w => lN (wyV (tdS S) (dyS S) (haS S j) s w)) hw.2.1 hw.2.2.1 hI.2.1 hI.2.2.1 hj (Or.inl rfl) (fun I1 J1 b1 b2 => ms_ways hw.2.1 b1 (by decide) b2)
theorem fo_all {S : ST} (hw : wfS S) {j : Nat} (hj : j < nbT (tdS S)) : foC S j 4 (alV (tdS S) (dyS S) (haS S j) (haS S j) (hoS S j)) := by
  intro I J hI
  exact x_foreL (V := fun s w => lN (alV (tdS S) (dyS S) (haS S j) s w)) hw.2.1 hw.2.2.1 hI.2.1 hI.2.2.1 hj (Or.inr rfl) (fun I1 J1 b1 b2 => ms_all hw.2.1 b1 (by decide) b2)
theorem fo_short {S : ST} (hw : wfS S) {j : Nat} (hj : j < nbT (tdS S)) : foC S j 2 (shV (tdS S) (dyS S) (haS S j) (haS S j) (hoS S j)) := fo_S (val := shV (tdS S) (dyS S) (haS S j)) hw hj (by decide) (by decide) (by decide) (fun I J h => ms_short hw.2.1 h)
theorem fo_can {S : ST} (hw : wfS S) {j : Nat} (hj : j < nbT (tdS S)) : foC S j 3 (cnV (tdS S) (dyS S) (haS S j) (haS S j) (hoS S j)) := fo_S (val := cnV (tdS S) (dyS S) (haS S j)) hw hj (by decide) (by decide) (by decide) (fun I J h => ms_can hw.2.1 h)
theorem fo_fame {S : ST} (hw : wfS S) {j : Nat} (hj : j < nbT (tdS S)) : foC S j 5 (fmV (tdS S) (dyS S) (haS S j) (haS S j) (hoS S j)) := fo_S (val := fmV (tdS S) (dyS S) (haS S j)) hw hj (by decide) (by decide) (by decide) (fun I J h => ms_fame hw.2.1 h)
/-- the reference's cell k -/
def foM (S : ST) (j k v : Nat) : Prop := ∀ I, invM S I → ∃ I1, f_X8_laysAll I (nI j) = some (nI (8 * haS S j + hoS S j), I1) ∧ (∀ c, ¬ (85 ≤ c ∧ c ≤ 91) → I1 c = I c) ∧ I1 k (8 * haS S j + hoS S j) = nI v ∧ 8 * haS S j + hoS S j < 2048
theorem fm_k {S : ST} (hw : wfS S) {j : Nat} (hj : j < nbT (tdS S)) {k v : Nat} (hk : ∀ I, atQ I (8 * haS S j + hoS S j) (RV7 (tdS S) (dyS S) (haS S j) (haS S j) (hoS S j)) → I k (8 * haS S j + hoS S j) = nI v) : foM S j k v := by
  intro I hI
  obtain ⟨I1, a1, a2, a3⟩ := x8_laysAll hw.2.1 hw.2.2.1 hI.2.1 hI.2.2.1 hj
  obtain ⟨w1, w2, w3, -⟩ := hw.2.2.1.2 j hj
  have hnr : nrT (tdS S) ≤ 8 := hw.2.1.1
  have hpw := pow_le8 hnr
  have hb : haS S j < 2 ^ nrT (tdS S) := w2
  have hb2 : hoS S j < nrT (tdS S) := w1
  exact ⟨I1, a1, a2, hk I1 (a3 _ _ w2 w1 (isSt_0 hw.2.2.1 hj)), by omega⟩
theorem op_sh {S : ST} (hw : wfS S) (a m : Int32) (k : Nat) (v : Nat → Nat) (hC : ∀ j, j < nbT (tdS S) → foC S j m (v j)) (hM : ∀ j, j < nbT (tdS S) → foM S j k (v j)) : opF S (fun I J => zk_lt (f_X6_hasBook I 3 a) (fun (r2 : Int32) => (if r2 = 0 then (some ((-2 : Int32), I, J)) else (zk_bd3 (f_X3_foretell I J a m) (fun (r5 : Int64) (I6 : zk_I) (J7 : zk_J) => some (r5.toInt32, I6, J7)))))) (fun I => zk_bd1 (f_X8_isBook I a) (fun (r2 : Int32) => (if r2 = 0 then (some ((-2 : Int32), I)) else (zk_bd2 (f_X8_laysAll I a) (fun (r5 : Int32) (I6 : zk_I) => zk_ck (zk_in r5 2048) (some ((I6 k r5.toNatClampNeg), I6))))))) := by
  have hnb : nbT (tdS S) ≤ 4 := hw.2.1.2.1
  rcases arg_cases a (n := nbT (tdS S)) (by omega) with ha | ⟨j, hj, rfl⟩
  · refine opF.no (-2) (fun I J hI => ?_) (fun I hI => ?_)
    · rw [x_hasB0 hI.2.1 ha, zlt, if_pos rfl]
    · rw [x8_isB0 hw.2.1 hI.2.1 ha, zbd1, if_pos rfl]
  · refine ⟨nI (v j), fun I J hI => ?_, fun I hI => ?_⟩
    · obtain ⟨I1, J1, a1, a2⟩ := hC j hj I J hI
      refine ⟨I1, J1, ?_, hI.fr (rel63 a2).1, (rel63 a2).2⟩
      dsimp only
      rw [x_hasB1 hw.2.1 hI.2.1 hj, zlt, if_neg n10, a1, zbd3, lN_i]
    · obtain ⟨I1, a1, a2, a3, a4⟩ := hM j hj I hI
      refine ⟨I1, ?_, hI.fr (rel85 a2).1, (rel85 a2).2⟩
      dsimp only
      rw [x8_isB1 hw.2.1 hI.2.1 hj, zbd1, if_neg n10, a1, zbd2, zck (zin a4 (by decide)), nI_clamp (by omega), a3]
theorem o_shortest {S : ST} (hw : wfS S) (a : Int32) : opF S (fun I J => f_X7_shortest I J a) (fun I => f_X8_shortest I a) := op_sh hw a 2 88 _ (fun j hj => fo_short hw hj) (fun j hj => fm_k hw hj (fun I h => h.2.2.2.1))
theorem o_can {S : ST} (hw : wfS S) (a : Int32) : opF S (fun I J => f_X7_can I J a) (fun I => f_X8_can I a) := op_sh hw a 3 89 _ (fun j hj => fo_can hw hj) (fun j hj => fm_k hw hj (fun I h => h.2.2.2.2.1))
theorem o_all {S : ST} (hw : wfS S) (a : Int32) : opF S (fun I J => f_X7_all I J a) (fun I => f_X8_all I a) := op_sh hw a 4 87 _ (fun j hj => fo_all hw hj) (fun j hj => fm_k hw hj (fun I h => h.2.2.1))
theorem o_fame {S : ST} (hw : wfS S) (a : Int32) : opF S (fun I J => f_X7_fame I J a) (fun I => f_X8_fame I a) := op_sh hw a 5 90 _ (fun j hj => fo_fame hw hj) (fun j hj => fm_k hw hj (fun I h => h.2.2.2.2.2.1))
theorem bad01 {a : Int32} (h : a < 0 ∨ nI 2 ≤ a) : ¬ a = 0 ∧ ¬ a = (1 : Int32) := by
  constructor
  · intro q; subst q; revert h; decide
  · intro q; subst q; revert h; decide
theorem o_longest {S : ST} (hw : wfS S) (a a2 : Int32) : opF S (fun I J => f_X7_longest I J a a2) (fun I => f_X8_longest I a a2) := by
  have hnb : nbT (tdS S) ≤ 4 := hw.2.1.2.1
  unfold f_X7_longest f_X8_longest
  rcases arg_cases a (n := nbT (tdS S)) (by omega) with ha | ⟨j, hj, rfl⟩
  · refine opF.no (-2) (fun I J hI => ?_) (fun I hI => ?_)
    · rw [x_hasB0 hI.2.1 ha, zlt, if_pos rfl]
    · rw [x8_isB0 hw.2.1 hI.2.1 ha, zbd1, if_pos rfl]
  · rcases arg_cases a2 (n := 2) (by decide) with h2 | ⟨i, hi, rfl⟩
    · obtain ⟨n0, n1⟩ := bad01 h2
      refine opF.no (-3) (fun I J hI => ?_) (fun I hI => ?_)
      · rw [x_hasB1 hw.2.1 hI.2.1 hj, zlt, if_neg n10, zjp0, if_neg n0, if_neg n1]
      · rw [x8_isB1 hw.2.1 hI.2.1 hj, zbd1, if_neg n10, in01 h2, zlt, if_pos rfl]
    · have hi01 : i = 0 ∨ i = 1 := by omega
      rcases hi01 with rfl | rfl
      · refine ⟨nI (lgV (tdS S) (dyS S) (haS S j) (haS S j) (hoS S j)), fun I J hI => ?_, fun I hI => ?_⟩
        · obtain ⟨I1, J1, a1, a2⟩ := fo_most hw hj I J hI
          refine ⟨I1, J1, ?_, hI.fr (rel63 a2).1, (rel63 a2).2⟩
          dsimp only
          rw [x_hasB1 hw.2.1 hI.2.1 hj, zlt, if_neg n10, zjp0, if_pos (show nI 0 = (0 : Int32) from rfl), if_pos (show nI 0 = (0 : Int32) from rfl), zlt, a1, zbd3, lN_i]
        · obtain ⟨I1, a1, a2, a3, a4⟩ := fm_k hw hj (k := 85) (fun I h => h.1) I hI
          refine ⟨I1, ?_, hI.fr (rel85 a2).1, (rel85 a2).2⟩
          dsimp only
          rw [x8_isB1 hw.2.1 hI.2.1 hj, zbd1, if_neg n10, in01' 0 (by decide), zlt, if_neg n10, a1, zbd2, if_pos (show nI 0 = (0 : Int32) from rfl), zck (zin a4 (by decide)), nI_clamp (by omega), a3]
          rfl
      · have m10 : ¬ nI 1 = (0 : Int32) := by decide
        refine ⟨nI (wyV (tdS S) (dyS S) (haS S j) (haS S j) (hoS S j)), fun I J hI => ?_, fun I hI => ?_⟩
        · obtain ⟨I1, J1, a1, a2⟩ := fo_ways hw hj I J hI
          refine ⟨I1, J1, ?_, hI.fr (rel63 a2).1, (rel63 a2).2⟩
          dsimp only
          rw [x_hasB1 hw.2.1 hI.2.1 hj, zlt, if_neg n10, zjp0, if_neg m10, if_neg m10, if_pos (show nI 1 = (1 : Int32) from rfl), zlt, a1, zbd3, lN_i]
        · obtain ⟨I1, a1, a2, a3, a4⟩ := fm_k hw hj (k := 86) (fun I h => h.2.1) I hI
          refine ⟨I1, ?_, hI.fr (rel85 a2).1, (rel85 a2).2⟩
          dsimp only
          rw [x8_isB1 hw.2.1 hI.2.1 hj, zbd1, if_neg n10, in01' 1 (by decide), zlt, if_neg n10, a1, zbd2, if_neg m10, zck (zin a4 (by decide)), nI_clamp (by omega), a3]
          rfl

theorem pc0 : pc 0 = 0 := by decide
theorem x_foreS {T : TD} {D : DD} {I : zk_I} {J : zk_J} {b tb : Nat} {a3 : Int32} {V : Nat → Nat → Int64} (hT : wfT T) (hD : wfD T D) (hr : repC T I 3) (hd : repDC T D I 16) (hb : b < nbT T) (h1 : ¬ a3 = (1 : Int32)) (h4 : ¬ a3 = (4 : Int32)) (htb : (a3 = 0 ∧ tb = 68) ∨ (¬ a3 = 0 ∧ tb = 69)) (hM : ∀ I1, begC T (dyD D) (haD D b) (hoD D b) I1 → (∀ q, q ≠ 8 → q ≠ 9 → I1 63 q = I 63 q) → (∀ c, ¬ (63 ≤ c ∧ c ≤ 66) → I1 c = I c) → msOK T (haD D b) V I1 J a3 tb) : ∃ I1 J1, f_X3_foretell I J (nI b) a3 = some (V (haD D b) (hoD D b), I1, J1) ∧ begC T (dyD D) (haD D b) (hoD D b) I1 ∧ (∀ c, ¬ (63 ≤ c ∧ c ≤ 66) → I1 c = I c) ∧ (∀ c, c ≠ tb → J1 c = J c) ∧ flD T (haD D b) V J1 tb (haD D b) := by
  obtain ⟨I1, b1, b2, b3, b4⟩ := x_beginR hT hD hr hd hb
  obtain ⟨w1, w2, w3, -⟩ := hD.2 b hb
  have hnr := hT.1
  have hpw := pow_le8 hnr
  have hh : 1 ≤ haD D b := by
    by_cases h0 : haD D b = 0
    · rw [h0, Nat.zero_testBit] at w3; cases w3
    · omega
  obtain ⟨J1, f1, f2, f3⟩ := x_fillR hT b2 hh w2 (hM I1 b2 b4 b3)
  refine ⟨I1, J1, ?_, b2, b3, f2, f3⟩
  have est : f_X3_stateOf (nI (haD D b)) (nI (hoD D b)) = nI (8 * haD D b + hoD D b) := by
    unfold f_X3_stateOf
    rw [xlit 8, pk_mul, nI_add, Nat.mul_comm]
  have hv : J1 tb (8 * haD D b + hoD D b) = V (haD D b) (hoD D b) := f3 _ _ (Nat.le_refl _) w2 (Nat.and_self _) w1 w3
  unfold f_X3_foretell
  rw [b1, zbd1, zjp1, zjp0, if_neg h1, if_neg h4]
  dsimp only
  rw [zjp1]
  rcases htb with ⟨ha, ht⟩ | ⟨ha, ht⟩
  · subst ht
    rw [if_pos ha]
    dsimp only
    rw [zck (show z_isB 68 = true by decide), f1, zbd1, b2.2.1, b2.2.2.1, zlt, est, zck (zin (show 8 * haD D b + hoD D b < 2048 by omega) (by decide)), nI_clamp (show 8 * haD D b + hoD D b < 2 ^ 31 by omega), hv]
  · subst ht
    rw [if_neg ha]
    dsimp only
    rw [zck (show z_isB 69 = true by decide), f1, zbd1, b2.2.1, b2.2.2.1, zlt, est, zck (zin (show 8 * haD D b + hoD D b < 2048 by omega) (by decide)), nI_clamp (show 8 * haD D b + hoD D b < 2 ^ 31 by omega), hv]
theorem x_foreMost {T : TD} {D : DD} {I : zk_I} {J : zk_J} {b : Nat} (hT : wfT T) (hD : wfD T D) (hr : repC T I 3) (hd : repDC T D I 16) (hb : b < nbT T) : ∃ I1 J1, f_X3_foretell I J (nI b) 0 = some (lN (lgV T (dyD D) (haD D b) (haD D b) (hoD D b)), I1, J1) ∧ begC T (dyD D) (haD D b) (hoD D b) I1 ∧ (∀ c, ¬ (63 ≤ c ∧ c ≤ 66) → I1 c = I c) ∧ (∀ c, c ≠ 68 → J1 c = J c) ∧ flD T (haD D b) (fun s w => lN (lgV T (dyD D) (haD D b) s w)) J1 68 (haD D b) :=
  x_foreS (tb := 68) (V := fun s w => lN (lgV T (dyD D) (haD D b) s w)) hT hD hr hd hb (by decide) (by decide) (Or.inl ⟨rfl, rfl⟩) (fun I1 h1 _ _ => ms_most hT h1)

theorem x_msS {T : TD} {dy h w0 : Nat} {I : zk_I} {J : zk_J} {a1 : Int32} {tb s w : Nat} {th : Nat → Nat} {jn : Nat → Nat → Nat} (hT : wfT T) (hB : begC T dy h w0 I) (hs : s < 2 ^ nrT T) (hsub : s &&& h = h) (hw : w < nrT T) (h1 : ¬ a1 = (1 : Int32)) (h4 : ¬ a1 = (4 : Int32)) (h6 : ¬ a1 = (6 : Int32)) (h7 : ¬ a1 = (7 : Int32)) (hth : ∀ x, x < nrT T → (chN T dy h s w).testBit x = true → f_X3_throughOne I a1 (J tb (8 * (s ||| 2 ^ x) + x)) (nI s) (nI x) = some (lN (th x))) (hb : ∀ n v, n ≤ nrT T → jF (chN T dy h s w) th jn n = some v → v < 2 ^ 62) (hj : ∀ x u, x < nrT T → (chN T dy h s w).testBit x = true → u < 2 ^ 62 → f_X3_join a1 (lN u) (lN (th x)) = lN (jn u (th x))) : f_X3_measureOf I J a1 tb (nI s) (nI w) = some (if chN T dy h s w = 0 then 0 else encO (jF (chN T dy h s w) th jn (nrT T))) := by
  have hpw := pow_le8 hT.1
  have hc := chN_lt hT dy h s w
  unfold f_X3_measureOf
  rw [zjp1, zjp0, if_neg h1, if_neg h4]
  dsimp only
  rw [zjp1, if_pos rfl, x_choices hT hB hs hsub hw, zbd1]
  dsimp only
  by_cases h0 : chN T dy h s w = 0
  · rw [h0, if_pos (show nI 0 = (0 : Int32) from rfl), if_neg h1, if_pos rfl]
  · have hz : ¬ nI (chN T dy h s w) = (0 : Int32) := fun q => h0 (xl_inj (b := 0) (by omega) (by decide) q)
    rw [if_neg hz, if_neg h0, x_ms65 hT hB.1 (by omega) hc hth hb hj, zjp1, zjp0, if_neg h6, if_neg h7]
    dsimp only
    rw [if_pos rfl]

/-! a measure joined over the choices -/
def jF (c : Nat) (th : Nat → Nat) (jn : Nat → Nat → Nat) (n : Nat) : Option Nat := foR (fun x a => if c.testBit x then some (match a with | none => th x | some v => jn v (th x)) else a) none n
def encO (o : Option Nat) : Int64 := match o with | none => -1 | some v => lN v
theorem lN_ne {v : Nat} (h : v < 2 ^ 62) : ¬ lN v = (-1 : Int64) := by
  intro q
  have h1 := pk_lT (n := v) (by omega)
  rw [q] at h1
  have : (-1 : Int64).toInt = -1 := by decide
  omega
theorem cmp0 {x y : Int64} : lg_cmp x y = 0 ↔ x = y := by
  unfold lg_cmp
  by_cases h : x = y
  · subst h
    simp
  · by_cases h2 : y < x
    · simp [h, h2]
    · simp [h, h2]
theorem x_sb {s x : Nat} (hx : x < 8) : f_X3_stateBehind (nI s) (nI x) = nI (8 * (s ||| 2 ^ x) + x) := by
  unfold f_X3_stateBehind f_X3_stateOf
  rw [zlt, xlit 1, xlit 31, xb_shl1 x (by omega), xb_or, xlit 8, pk_mul, nI_add, Nat.mul_comm]
theorem x_ms65 {T : TD} {I : zk_I} {J : zk_J} {a1 : Int32} {tb s c : Nat} {th : Nat → Nat} {jn : Nat → Nat → Nat} (hT : wfT T) (hr : repC T I 3) (hs : s < 256) (hc : c < 256) (hth : ∀ x, x < nrT T → c.testBit x = true → f_X3_throughOne I a1 (J tb (8 * (s ||| 2 ^ x) + x)) (nI s) (nI x) = some (lN (th x))) (hb : ∀ n v, n ≤ nrT T → jF c th jn n = some v → v < 2 ^ 62) (hj : ∀ x u, x < nrT T → c.testBit x = true → u < 2 ^ 62 → f_X3_join a1 (lN u) (lN (th x)) = lN (jn u (th x))) (K : Int64 → Option Int64) : l_X3_measureOf_65 I J tb a1 (nI s) (nI c) K 3000 (-1) 0 = K (encO (jF c th jn (nrT T))) := by
  have hnr := hT.1
  have key := zl_up (fun n i (o : Option Nat) => l_X3_measureOf_65 I J tb a1 (nI s) (nI c) K n (encO o) (nI i)) (fun o => K (encO o)) (fun i => jF c th jn i) (nrT T) (fun n => ?_) (fun n i hi => ?_) 3000 0 (by omega) (by omega)
  · exact key
  · simp only [l_X3_measureOf_65, hr.1]
    rw [if_pos (nI_le (Nat.le_refl _) (by omega))]
  · have ho : s ||| 2 ^ i < 256 := or_lt hs (p2_lt8 (by omega))
    rw [l_X3_measureOf_65, hr.1, if_neg (nI_ge hi (by omega)), zlt, x_hasBit (show c < 2 ^ 31 by omega) (show i < 32 by omega), zjp1, q01]
    cases hbit : c.testBit i
    · rw [if_neg (by decide), nI_1]
      have : jF c th jn (i + 1) = jF c th jn i := by
        unfold jF
        rw [foR, hbit, if_neg (by decide)]
      rw [this]
    · rw [if_pos rfl, zlt, x_sb (by omega), zck (zin (show 8 * (s ||| 2 ^ i) + i < 2048 by omega) (by decide)), nI_clamp (show 8 * (s ||| 2 ^ i) + i < 2 ^ 31 by omega), hth i hi hbit, zbd1, zjp1]
      have hst : jF c th jn (i + 1) = some (match jF c th jn i with | none => th i | some v => jn v (th i)) := by
        unfold jF
        rw [foR, hbit, if_pos rfl]
      rw [hst]
      cases hjf : jF c th jn i with
      | none =>
        rw [if_pos (cmp0.mpr (show encO none = (-1 : Int64) from rfl)), nI_1]
        rfl
      | some v =>
        have hv := hb i v (by omega) hjf
        have hne : ¬ lg_cmp (encO (some v)) (-1) = 0 := fun q => lN_ne hv (cmp0.mp q)
        rw [if_neg hne, zlt, show encO (some v) = lN v from rfl, hj i v hi hbit hv, nI_1]
        rfl

/-! rows that are longest: how many, and who is in all of them -/
def chLN (T : TD) (dy h s w : Nat) : Nat := mk (fun x => (chN T dy h s w).testBit x && decide (lgV T dy h (s ||| 2 ^ x) x + 1 = lgV T dy h s w)) 8
theorem chLN_lt (T : TD) (dy h s w : Nat) : chLN T dy h s w < 256 := mk_lt8 _ (by decide)
theorem chLN_bit {T : TD} (hT : wfT T) {dy h s w x : Nat} : (chLN T dy h s w).testBit x = true ↔ (chN T dy h s w).testBit x = true ∧ lgV T dy h (s ||| 2 ^ x) x + 1 = lgV T dy h s w := by
  unfold chLN
  rw [mk_bit, Bool.and_eq_true, Bool.and_eq_true, decide_eq_true_eq, decide_eq_true_eq]
  constructor
  · exact fun q => q.2
  · intro q
    have := (chN_bit hT q.1).1
    have := hT.1
    exact ⟨by omega, q⟩
/-- what is left of c behind i looks -/
def clN (c m : Nat) (g : Nat → Nat) (i : Nat) : Nat := mk (fun x => c.testBit x && (decide (i ≤ x) || decide (g x = m))) 8
theorem clN_lt (c m : Nat) (g : Nat → Nat) (i : Nat) : clN c m g i < 256 := mk_lt8 _ (by decide)
theorem clN_0 {c : Nat} (hc : c < 256) (m : Nat) (g : Nat → Nat) : clN c m g 0 = c := by
  apply Nat.eq_of_testBit_eq
  intro i
  unfold clN
  rw [mk_bit]
  by_cases hi : i < 8
  · simp [hi]
  · cases hb : c.testBit i
    · simp
    · exact absurd (bit_lt8 hc hb) hi
theorem clN_here {c m i : Nat} (g : Nat → Nat) (hi : i < 8) : (clN c m g i).testBit i = c.testBit i := by
  unfold clN
  rw [mk_bit]
  simp [hi]
theorem clN_same {c m i : Nat} {g : Nat → Nat} (h : c.testBit i = false ∨ g i = m) : clN c m g (i + 1) = clN c m g i := by
  unfold clN
  apply mk_congr
  intro x hx
  by_cases he : x = i
  · subst he
    rcases h with h | h
    · rw [h]; rfl
    · simp [h]
  · have : decide (i + 1 ≤ x) = decide (i ≤ x) := by
      by_cases h1 : i ≤ x
      · have : i + 1 ≤ x := by omega
        simp [h1, this]
      · have : ¬ i + 1 ≤ x := by omega
        simp [h1, this]
    rw [this]
theorem clN_drop {c m i : Nat} {g : Nat → Nat} (h : g i ≠ m) : clN c m g (i + 1) = dif (clN c m g i) (2 ^ i) := by
  apply Nat.eq_of_testBit_eq
  intro x
  rw [dif_bit (clN_lt c m g i)]
  unfold clN
  rw [mk_bit, mk_bit, Nat.testBit_two_pow]
  by_cases he : i = x
  · subst he
    simp [h]
  · have : decide (i + 1 ≤ x) = decide (i ≤ x) := by
      by_cases h1 : i ≤ x
      · have : i + 1 ≤ x := by omega
        simp [h1, this]
      · have : ¬ i + 1 ≤ x := by omega
        simp [h1, this]
    rw [this]
    simp [he]
theorem lN_inj {a b : Nat} (ha : a < 2 ^ 62) (hb : b < 2 ^ 62) (h : lN a = lN b) : a = b := by
  have h1 := pk_lT (n := a) (by omega)
  have h2 := pk_lT (n := b) (by omega)
  rw [h, h2] at h1
  omega
theorem x_chL22 {T : TD} {I : zk_I} {J : zk_J} {s c m : Nat} {g : Nat → Nat} (hT : wfT T) (hr : repC T I 3) (hs : s < 256) (hc : c < 256) (hm : m < 2 ^ 62) (hg : ∀ x, x < nrT T → c.testBit x = true → J 68 (8 * (s ||| 2 ^ x) + x) + 1 = lN (g x) ∧ g x < 2 ^ 62) : l_X3_choicesOfLongest_22 I J (nI s) (lN m) (fun z => some z) 3000 (nI c) 0 = some (nI (clN c m g (nrT T))) := by
  have hnr := hT.1
  have key := zl_up (fun n i (y : Int32) => l_X3_choicesOfLongest_22 I J (nI s) (lN m) (fun z => some z) n y (nI i)) (fun y => some y) (fun i => nI (clN c m g i)) (nrT T) (fun n => ?_) (fun n i hi => ?_) 3000 0 (by omega) (by omega)
  · rw [clN_0 hc] at key
    exact key
  · simp only [l_X3_choicesOfLongest_22, hr.1]
    rw [if_pos (nI_le (Nat.le_refl _) (by omega))]
  · have ho : s ||| 2 ^ i < 256 := or_lt hs (p2_lt8 (by omega))
    have hl := clN_lt c m g i
    rw [l_X3_choicesOfLongest_22, hr.1, if_neg (nI_ge hi (by omega)), zlt, x_hasBit (show clN c m g i < 2 ^ 31 by omega) (show i < 32 by omega), zjp1, q01, clN_here g (by omega)]
    cases hbit : c.testBit i
    · rw [if_neg (by decide), nI_1, clN_same (Or.inl hbit)]
    · obtain ⟨g1, g2⟩ := hg i hi hbit
      rw [if_pos rfl, zlt, x_sb (by omega), zck (zin (show 8 * (s ||| 2 ^ i) + i < 2048 by omega) (by decide)), nI_clamp (show 8 * (s ||| 2 ^ i) + i < 2 ^ 31 by omega), g1]
      by_cases he : g i = m
      · rw [if_pos (cmp0.mpr (by rw [he])), nI_1, clN_same (Or.inr he)]
      · rw [if_neg (fun q => he (lN_inj g2 hm (cmp0.mp q))), zlt, nI_1, clN_drop he]
        have e : nI (clN c m g i) &&& ((1 : Int32) <<< (nI i &&& 31) ^^^ (-1 : Int32)) = nI (dif (clN c m g i) (2 ^ i)) := by
          rw [xlit 1, xlit 31, xb_shl1 i (by omega)]
          exact xb_dif hl
        rw [e]
theorem x_chL {T : TD} {I : zk_I} {J : zk_J} {dy h w0 s w : Nat} (hT : wfT T) (hB : begC T dy h w0 I) (hs : s < 2 ^ nrT T) (hsub : s &&& h = h) (hw : w < nrT T) (hsw : s.testBit w = true) (hf : flD T h (fun s w => lN (lgV T dy h s w)) J 68 h) : f_X3_choicesOfLongest I J (nI s) (nI w) = some (nI (chLN T dy h s w)) := by
  have hnr := hT.1
  have hpw := pow_le8 hnr
  have hle : h ≤ s := sub_le hsub
  have est : f_X3_stateOf (nI s) (nI w) = nI (8 * s + w) := by
    unfold f_X3_stateOf
    rw [xlit 8, pk_mul, nI_add, Nat.mul_comm]
  have hv : J 68 (8 * s + w) = lN (lgV T dy h s w) := hf s w hle hs hsub hw hsw
  have hm := lgV_le T dy h s w
  unfold f_X3_choicesOfLongest
  rw [x_choices hT hB hs hsub hw, zbd1, zlt, est, zck (zin (show 8 * s + w < 2048 by omega) (by decide)), nI_clamp (show 8 * s + w < 2 ^ 31 by omega), zlt, hv]
  rw [x_chL22 (g := fun x => lgV T dy h (s ||| 2 ^ x) x + 1) hT hB.1 (by omega) (chN_lt hT dy h s w) (by omega) (fun x hx hb => ?_)]
  · refine congrArg (fun z => some (nI z)) ?_
    unfold clN chLN
    apply mk_congr
    intro x hx
    cases hb : (chN T dy h s w).testBit x
    · rfl
    · have : ¬ nrT T ≤ x := by have := (chN_bit hT hb).1; omega
      simp [this]
  · have h1 := lgV_le T dy h (s ||| 2 ^ x) x
    refine ⟨?_, show lgV T dy h (s ||| 2 ^ x) x + 1 < 2 ^ 62 by omega⟩
    rw [flD_behind hT (w := w) (dy := dy) (V := fun s w => lN (lgV T dy h s w)) (J := J) (tb := 68) (fun s' w' q => hf s' w' (by omega)) hs hsub hb, lN_1]
theorem jF_z (th : Nat → Nat) (jn : Nat → Nat → Nat) : ∀ n, jF 0 th jn n = none
  | 0 => rfl
  | n + 1 => by
    have ih := jF_z th jn n
    unfold jF at ih ⊢
    rw [foR, ih, Nat.zero_testBit, if_neg (by decide)]
theorem jF_out {c : Nat} {th : Nat → Nat} {jn : Nat → Nat → Nat} {m : Nat} (h : ∀ i, m ≤ i → c.testBit i = false) (k : Nat) : jF c th jn (m + k) = jF c th jn m := by
  unfold jF
  exact foR_out (fun i a hi => by rw [h i hi, if_neg (by decide)]) k
theorem jF_out8 {c : Nat} {th : Nat → Nat} {jn : Nat → Nat → Nat} {m : Nat} (hm : m ≤ 8) (h : ∀ i, c.testBit i = true → i < m) : jF c th jn 8 = jF c th jn m := by
  have := jF_out (c := c) (th := th) (jn := jn) (m := m) (fun i hi => by
    cases hb : c.testBit i
    · rfl
    · have := h i hb; omega) (8 - m)
  rw [show m + (8 - m) = 8 by omega] at this
  exact this
theorem jF_step {c : Nat} {th : Nat → Nat} {jn : Nat → Nat → Nat} {n : Nat} : jF c th jn (n + 1) = if c.testBit n then some (match jF c th jn n with | none => th n | some v => jn v (th n)) else jF c th jn n := rfl
theorem jF_congr {c : Nat} {th th' : Nat → Nat} {jn : Nat → Nat → Nat} : ∀ {n : Nat}, (∀ x, c.testBit x = true → th x = th' x) → jF c th jn n = jF c th' jn n
  | 0, _ => rfl
  | n + 1, h => by
    rw [jF_step, jF_step, jF_congr (n := n) h]
    by_cases hb : c.testBit n = true
    · rw [h n hb]
    · rw [if_neg hb, if_neg hb]
theorem jF_inv {c : Nat} {th : Nat → Nat} {jn : Nat → Nat → Nat} {P : Nat → Nat → Prop} (h1 : ∀ x, c.testBit x = true → ∀ n, x < n → P n (th x)) (h2 : ∀ x u, c.testBit x = true → P x u → P (x + 1) (jn u (th x))) (h3 : ∀ n v, P n v → P (n + 1) v) : ∀ n v, jF c th jn n = some v → P n v
  | 0, v, hv => nomatch hv
  | n + 1, v, hv => by
    rw [jF_step] at hv
    have ih := jF_inv (P := P) h1 h2 h3 n
    by_cases hb : c.testBit n = true
    · rw [if_pos hb] at hv
      cases hj : jF c th jn n with
      | none =>
        rw [hj] at hv
        have hv : th n = v := Option.some.inj hv
        rw [← hv]
        exact h1 n hb (n + 1) (by omega)
      | some u =>
        rw [hj] at hv
        have hv : jn u (th n) = v := Option.some.inj hv
        rw [← hv]
        exact h2 n u hb (ih u hj)
    · rw [if_neg hb] at hv
      exact h3 n v (ih v hv)
theorem x_msL {T : TD} {dy h w0 : Nat} {I : zk_I} {J : zk_J} {a1 : Int32} {tb s w : Nat} {th : Nat → Nat} {jn : Nat → Nat → Nat} (hT : wfT T) (hB : begC T dy h w0 I) (hs : s < 2 ^ nrT T) (hsub : s &&& h = h) (hw : w < nrT T) (hsw : s.testBit w = true) (hf : flD T h (fun s w => lN (lgV T dy h s w)) J 68 h) (h1 : a1 = (1 : Int32) ∨ a1 = (4 : Int32)) (hth : ∀ x, x < nrT T → (chLN T dy h s w).testBit x = true → f_X3_throughOne I a1 (J tb (8 * (s ||| 2 ^ x) + x)) (nI s) (nI x) = some (lN (th x))) (hb : ∀ n v, n ≤ nrT T → jF (chLN T dy h s w) th jn n = some v → v < 2 ^ 62) (hj : ∀ x u, x < nrT T → (chLN T dy h s w).testBit x = true → u < 2 ^ 62 → f_X3_join a1 (lN u) (lN (th x)) = lN (jn u (th x))) : f_X3_measureOf I J a1 tb (nI s) (nI w) = some (lN ((jF (chLN T dy h s w) th jn (nrT T)).getD (if a1 = (1 : Int32) then 1 else 0))) := by
  have hpw := pow_le8 hT.1
  have hc := chLN_lt T dy h s w
  have h67 : ¬ a1 = (6 : Int32) ∧ ¬ a1 = (7 : Int32) := by rcases h1 with h1 | h1 <;> subst h1 <;> decide
  have hbits : ∀ i, (chLN T dy h s w).testBit i = true → i < nrT T := fun i q => (chN_bit hT ((chLN_bit hT).mp q).1).1
  have body : ∀ (F : Int64 → Option Int64), (∀ z, F z = some z) → (if nI (chLN T dy h s w) = (0 : Int32) then (if a1 = (1 : Int32) then some (1 : Int64) else some (0 : Int64)) else l_X3_measureOf_65 I J tb a1 (nI s) (nI (chLN T dy h s w)) F 3000 (-1) 0) = some (lN ((jF (chLN T dy h s w) th jn (nrT T)).getD (if a1 = (1 : Int32) then 1 else 0))) := by
    intro F hF
    by_cases h0 : chLN T dy h s w = 0
    · rw [h0, if_pos (show nI 0 = (0 : Int32) from rfl), jF_z]
      by_cases ha : a1 = (1 : Int32)
      · rw [if_pos ha, if_pos ha]; rfl
      · rw [if_neg ha, if_neg ha]; rfl
    · have hz : ¬ nI (chLN T dy h s w) = (0 : Int32) := fun q => h0 (xl_inj (b := 0) (by omega) (by decide) q)
      rw [if_neg hz, x_ms65 hT hB.1 (by omega) hc hth hb hj, hF]
      obtain ⟨x, hx8, hx⟩ := bit_ex _ hc h0
      obtain ⟨v, hv⟩ := jF_some (th := th) (jn := jn) (hbits x hx) hx
      rw [hv]
      rfl
  unfold f_X3_measureOf
  rw [zjp1, zjp0]
  have hif : ∀ (A B : Option Int64), (if a1 = (1 : Int32) then A else if a1 = (4 : Int32) then A else B) = A := by
    intro A B
    rcases h1 with h1 | h1
    · rw [if_pos h1]
    · by_cases h2 : a1 = (1 : Int32)
      · rw [if_pos h2]
      · rw [if_neg h2, if_pos h1]
  rw [hif]
  dsimp only
  rw [zjp1, if_neg (show ¬ (1 : Int32) = 0 by decide), x_chL hT hB hs hsub hw hsw hf, zbd1]
  dsimp only
  refine body _ (fun z => ?_)
  rw [zjp1, zjp0, if_neg h67.1, if_neg h67.2]
  dsimp only
  rw [if_pos rfl]

/-! who can be reached -/
def Rch (T : TD) (D : DD) (b s w : Nat) : Prop := odA T (dyD D) (haD D b) (hoD D b) 2048 (8 * s + w) ≠ 0
theorem psh_mono {M k d p : Nat} {a : Nat → Nat} (h : a p ≠ 0) : ∀ n, pshA M k d a n p ≠ 0
  | 0 => h
  | n + 1 => by
    have ih := psh_mono (M := M) (k := k) (d := d) h n
    have hst : pshA M k d a (n + 1) = if M.testBit n then updN (pshA M k d a n) (nxP k n) (pshA M k d a n (nxP k n) + d) else pshA M k d a n := rfl
    rw [hst]
    by_cases hb : M.testBit n = true
    · rw [if_pos hb]
      unfold updN
      by_cases he : p = nxP k n
      · rw [if_pos he, ← he]; omega
      · rw [if_neg he]; exact ih
    · rw [if_neg hb]; exact ih
theorem psh_hit {M k d : Nat} {a : Nat → Nat} (hd : d ≠ 0) : ∀ {n x : Nat}, x < n → M.testBit x = true → pshA M k d a n (nxP k x) ≠ 0
  | 0, x, hx, _ => absurd hx (Nat.not_lt_zero _)
  | n + 1, x, hx, hb => by
    have hst : pshA M k d a (n + 1) = if M.testBit n then updN (pshA M k d a n) (nxP k n) (pshA M k d a n (nxP k n) + d) else pshA M k d a n := rfl
    rw [hst]
    by_cases he : x = n
    · subst he
      rw [if_pos hb]
      unfold updN
      rw [if_pos rfl]
      omega
    · have ih := psh_hit (M := M) (k := k) (a := a) hd (show x < n by omega) hb
      by_cases hbn : M.testBit n = true
      · rw [if_pos hbn]
        unfold updN
        by_cases he2 : nxP k x = nxP k n
        · rw [if_pos he2, ← he2]; omega
        · rw [if_neg he2]; exact ih
      · rw [if_neg hbn]; exact ih
theorem fw_mono {M c a0 : Nat → Nat} {p : Nat} : ∀ {k m : Nat}, fwA M c a0 k p ≠ 0 → fwA M c a0 (k + m) p ≠ 0
  | k, 0, h => h
  | k, m + 1, h => by
    show fwA M c a0 ((k + m) + 1) p ≠ 0
    rw [fwA]
    exact psh_mono (fw_mono (m := m) h) 8
theorem fw_pred {M c a0 : Nat → Nat} {p : Nat} : ∀ k, fwA M c a0 k p ≠ 0 → a0 p ≠ 0 ∨ ∃ k', k' < k ∧ fwA M c a0 k' k' ≠ 0 ∧ ∃ x, (M k').testBit x = true ∧ nxP k' x = p
  | 0, h => Or.inl h
  | k + 1, h => by
    rw [fwA] at h
    rcases psh_pos h with h | ⟨hd, x, hx, he⟩
    · rcases fw_pred k h with h | ⟨k', k1, k2⟩
      · exact Or.inl h
      · exact Or.inr ⟨k', by omega, k2⟩
    · refine Or.inr ⟨k, by omega, fun q => hd ?_, x, hx, he⟩
      rw [q, Nat.zero_mul]
theorem Rch_st {T : TD} {D : DD} {b s w : Nat} (hT : wfT T) (hD : wfD T D) (hb : b < nbT T) (hw : w < 8) (h : Rch T D b s w) : s < 2 ^ nrT T ∧ w < nrT T ∧ isSt (haD D b) (hoD D b) s w = true := by
  have := od_sup hT hD hb (Nat.le_refl _) h
  unfold stP at this
  rw [show (8 * s + w) / 8 = s by omega, show (8 * s + w) % 8 = w by omega] at this
  exact this
theorem Rch_0 {T : TD} {D : DD} {b : Nat} (hT : wfT T) (hD : wfD T D) (hb : b < nbT T) : Rch T D b (haD D b) (hoD D b) := by
  obtain ⟨p1, p2, p3⟩ := st_pc hT (st_0 hT hD hb)
  have hnr := hT.1
  obtain ⟨w1, w2, w3, -⟩ := hD.2 b hb
  rw [show (8 * haD D b + hoD D b) / 8 = haD D b by omega] at p1 p2
  obtain ⟨l1, l2⟩ := LT_pos (nrT T - pc (haD D b)) (by omega)
  have hW := LT_W (nrT T - pc (haD D b)) (by omega)
  unfold Rch odA
  have h0 : fwA (odM T (dyD D) (haD D b)) (odc T (dyD D) (haD D b)) (fun p => if p = 8 * haD D b + hoD D b then 217728000 / ltsN (nrT T - pc (haD D b)) else 0) 0 (8 * haD D b + hoD D b) ≠ 0 := by
    show (if 8 * haD D b + hoD D b = 8 * haD D b + hoD D b then 217728000 / ltsN (nrT T - pc (haD D b)) else 0) ≠ 0
    rw [if_pos rfl]
    intro q
    rw [q, Nat.zero_mul] at hW
    cases hW
  have := fw_mono (m := 2048) h0
  rw [Nat.zero_add] at this
  exact this
theorem Rch_s {T : TD} {D : DD} {b s w x : Nat} (hT : wfT T) (hD : wfD T D) (hb : b < nbT T) (hw : w < 8) (h : Rch T D b s w) (hx : (chN T (dyD D) (haD D b) s w).testBit x = true) : Rch T D b (s ||| 2 ^ x) x := by
  have hnr := hT.1
  have hpw := pow_le8 hnr
  obtain ⟨s1, s2, s3⟩ := Rch_st hT hD hb hw h
  have hst := od_sup hT hD hb (Nat.le_refl _) h
  have hx' : (odM T (dyD D) (haD D b) (8 * s + w)).testBit x = true := by
    unfold odM
    rw [show (8 * s + w) / 8 = s by omega, show (8 * s + w) % 8 = w by omega]
    exact hx
  obtain ⟨q1, q2, q3, q4⟩ := od_share hT (dy := dyD D) hst x hx'
  have hc0 : odc T (dyD D) (haD D b) (8 * s + w) ≠ 0 := by
    intro q
    rw [q, Nat.mul_zero, Nat.mul_zero] at q2
    have := odL_pos hT (8 * s + w)
    omega
  have c1 := (chN_bit hT hx).1
  have hk : fwA (odM T (dyD D) (haD D b)) (odc T (dyD D) (haD D b)) (fun p => if p = 8 * haD D b + hoD D b then 217728000 / ltsN (nrT T - pc (haD D b)) else 0) (8 * s + w) (8 * s + w) ≠ 0 := by
    rw [← fw_stay' (od_go hT _ _) 2048 (by omega) (Nat.le_refl _)]
    exact h
  have h1 : fwA (odM T (dyD D) (haD D b)) (odc T (dyD D) (haD D b)) (fun p => if p = 8 * haD D b + hoD D b then 217728000 / ltsN (nrT T - pc (haD D b)) else 0) (8 * s + w + 1) (nxP (8 * s + w) x) ≠ 0 := by
    rw [fwA]
    refine psh_hit (fun q => ?_) (show x < 8 by omega) hx'
    rcases Nat.mul_eq_zero.mp q with q | q
    · exact hk q
    · exact hc0 q
  have h2 := fw_mono (m := 2048 - (8 * s + w + 1)) h1
  rw [show 8 * s + w + 1 + (2048 - (8 * s + w + 1)) = 2048 by omega] at h2
  have e : nxP (8 * s + w) x = 8 * (s ||| 2 ^ x) + x := by
    unfold nxP
    rw [show (8 * s + w) / 8 = s by omega]
  rw [e] at h2
  exact h2
theorem Rch_p {T : TD} {D : DD} {b s w : Nat} (hT : wfT T) (hD : wfD T D) (hb : b < nbT T) (hw : w < 8) (h : Rch T D b s w) : (s = haD D b ∧ w = hoD D b) ∨ ∃ s' w', w' < 8 ∧ Rch T D b s' w' ∧ (chN T (dyD D) (haD D b) s' w').testBit w = true ∧ s = s' ||| 2 ^ w := by
  have hnr := hT.1
  obtain ⟨w1, w2, w3, -⟩ := hD.2 b hb
  rcases fw_pred 2048 h with h | ⟨k, k1, k2, x, hx, he⟩
  · refine Or.inl ?_
    by_cases he : 8 * s + w = 8 * haD D b + hoD D b
    · omega
    · rw [if_neg he] at h
      exact absurd rfl h
  · refine Or.inr ⟨k / 8, k % 8, by omega, ?_, ?_⟩
    · unfold Rch
      rw [show 8 * (k / 8) + k % 8 = k by omega]
      unfold odA
      rw [fw_stay' (od_go hT _ _) 2048 (by omega) (Nat.le_refl _)]
      exact k2
    · have c1 := (chN_bit hT hx).1
      unfold nxP at he
      have : x = w := by omega
      subst this
      exact ⟨hx, by omega⟩
/-- cells that hold sets -/
def reS (I : zk_I) (c N : Nat) (P : Nat → Nat → Prop) : Prop := ∀ s, s < N → ∃ m, m < 256 ∧ I c s = nI m ∧ ∀ w, w < 8 → (m.testBit w = true ↔ P s w)
theorem reS.or {I : zk_I} {c N : Nat} {P Q : Nat → Nat → Prop} {j m : Nat} (h : reS I c N P) (hj : j < N) (hm : m < 256) (hq : ∀ s w, s < N → w < 8 → (Q s w ↔ (P s w ∨ (s = j ∧ m.testBit w = true)))) : reS (zk_sc I c (upd (I c) j (I c j ||| nI m))) c N Q := by
  intro s hs
  obtain ⟨m1, a1, a2, a3⟩ := h s hs
  by_cases he : s = j
  · subst he
    refine ⟨m1 ||| m, or_lt a1 hm, by rw [zk_sc_s, pk_us, a2, xb_or], fun w hw => ?_⟩
    rw [Nat.testBit_or, Bool.or_eq_true, a3 w hw, hq s w hs hw]
    constructor
    · rintro (q | q)
      · exact Or.inl q
      · exact Or.inr ⟨rfl, q⟩
    · rintro (q | ⟨-, q⟩)
      · exact Or.inl q
      · exact Or.inr q
  · refine ⟨m1, a1, by rw [zk_sc_s, pk_un he]; exact a2, fun w hw => ?_⟩
    rw [a3 w hw, hq s w hs hw]
    constructor
    · exact fun q => Or.inl q
    · rintro (q | ⟨q, -⟩)
      · exact q
      · exact absurd q he
theorem reS.fr {I I1 : zk_I} {c N : Nat} {P : Nat → Nat → Prop} (h : reS I c N P) (e : I1 c = I c) : reS I1 c N P := by
  intro s hs
  rw [e]
  exact h s hs
theorem reS.cg {I : zk_I} {c N : Nat} {P Q : Nat → Nat → Prop} (h : reS I c N P) (e : ∀ s w, s < N → w < 8 → (P s w ↔ Q s w)) : reS I c N Q := by
  intro s hs
  obtain ⟨m1, a1, a2, a3⟩ := h s hs
  exact ⟨m1, a1, a2, fun w hw => (a3 w hw).trans (e s w hs hw)⟩
theorem begC.fr {T : TD} {dy h w0 : Nat} {I I1 : zk_I} (hB : begC T dy h w0 I) (e : ∀ c, c ≤ 66 → I1 c = I c) : begC T dy h w0 I1 := by
  obtain ⟨h1, h2, h3, h4, h5⟩ := hB
  exact ⟨h1.fr (fun c a b => e c (by omega)), by rw [e 63 (by omega)]; exact h2, by rw [e 63 (by omega)]; exact h3, fun r hr => by rw [e 64 (by omega)]; exact h4 r hr, fun s a b => by rw [e 66 (by omega)]; exact h5 s a b⟩
/-- whom those of a set name -/
def spC (T : TD) (dy h m s : Nat) (n : Nat) : Nat := foR (fun w a => if m.testBit w then a ||| chN T dy h s w else a) 0 n
theorem spC_s (T : TD) (dy h m s n : Nat) : spC T dy h m s (n + 1) = if m.testBit n then spC T dy h m s n ||| chN T dy h s n else spC T dy h m s n := rfl
theorem spC_lt {T : TD} (hT : wfT T) (dy h m s : Nat) : ∀ n, spC T dy h m s n < 256
  | 0 => (by decide : 0 < 256)
  | n + 1 => by
    rw [spC_s]
    cases m.testBit n
    · exact spC_lt hT dy h m s n
    · exact or_lt (spC_lt hT dy h m s n) (chN_lt hT _ _ _ _)
theorem spC_bit {T : TD} {dy h m s x : Nat} : ∀ {n : Nat}, (spC T dy h m s n).testBit x = true ↔ ∃ w, w < n ∧ m.testBit w = true ∧ (chN T dy h s w).testBit x = true
  | 0 => by
    constructor
    · intro q
      have : spC T dy h m s 0 = 0 := rfl
      rw [this, Nat.zero_testBit] at q
      cases q
    · rintro ⟨w, hw, -⟩
      exact absurd hw (Nat.not_lt_zero _)
  | n + 1 => by
    have ih := spC_bit (T := T) (dy := dy) (h := h) (m := m) (s := s) (x := x) (n := n)
    rw [spC_s]
    cases hb : m.testBit n
    · rw [if_neg (by decide), ih]
      constructor
      · rintro ⟨w, a, c, d⟩; exact ⟨w, by omega, c, d⟩
      · rintro ⟨w, a, c, d⟩
        by_cases he : w = n
        · subst he; rw [hb] at c; cases c
        · exact ⟨w, by omega, c, d⟩
    · rw [if_pos rfl, Nat.testBit_or, Bool.or_eq_true, ih]
      constructor
      · rintro (⟨w, a, c, d⟩ | q)
        · exact ⟨w, by omega, c, d⟩
        · exact ⟨n, by omega, hb, q⟩
      · rintro ⟨w, a, c, d⟩
        by_cases he : w = n
        · subst he; exact Or.inr d
        · exact Or.inl ⟨w, by omega, c, d⟩
theorem x_sp4 {T : TD} {I : zk_I} {dy h w0 s m : Nat} (hT : wfT T) (hB : begC T dy h w0 I) (hs : s < 2 ^ nrT T) (hsub : s &&& h = h) (hm : m < 256) (h67 : I 67 s = nI m) (K : Int32 → Option zk_I) : l_X3_spreadFrom_4 I (nI s) K 3000 0 0 = K (nI (spC T dy h m s (nrT T))) := by
  have hnr := hT.1
  have hpw := pow_le8 hnr
  have key := zl_up (fun n i (a : Int32) => l_X3_spreadFrom_4 I (nI s) K n a (nI i)) K (fun i => nI (spC T dy h m s i)) (nrT T) (fun n => ?_) (fun n i hi => ?_) 3000 0 (by omega) (by omega)
  · exact key
  · rw [l_X3_spreadFrom_4, hB.1.1, if_pos (nI_le (Nat.le_refl _) (by omega))]
  · rw [l_X3_spreadFrom_4, hB.1.1, if_neg (nI_ge hi (by omega)), zck (zin (show s < 256 by omega) (by decide)), nI_clamp (show s < 2 ^ 31 by omega), h67, x_hasBit (by omega) (by omega), zlt, zjp1, q01, nI_1, spC_s]
    cases hb : m.testBit i
    · rw [if_neg (by decide), if_neg (by decide)]
    · rw [if_pos rfl, if_pos rfl, x_choices hT hB hs hsub hi, zbd1, xb_or]
theorem x_sp45 {T : TD} {I : zk_I} {s C : Nat} {P : Nat → Nat → Prop} (hT : wfT T) (hr : repC T I 3) (hs : s < 256) (hC : C < 256) (K : zk_I → Option zk_I) : ∀ m i n (I' : zk_I), i + m = nrT T → m < n → (∀ c, c ≠ 67 → I' c = I c) → reS I' 67 256 (fun s' w' => P s' w' ∨ (w' < i ∧ C.testBit w' = true ∧ s' = s ||| 2 ^ w')) → ∃ I1, l_X3_spreadFrom_45 (nI s) (nI C) K n (nI i) I' = K I1 ∧ (∀ c, c ≠ 67 → I1 c = I c) ∧ reS I1 67 256 (fun s' w' => P s' w' ∨ (w' < nrT T ∧ C.testBit w' = true ∧ s' = s ||| 2 ^ w')) := by
  have hnr := hT.1
  intro m
  induction m with
  | zero =>
    intro i n I' hi hn ho hP
    obtain ⟨n, rfl⟩ : ∃ k, n = k + 1 := ⟨n - 1, by omega⟩
    have : i = nrT T := by omega
    subst this
    refine ⟨I', ?_, ho, hP⟩
    rw [l_X3_spreadFrom_45, ho 3 (by decide), hr.1, if_pos (nI_le (Nat.le_refl _) (by omega))]
  | succ m ih =>
    intro i n I' hi hn ho hP
    obtain ⟨n, rfl⟩ : ∃ k, n = k + 1 := ⟨n - 1, by omega⟩
    rw [l_X3_spreadFrom_45, ho 3 (by decide), hr.1, if_neg (nI_ge (by omega) (by omega)), x_hasBit (by omega) (by omega), zlt, zjp1, q01, nI_1]
    cases hb : C.testBit i
    · rw [if_neg (by decide)]
      refine ih (i + 1) n I' (by omega) (by omega) ho (hP.cg (fun s' w' _ _ => ?_))
      constructor
      · rintro (q | ⟨q1, q2, q3⟩)
        · exact Or.inl q
        · exact Or.inr ⟨by omega, q2, q3⟩
      · rintro (q | ⟨q1, q2, q3⟩)
        · exact Or.inl q
        · refine Or.inr ⟨?_, q2, q3⟩
          by_cases he : w' = i
          · subst he; rw [hb] at q2; cases q2
          · omega
    · have ho2 : s ||| 2 ^ i < 256 := or_lt hs (p2_lt8 (by omega))
      rw [if_pos rfl, sh1 (show i < 8 by omega), xb_or, zck (zin ho2 (by decide)), zck (zin ho2 (by decide)), nI_clamp (by omega), zlt]
      refine ih (i + 1) n _ (by omega) (by omega) (fun c hc => by rw [zk_sc_n _ _ hc]; exact ho c hc) (hP.or ho2 (p2_lt8 (by omega)) (fun s' w' _ _ => ?_))
      have htb : (2 ^ i).testBit w' = decide (i = w') := Nat.testBit_two_pow
      rw [htb, decide_eq_true_eq]
      constructor
      · rintro (q | ⟨q1, q2, q3⟩)
        · exact Or.inl (Or.inl q)
        · by_cases he : w' = i
          · subst he; exact Or.inr ⟨q3, rfl⟩
          · exact Or.inl (Or.inr ⟨by omega, q2, q3⟩)
      · rintro ((q | ⟨q1, q2, q3⟩) | ⟨q1, q2⟩)
        · exact Or.inl q
        · exact Or.inr ⟨by omega, q2, q3⟩
        · subst q2; exact Or.inr ⟨by omega, hb, q1⟩

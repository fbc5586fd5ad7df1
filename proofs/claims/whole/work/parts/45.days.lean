/-! days: remembered, taken back -/
theorem cpyD {T : TD} {D : DD} {I : zk_I} {t o : Nat} (hnb : nbT T ≤ 4) (hto : t + 3 < o ∨ o + 3 < t) (h : repDC T D I o) : repDC T D (f_X1_copyFrom I t o) t ∧ ∀ c, ¬ (t ≤ c ∧ c ≤ t + 3) → f_X1_copyFrom I t o c = I c := by
  unfold f_X1_copyFrom
  simp only [zk_lt]
  have n1 : ∀ (f : Nat → Int32) {q : Nat}, q ≠ t → zk_sc I t f q = I q := fun f q hq => zk_sc_n I f hq
  refine ⟨⟨?_, fun b hb => ⟨?_, ?_, ?_⟩⟩, fun c hc => ?_⟩
  · rw [zk_sc_n _ _ (by omega), zk_sc_n _ _ (by omega), zk_sc_n _ _ (by omega), zk_sc_s, pk_us]
    exact h.1
  · rw [zk_sc_n _ _ (by omega), zk_sc_n _ _ (by omega), zk_sc_s, pk_cpy_in (by omega) (by omega), zk_sc_n _ _ (by omega)]
    rw [show 0 + (b - 0) = b by omega]
    exact (h.2 b hb).1
  · rw [zk_sc_n _ _ (by omega), zk_sc_s, pk_cpy_in (by omega) (by omega), zk_sc_n _ _ (by omega), zk_sc_n _ _ (by omega)]
    rw [show 0 + (b - 0) = b by omega]
    exact (h.2 b hb).2.1
  · rw [zk_sc_s, pk_cpy_in (by omega) (by omega), zk_sc_n _ _ (by omega), zk_sc_n _ _ (by omega), zk_sc_n _ _ (by omega)]
    rw [show 0 + (b - 0) = b by omega]
    exact (h.2 b hb).2.2
  · rw [zk_sc_n _ _ (by omega), zk_sc_n _ _ (by omega), zk_sc_n _ _ (by omega), zk_sc_n _ _ (by omega)]
def pushP (P : Nat × (Nat → DD)) (D : DD) : Nat × (Nat → DD) := if P.1 < 8 then (P.1 + 1, fun i => if i = P.1 then D else P.2 i) else (8, fun i => if i = 7 then D else P.2 (i + 1))
theorem nI_rem8 {a : Nat} (h : a < 2 ^ 31) : nI a - nI a / nI 8 * nI 8 = nI (a % 8) := pk_rem h (by decide) (by decide)
theorem x_remember {T : TD} {D : DD} {P : Nat × (Nat → DD)} {I : zk_I} (hw : wfT T) (hp : P.1 ≤ 8) (hD : repDC T D I 16) (hP : pC T P I) : ∃ I1, f_X2_remember I = some I1 ∧ pC T (pushP P D) I1 ∧ ∀ c, ¬ (20 ≤ c ∧ c ≤ 53) → I1 c = I c := by
  obtain ⟨p1, nx, p2, p3, p4⟩ := hP
  have hnb := hw.2.1
  obtain ⟨g1, g2⟩ := cpyD (t := 22 + 4 * nx) (o := 16) hnb (by omega) hD
  unfold f_X2_remember
  simp only [p3, zck (zin p2 (by decide)), nI_clamp (show nx < 2 ^ 31 by omega), zk_lt]
  generalize f_X1_copyFrom I (22 + 4 * nx) 16 = I3 at g1 g2
  have e20 : I3 20 = I 20 := g2 20 (by omega)
  simp only [e20, p3, p1, zk_sc_s, pk_us, xlit, nI_add, nI_rem8 (show nx + 1 < 2 ^ 31 by omega), pk_un (show (0 : Nat) ≠ 1 by decide)]
  refine ⟨_, rfl, ⟨?_, (nx + 1) % 8, Nat.mod_lt _ (by decide), ?_, fun i hi => ?_⟩, fun c hc => ?_⟩
  · rw [zk_sc_s, pk_us]
    unfold pushP
    by_cases h : P.1 < 8
    · rw [if_pos h, if_neg (nI_nlt (by omega) (by decide))]
    · rw [if_neg h, if_pos (nI_lt (by omega) (by omega))]
  · rw [zk_sc_s, pk_un (by decide), pk_us]
  · have keep : ∀ c, c ≠ 20 → zk_sc (zk_sc I3 20 (upd (I 20) 1 (nI ((nx + 1) % 8)))) 20 (upd (zk_sc I3 20 (upd (I 20) 1 (nI ((nx + 1) % 8))) 20) 0 (if nI 8 < nI (P.1 + 1) then nI 8 else nI (P.1 + 1))) c = I3 c := fun c hc => by rw [zk_sc_n _ _ hc, zk_sc_n _ _ hc]
    rw [zk_sc_s] at keep
    unfold pushP at hi ⊢
    by_cases h : P.1 < 8
    · rw [if_pos h] at hi ⊢
      have hi : i < P.1 + 1 := hi
      by_cases hin : i = P.1
      · have ei : ((nx + 1) % 8 + 8 - (P.1 + 1) + i) % 8 = nx := by omega
        simp only [hin, if_true]
        rw [hin] at ei
        rw [ei]
        exact g1.fr (fun c h1 h2 => keep c (by omega))
      · have ei : ((nx + 1) % 8 + 8 - (P.1 + 1) + i) % 8 = (nx + 8 - P.1 + i) % 8 := by omega
        have hne : (nx + 8 - P.1 + i) % 8 ≠ nx := by omega
        simp only [if_neg hin]
        rw [ei]
        exact (p4 i (by omega)).fr (fun c h1 h2 => (keep c (by omega)).trans (g2 c (by omega)))
    · rw [if_neg h] at hi ⊢
      have hi : i < 8 := hi
      have hp8 : P.1 = 8 := by omega
      by_cases hin : i = 7
      · have ei : ((nx + 1) % 8 + 8 - 8 + i) % 8 = nx := by omega
        simp only [hin, if_true]
        rw [hin] at ei
        rw [ei]
        exact g1.fr (fun c h1 h2 => keep c (by omega))
      · have ei : ((nx + 1) % 8 + 8 - 8 + i) % 8 = (nx + 8 - P.1 + (i + 1)) % 8 := by omega
        have hne : (nx + 8 - P.1 + (i + 1)) % 8 ≠ nx := by omega
        simp only [if_neg hin]
        rw [ei]
        exact (p4 (i + 1) (by omega)).fr (fun c h1 h2 => (keep c (by omega)).trans (g2 c (by omega)))
  · rw [zk_sc_n _ _ (by omega), zk_sc_n _ _ (by omega)]
    exact g2 c (by omega)
/-! the reference: rows copied -/
theorem x8_shift {I : zk_I} (K : zk_I → Option zk_I) : l_X8_keeps_11 K 3000 0 I = K (zk_sc I 81 (fun j => if j < 98 then I 81 (j + 14) else I 81 j)) := by
  have h0 : I = zk_sc I 81 (fun j => if j < 0 then I 81 (j + 14) else I 81 j) := by
    funext c
    by_cases hc : c = 81
    · subst hc
      rw [zk_sc_s]
      funext j
      simp
    · rw [zk_sc_n _ _ hc]
  have key := zl_up (fun n i (s : zk_I) => l_X8_keeps_11 K n (nI i) s) K (fun i => zk_sc I 81 (fun j => if j < i then I 81 (j + 14) else I 81 j)) 98 (fun n => ?_) (fun n i hi => ?_) 3000 0 (by omega) (by omega)
  · rw [← h0] at key
    exact key
  · simp only [l_X8_keeps_11, xlit]
    rw [if_pos (nI_le (a := 98) (Nat.le_refl _) (by decide))]
  · simp only [l_X8_keeps_11, xlit]
    rw [if_neg (nI_ge (b := 98) hi (by decide))]
    simp only [xlit, nI_add, zck (zin (show i + 14 < 112 by omega) (by decide)), zck (zin (show i < 112 by omega) (by decide)), nI_clamp (show i + 14 < 2 ^ 31 by omega), nI_clamp (show i < 2 ^ 31 by omega), zk_lt, zk_sc_s]
    congr 1
    funext c
    by_cases hc : c = 81
    · subst hc
      rw [zk_sc_s, zk_sc_s]
      funext j
      by_cases hj : j = i
      · subst hj
        rw [pk_us, if_neg (by omega), if_pos (by omega)]
      · rw [pk_un hj]
        by_cases h1 : j < i
        · rw [if_pos h1, if_pos (by omega)]
        · rw [if_neg h1, if_neg (by omega)]
    · rw [zk_sc_n _ _ hc, zk_sc_n _ _ hc, zk_sc_n _ _ hc]
theorem x8_put {I : zk_I} {k : Nat} (hk : k < 8) (h6 : I 76 6 = nI k) (K : zk_I → Option zk_I) : l_X8_keeps_50 K 3000 0 I = K (zk_sc I 81 (fun j => if 14 * k ≤ j ∧ j < 14 * k + 14 then I 80 (j - 14 * k) else I 81 j)) := by
  have h0 : I = zk_sc I 81 (fun j => if 14 * k ≤ j ∧ j < 14 * k + 0 then I 80 (j - 14 * k) else I 81 j) := by
    funext c
    by_cases hc : c = 81
    · subst hc
      rw [zk_sc_s]
      funext j
      rw [if_neg (by omega)]
    · rw [zk_sc_n _ _ hc]
  have key := zl_up (fun n i (s : zk_I) => l_X8_keeps_50 K n (nI i) s) K (fun i => zk_sc I 81 (fun j => if 14 * k ≤ j ∧ j < 14 * k + i then I 80 (j - 14 * k) else I 81 j)) 14 (fun n => ?_) (fun n i hi => ?_) 3000 0 (by omega) (by omega)
  · rw [← h0] at key
    exact key
  · simp only [l_X8_keeps_50, xlit]
    rw [if_pos (nI_le (a := 14) (Nat.le_refl _) (by decide))]
  · simp only [l_X8_keeps_50, xlit]
    rw [if_neg (nI_ge (b := 14) hi (by decide))]
    simp only [zk_sc_n I _ (show ¬ 76 = 81 by decide), zk_sc_n I _ (show ¬ 80 = 81 by decide), h6, xlit, pk_mul, nI_add, zck (zin (show 14 * k + i < 112 by omega) (by decide)), zck (zin (show i < 14 by omega) (by decide)), nI_clamp (show 14 * k + i < 2 ^ 31 by omega), nI_clamp (show i < 2 ^ 31 by omega), zk_lt, zk_sc_s]
    congr 1
    funext c
    by_cases hc : c = 81
    · subst hc
      rw [zk_sc_s, zk_sc_s]
      funext j
      by_cases hj : j = 14 * k + i
      · subst hj
        rw [pk_us, if_pos (by omega)]
        congr 1
        omega
      · rw [pk_un hj]
        by_cases h1 : 14 * k ≤ j ∧ j < 14 * k + i
        · rw [if_pos h1, if_pos (by omega)]
        · rw [if_neg h1, if_neg (by omega)]
    · rw [zk_sc_n _ _ hc, zk_sc_n _ _ hc, zk_sc_n _ _ hc]
def kinc (I8 : zk_I) : Option zk_I := some (zk_sc I8 76 (upd (I8 76) 6 (I8 76 6 + (1 : Int32))))
theorem x8_keeps_eq (I : zk_I) : f_X8_keeps I = if I 76 6 = (8 : Int32) then l_X8_keeps_11 (fun I14 => l_X8_keeps_50 kinc 3000 0 (zk_sc I14 76 (upd (I14 76) 6 (I14 76 6 - (1 : Int32))))) 3000 0 I else l_X8_keeps_50 kinc 3000 0 I := by
  have hk : (fun (I8 : zk_I) => some (zk_sc I8 76 (upd (I8 76) 6 (I8 76 6 + (1 : Int32))))) = kinc := rfl
  unfold f_X8_keeps
  simp only [zjp1, zlt, hk]
theorem x8_keeps {T : TD} {D : DD} {P : Nat × (Nat → DD)} {I : zk_I} (hw : wfT T) (hp : P.1 ≤ 8) (hD : repDM T D I 80 0) (hP : pM T P I) : ∃ I1, f_X8_keeps I = some I1 ∧ pM T (pushP P D) I1 ∧ (∀ c, c ≠ 81 → c ≠ 76 → I1 c = I c) ∧ ∀ q, q ≠ 6 → I1 76 q = I 76 q := by
  obtain ⟨p1, p2⟩ := hP
  have hnb := hw.2.1
  rw [x8_keeps_eq]
  have fin : ∀ (k : Nat) (Q : Nat → DD) (I0 : zk_I), k < 8 → I0 76 6 = nI k → (∀ c, c ≠ 81 → c ≠ 76 → I0 c = I c) → (∀ q, q ≠ 6 → I0 76 q = I 76 q) → (∀ i, i < k → repDM T (Q i) I0 81 (14 * i)) → ∃ I1, l_X8_keeps_50 kinc 3000 (0 : Int32) I0 = some I1 ∧ pM T (k + 1, fun i => if i = k then D else Q i) I1 ∧ (∀ c, c ≠ 81 → c ≠ 76 → I1 c = I c) ∧ ∀ q, q ≠ 6 → I1 76 q = I 76 q := by
    intro k Q I0 hk h6 hc hq hr
    rw [x8_put hk h6]
    refine ⟨_, rfl, ⟨?_, fun i hi => ?_⟩, fun c h1 h2 => ?_, fun q h1 => ?_⟩
    · rw [zk_sc_s, pk_us, zk_sc_n _ _ (by decide), h6, nI_1]
    · have hi : i < k + 1 := hi
      show repDM T (if i = k then D else Q i) _ 81 (14 * i)
      by_cases hik : i = k
      · rw [if_pos hik]
        subst hik
        unfold repDM
        simp only [zk_sc_n _ _ (show ¬ 81 = 76 by decide), zk_sc_s]
        obtain ⟨d1, d2, d3⟩ := hD
        have e80 : I0 80 = I 80 := hc 80 (by decide) (by decide)
        rw [if_pos (by omega), if_pos (by omega), e80, Nat.sub_self, show 14 * i + 1 - 14 * i = 0 + 1 by omega]
        refine ⟨d1, d2, fun b hb => ?_⟩
        rw [if_pos (by omega), if_pos (by omega), if_pos (by omega), show 14 * i + (2 + b) - 14 * i = 0 + (2 + b) by omega, show 14 * i + (6 + b) - 14 * i = 0 + (6 + b) by omega, show 14 * i + (10 + b) - 14 * i = 0 + (10 + b) by omega]
        exact d3 b hb
      · rw [if_neg hik]
        unfold repDM
        simp only [zk_sc_n _ _ (show ¬ 81 = 76 by decide), zk_sc_s]
        obtain ⟨d1, d2, d3⟩ := hr i (by omega)
        rw [if_neg (by omega), if_neg (by omega)]
        refine ⟨d1, d2, fun b hb => ?_⟩
        rw [if_neg (by omega), if_neg (by omega), if_neg (by omega)]
        exact d3 b hb
    · rw [zk_sc_n _ _ h2, zk_sc_n _ _ h1]
      exact hc c h1 h2
    · rw [zk_sc_s, pk_un h1, zk_sc_n _ _ (by decide)]
      exact hq q h1
  by_cases h : P.1 < 8
  · have e : ¬ I 76 6 = (8 : Int32) := by
      rw [p1]
      exact fun q => absurd (xl_inj (by omega) (by decide) (b := 8) q) (by omega)
    rw [if_neg e]
    unfold pushP
    rw [if_pos h]
    exact fin P.1 P.2 I h p1 (fun _ _ _ => rfl) (fun _ _ => rfl) p2
  · have hp8 : P.1 = 8 := by omega
    have e : I 76 6 = (8 : Int32) := by rw [p1, hp8]; rfl
    rw [if_pos e, x8_shift]
    unfold pushP
    rw [if_neg h]
    refine fin 7 (fun i => P.2 (i + 1)) _ (by decide) ?_ (fun c h1 h2 => ?_) (fun q h1 => ?_) (fun i hi => ?_)
    · rw [zk_sc_s, pk_us, zk_sc_n _ _ (by decide), e]
      rfl
    · rw [zk_sc_n _ _ h2, zk_sc_n _ _ h1]
    · rw [zk_sc_s, pk_un h1, zk_sc_n _ _ (by decide)]
    · obtain ⟨d1, d2, d3⟩ := p2 (i + 1) (by omega)
      unfold repDM
      simp only [zk_sc_n _ _ (show ¬ 81 = 76 by decide), zk_sc_s]
      rw [if_pos (by omega), if_pos (by omega), show 14 * i + 14 = 14 * (i + 1) by omega, show 14 * i + 1 + 14 = 14 * (i + 1) + 1 by omega]
      refine ⟨d1, d2, fun b hb => ?_⟩
      rw [if_pos (by omega), if_pos (by omega), if_pos (by omega), show 14 * i + (2 + b) + 14 = 14 * (i + 1) + (2 + b) by omega, show 14 * i + (6 + b) + 14 = 14 * (i + 1) + (6 + b) by omega, show 14 * i + (10 + b) + 14 = 14 * (i + 1) + (10 + b) by omega]
      exact d3 b hb

/-! numbers in the text -/
def nb (x : TX) (p e b : Nat) : Option Nat := if srt x p = 2 ∧ vl x p e < b then some (vl x p e) else none
def opt (o : Option Nat) : Int32 := match o with | some v => nI v | none => -1
theorem srt2 {x : TX} {p : Nat} (h : srt x p = 2) : p < x.1 ∧ sqV (x.2 p) = 2 := by
  unfold srt at h
  by_cases h1 : p < x.1
  · rw [if_pos h1] at h
    refine ⟨h1, ?_⟩
    split at h <;> omega
  · rw [if_neg h1] at h; cases h
theorem srt2_e {x : TX} {p : Nat} (hx : wfX x) (h : srt x p = 2) : p + 1 ≤ tE x p ∧ ∀ i, p ≤ i → i < tE x p → 48 ≤ x.2 i ∧ x.2 i ≤ 57 := by
  obtain ⟨h1, h2⟩ := srt2 h
  have e : tE x p = sk (pK x 2) 160 p := by unfold tE; rw [if_pos h1, h2, if_neg (by decide)]
  rw [e]
  have hp : pK x 2 p = true := by simp [pK, h1, h2]
  refine ⟨?_, fun i hi1 hi2 => ?_⟩
  · rw [sk_step pK_lt hx.1 hp]
    exact sk_ge _ _ _
  · have := sk_all (p := pK x 2) 160 p i hi1 hi2
    simp only [pK, Bool.and_eq_true, decide_eq_true_eq] at this
    exact sq2 this.2
theorem x_number {x : TX} {p e : Nat} {I : zk_I} (hx : wfX x) (hc : atC x p e I) (hpx : p ≤ x.1) (hee : e = tE x p) : f_X5_number I = some (if srt x p = 2 ∧ e - p ≤ 2 then nI (vl x p e) else -1) := by
  obtain ⟨ht, h2, h3⟩ := hc
  have hL := hx.1
  have he : e ≤ x.1 := by rw [hee]; exact tE_le hpx
  have hp : p ≤ e := by rw [hee]; exact tE_ge
  unfold f_X5_number
  rw [h2, h3, nI_sub hp]
  by_cases h1 : e - p < 1
  · have c1 : nI (e - p) < (1 : Int32) := nI_lt (b := 1) h1 (by decide)
    rw [if_pos c1, if_neg]
    intro h
    have := (srt2_e hx h.1).1
    omega
  · have c1 : ¬ nI (e - p) < (1 : Int32) := nI_nlt (b := 1) (by omega) (by omega)
    rw [if_neg c1]
    by_cases h22 : e - p ≤ 2
    · have c2 : ¬ (2 : Int32) < nI (e - p) := nI_nlt (a := 2) h22 (by decide)
      have hlt : p < x.1 := by omega
      rw [if_neg c2, zck (zin (show p < 160 by omega) (by decide)), nI_clamp (show p < 2 ^ 31 by omega), ht.2 p hlt, x_sortOf _ (hx.2 p hlt), zlt]
      by_cases hs : sqV (x.2 p) = 2
      · have hsr : srt x p = 2 := by unfold srt; rw [if_pos hlt, hs]; rfl
        have hd := (srt2_e hx hsr).2
        rw [← hee] at hd
        rw [hs, if_pos (show nI 2 = (2 : Int32) from rfl), if_pos ⟨hsr, h22⟩]
        have st : ∀ n i y, p ≤ i → i < e → l_X5_number_45 I (fun (z10 : Int32) => some z10) (n + 1) (nI y) (nI i) = l_X5_number_45 I (fun (z10 : Int32) => some z10) n (nI (y * 10 + (x.2 i - 48))) (nI (i + 1)) := by
          intro n i y h1 h2
          have := hd i h1 h2
          rw [l_X5_number_45, h3, if_neg (nI_ge h2 (by omega)), zck (zin (show i < 160 by omega) (by decide)), nI_clamp (show i < 2 ^ 31 by omega), ht.2 i (by omega), zlt, xlit 10, xlit 48, nI_sub (by omega), pk_mul, nI_add, nI_1]
        have en : ∀ n y, l_X5_number_45 I (fun (z10 : Int32) => some z10) (n + 1) y (nI e) = some y := by
          intro n y
          rw [l_X5_number_45, h3, if_pos (nI_le (Nat.le_refl _) (by omega))]
        have st0 := st 2999 p 0 (Nat.le_refl _) (by omega)
        refine Eq.trans st0 ?_
        by_cases e1 : e = p + 1
        · rw [← e1, en 2998]
          unfold vl
          rw [if_neg (by omega), if_pos e1]
          congr 2
          omega
        · have e2 : e = p + 2 := by omega
          rw [st 2998 (p + 1) _ (by omega) (by omega), show p + 1 + 1 = e by omega, en 2997]
          unfold vl
          rw [if_neg (by omega), if_neg (by omega), if_pos e2]
          congr 2
          omega
      · have := sqV_lt (x.2 p)
        have hne : ¬ nI (sqV (x.2 p)) = (2 : Int32) := fun q => hs (xl_inj (b := 2) (by omega) (by decide) q)
        rw [if_neg hne, if_neg]
        intro h
        exact hs (srt2 h.1).2
    · have c2 : (2 : Int32) < nI (e - p) := nI_lt (a := 2) (by omega) (by omega)
      rw [if_pos c2, if_neg (fun h => h22 h.2)]
theorem vl_le {x : TX} {p : Nat} (hx : wfX x) (h : srt x p = 2) (h2 : tE x p - p ≤ 2) : vl x p (tE x p) ≤ 99 := by
  obtain ⟨h1, hd⟩ := srt2_e hx h
  unfold vl
  rw [if_neg (by omega)]
  by_cases e1 : tE x p = p + 1
  · rw [if_pos e1]
    have := hd p (by omega) (by omega)
    omega
  · rw [if_neg e1, if_pos (by omega)]
    have := hd p (by omega) (by omega)
    have := hd (p + 1) (by omega) (by omega)
    omega
theorem vl_100 {x : TX} {p e : Nat} (h2 : ¬ e - p ≤ 2) : vl x p e = 100 := by
  unfold vl
  rw [if_neg (by omega), if_neg (by omega), if_neg (by omega)]
theorem nI_neg_le {b : Nat} (hb : b < 2 ^ 31) : ¬ nI b ≤ (-1 : Int32) := by
  intro q
  rw [Int32.le_iff_toInt_le, nI_toInt hb] at q
  have : (-1 : Int32).toInt = -1 := by decide
  omega
theorem x_nextN {x : TX} {I : zk_I} (hx : wfX x) (hc : tC x I) {e b : Nat} (he : e ≤ x.1) (h3 : I 1 3 = nI e) (hb : b ≤ 100) : ∃ I1, f_X0_nextNumber I (nI b) = some (opt (nb x (tS x e) (tE x (tS x e)) b), I1) ∧ atC x (tS x e) (tE x (tS x e)) I1 ∧ ∀ c, c ≠ 1 → I1 c = I c := by
  obtain ⟨I1, n1, n2, n3⟩ := x_next hx hc he h3
  refine ⟨I1, ?_, n2, n3⟩
  have hp := tS_le he
  unfold f_X0_nextNumber
  rw [n1, zbd1, x_number hx n2 hp rfl, zbd1]
  unfold nb
  by_cases h : srt x (tS x e) = 2 ∧ tE x (tS x e) - tS x e ≤ 2
  · have := vl_le hx h.1 h.2
    rw [if_pos h]
    by_cases hlt : vl x (tS x e) (tE x (tS x e)) < b
    · rw [if_neg (nI_ge hlt (by omega)), if_pos ⟨h.1, hlt⟩]
      rfl
    · rw [if_pos (nI_le (by omega) (by omega)), if_neg (fun q => hlt q.2)]
      rfl
  · rw [if_neg h, if_neg (nI_neg_le (by omega)), if_neg]
    · rfl
    · intro q
      by_cases h2 : tE x (tS x e) - tS x e ≤ 2
      · exact h ⟨q.1, h2⟩
      · have := vl_100 (x := x) h2
        omega
theorem opt_m1 {v : Nat} (h : v < 2 ^ 30) : ¬ opt (some v) = (-1 : Int32) := by
  intro q
  have : nI v < 0 := by
    have q : nI v = (-1 : Int32) := q
    rw [q]; decide
  exact nI_pos (by omega) this
theorem x8_inb {v b : Nat} (hv : v < 2 ^ 30) (hb : b < 2 ^ 30) : f_X8_in (nI v) 0 (nI b - nI 1) = nI (if v < b then 1 else 0) := by
  rw [x8_in]
  by_cases h : v < b
  · rw [if_pos h, if_neg]
    · rfl
    · rintro (q | q)
      · exact nI_pos (by omega) q
      · exact nI_ge h (by omega) ((nI_m1_lt hb _).mp q)
  · rw [if_neg h, if_pos]
    · rfl
    · exact Or.inr ((nI_m1_lt hb _).mpr (nI_le (by omega) (by omega)))
/-- the reference's test of a number -/
theorem nb_some {x : TX} {p e b v : Nat} (h : nb x p e b = some v) : srt x p = 2 ∧ v < b ∧ v = vl x p e := by
  unfold nb at h
  by_cases q : srt x p = 2 ∧ vl x p e < b
  · rw [if_pos q] at h
    cases h
    exact ⟨q.1, q.2, rfl⟩
  · rw [if_neg q] at h; cases h
theorem vl_small {x : TX} {p : Nat} (hx : wfX x) (h : srt x p = 2) : vl x p (tE x p) ≤ 100 := by
  by_cases h2 : tE x p - p ≤ 2
  · have := vl_le hx h h2; omega
  · rw [vl_100 h2]; exact Nat.le_refl _
theorem nb_test {x : TX} {p b : Nat} {I : zk_I} (hx : wfX x) (hm : atM x p (tE x p) I) (hb : b < 2 ^ 30) {α : Type} (Y N : Option α) : (if (I 76 11) = (2 : Int32) then zk_lt (f_X8_in (I 76 14) (0 : Int32) (nI b - nI 1)) (fun (r8 : Int32) => if r8 = 0 then N else Y) else N) = if (nb x p (tE x p) b).isSome then Y else N := by
  obtain ⟨ht, h12, h13, h11, h14⟩ := hm
  have hs4 : srt x p < 4 := by
    unfold srt
    have := sqV_lt (x.2 p)
    split
    · split <;> omega
    · omega
  rw [h11]
  unfold nb
  by_cases hs : srt x p = 2
  · have hv := vl_small hx hs
    rw [hs, if_pos (show nI 2 = (2 : Int32) from rfl), h14 hs, x8_inb (by omega) hb, zlt]
    by_cases hlt : vl x p (tE x p) < b
    · simp only [hlt, and_self, if_true, Option.isSome_some]
      rw [if_neg (show ¬ nI 1 = (0 : Int32) by decide)]
    · simp only [hlt, and_false, if_false, Option.isSome_none, Bool.false_eq_true]
      rw [if_pos (show nI 0 = (0 : Int32) from rfl)]
  · have hne : ¬ nI (srt x p) = (2 : Int32) := fun q => hs (xl_inj (b := 2) (by omega) (by decide) q)
    rw [if_neg hne]
    simp only [hs, false_and, if_false, Option.isSome_none, Bool.false_eq_true]

/-! the class fills a table, from the fullest set down -/
def flD (T : TD) (h : Nat) (V : Nat → Nat → Int64) (J : zk_J) (tb s0 : Nat) : Prop := ∀ s w, s0 ≤ s → s < 2 ^ nrT T → s &&& h = h → w < nrT T → s.testBit w = true → J tb (8 * s + w) = V s w
def msOK (T : TD) (h : Nat) (V : Nat → Nat → Int64) (I : zk_I) (J : zk_J) (a1 : Int32) (tb : Nat) : Prop := ∀ (J' : zk_J) s w, s < 2 ^ nrT T → s &&& h = h → w < nrT T → s.testBit w = true → (∀ c, c ≠ tb → J' c = J c) → flD T h V J' tb (s + 1) → f_X3_measureOf I J' a1 tb (nI s) (nI w) = some (V s w)
theorem x_fill32 {T : TD} {h : Nat} {V : Nat → Nat → Int64} {I : zk_I} {J : zk_J} {a1 : Int32} {tb s : Nat} (hT : wfT T) (hr : repC T I 3) (hM : msOK T h V I J a1 tb) (hs : s < 2 ^ nrT T) (hsub : s &&& h = h) (K : zk_J → Option zk_J) : ∀ m i (J' : zk_J), i + m = nrT T → (∀ c, c ≠ tb → J' c = J c) → flD T h V J' tb (s + 1) → (∀ w, w < i → s.testBit w = true → J' tb (8 * s + w) = V s w) → ∀ n, m < n → ∃ J'', l_X3_fill_32 I tb a1 (nI s) K n (nI i) J' = K J'' ∧ (∀ c, c ≠ tb → J'' c = J c) ∧ flD T h V J'' tb s := by
  have hnr := hT.1
  have hpw := pow_le8 hnr
  intro m
  induction m with
  | zero =>
    intro i J' hi ho hf hw n hn
    obtain ⟨n, rfl⟩ : ∃ k, n = k + 1 := ⟨n - 1, by omega⟩
    refine ⟨J', ?_, ho, fun s' w h1 h2 h3 h4 h5 => ?_⟩
    · rw [l_X3_fill_32, hr.1, if_pos (nI_le (by omega) (by omega))]
    · by_cases he : s' = s
      · subst he; exact hw w (by omega) h5
      · exact hf s' w (by omega) h2 h3 h4 h5
  | succ m ih =>
    intro i J' hi ho hf hw n hn
    obtain ⟨n, rfl⟩ : ∃ k, n = k + 1 := ⟨n - 1, by omega⟩
    rw [l_X3_fill_32, hr.1, if_neg (nI_ge (by omega) (by omega)), zlt, x_hasBit (show s < 2 ^ 31 by omega) (show i < 32 by omega), zjp1, q01]
    cases hb : s.testBit i
    · rw [if_neg (by decide), nI_1]
      refine ih (i + 1) J' (by omega) ho hf (fun w h1 h2 => ?_) n (by omega)
      by_cases he : w = i
      · subst he; rw [hb] at h2; cases h2
      · exact hw w (by omega) h2
    · have est : f_X3_stateOf (nI s) (nI i) = nI (8 * s + i) := by
        unfold f_X3_stateOf
        rw [xlit 8, pk_mul, nI_add, Nat.mul_comm]
      rw [if_pos rfl, zlt, est, hM J' s i hs hsub (by omega) hb ho hf, zbd1, zck (zin (show 8 * s + i < 2048 by omega) (by decide)), nI_clamp (show 8 * s + i < 2 ^ 31 by omega), zlt, nI_1]
      refine ih (i + 1) _ (by omega) (fun c hc => ?_) (fun s' w h1 h2 h3 h4 h5 => ?_) (fun w h1 h2 => ?_) n (by omega)
      · rw [zk_sj_n _ _ hc]; exact ho c hc
      · rw [zk_sj_s, pk_uLn (by omega)]; exact hf s' w h1 h2 h3 h4 h5
      · rw [zk_sj_s]
        by_cases he : w = i
        · subst he; rw [pk_uLs]
        · rw [pk_uLn (by omega)]; exact hw w (by omega) h2
theorem x_fill5 {T : TD} {h : Nat} {V : Nat → Nat → Int64} {I : zk_I} {J : zk_J} {a1 : Int32} {tb : Nat} (hT : wfT T) (hr : repC T I 3) (h8 : I 63 8 = nI h) (hh : 1 ≤ h) (hM : msOK T h V I J a1 tb) (K : zk_J → Option zk_J) : ∀ k s (J' : zk_J), s + 1 = h + k → s < 2 ^ nrT T → (∀ c, c ≠ tb → J' c = J c) → flD T h V J' tb (s + 1) → ∀ n, k < n → ∃ J'', l_X3_fill_5 I tb a1 K n (nI s) J' = K J'' ∧ (∀ c, c ≠ tb → J'' c = J c) ∧ flD T h V J'' tb h := by
  have hnr := hT.1
  have hpw := pow_le8 hnr
  intro k
  induction k with
  | zero =>
    intro s J' hk hs ho hf n hn
    obtain ⟨n, rfl⟩ : ∃ k, n = k + 1 := ⟨n - 1, by omega⟩
    refine ⟨J', ?_, ho, fun s' w h1 => hf s' w (by omega)⟩
    rw [l_X3_fill_5, h8, if_pos (nI_lt (by omega) (by omega))]
  | succ k ih =>
    intro s J' hk hs ho hf n hn
    obtain ⟨n, rfl⟩ : ∃ k, n = k + 1 := ⟨n - 1, by omega⟩
    obtain ⟨s, rfl⟩ : ∃ q, s = q + 1 := ⟨s - 1, by omega⟩
    rw [l_X3_fill_5, h8, if_neg (nI_nlt (by omega) (by omega)), zjp1, xb_and, pk_m1]
    by_cases hsub : (s + 1) &&& h = h
    · rw [hsub, if_pos rfl]
      obtain ⟨J2, a1', a2, a3⟩ := x_fill32 hT hr hM hs hsub (fun (J19 : zk_J) => l_X3_fill_5 I tb a1 K n (nI s) J19) (nrT T) 0 J' (by omega) ho hf (fun w hw => absurd hw (Nat.not_lt_zero _)) 3000 (by omega)
      obtain ⟨J3, b1, b2, b3⟩ := ih s J2 (by omega) (by omega) a2 a3 n (by omega)
      exact ⟨J3, a1'.trans b1, b2, b3⟩
    · have hl : (s + 1) &&& h ≤ s + 1 := Nat.and_le_left
      have hne : ¬ nI ((s + 1) &&& h) = nI h := fun q => hsub (xl_inj (by omega) (by omega) q)
      rw [if_neg hne]
      refine ih s J' (by omega) (by omega) ho (fun s' w h1 h2 h3 h4 h5 => ?_) n (by omega)
      by_cases he : s' = s + 1
      · subst he; exact absurd h3 hsub
      · exact hf s' w (by omega) h2 h3 h4 h5
theorem x_fillR {T : TD} {dy h w0 : Nat} {V : Nat → Nat → Int64} {I : zk_I} {J : zk_J} {a1 : Int32} {tb : Nat} (hT : wfT T) (hB : begC T dy h w0 I) (hh : 1 ≤ h) (hlt : h < 2 ^ nrT T) (hM : msOK T h V I J a1 tb) : ∃ J1, f_X3_fill I J a1 tb = some J1 ∧ (∀ c, c ≠ tb → J1 c = J c) ∧ flD T h V J1 tb h := by
  have hnr := hT.1
  have hpw := pow_le8 hnr
  unfold f_X3_fill
  rw [zlt, x_every hT hB.1]
  exact x_fill5 hT hB.1 hB.2.1 hh hM (fun (J20 : zk_J) => some J20) (2 ^ nrT T - h) (2 ^ nrT T - 1) J (by omega) (by omega) (fun _ _ => rfl) (fun s w h1 h2 => by omega) 3000 (by omega)

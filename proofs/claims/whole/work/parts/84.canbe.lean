/-! the reference's -/
theorem x8_cb4 {I : zk_I} (p1 p2 : Int32) (K : zk_I → Option (Int32 × zk_I)) : l_X8_canBe_4 p1 p2 K 3000 0 I = K (fwI I 93 (fun _ => -1)) := by
  have h0 : I = zk_sc I 93 (fun j => if j < 0 then -1 else I 93 j) := by
    funext a
    by_cases hc : a = 93
    · subst hc
      rw [zk_sc_s]
      funext j
      rw [if_neg (by omega)]
    · rw [zk_sc_n _ _ hc]
  have key := zl_up (fun n i (s : zk_I) => l_X8_canBe_4 p1 p2 K n (nI i) s) K (fun i => zk_sc I 93 (fun j => if j < i then -1 else I 93 j)) 8 (fun n => ?_) (fun n i hi => ?_) 3000 0 (by omega) (by omega)
  · rw [← h0] at key
    exact key
  · simp only [l_X8_canBe_4]
    rw [if_pos (show (8 : Int32) ≤ nI 8 by decide)]
  · rw [l_X8_canBe_4, if_neg (show ¬ (8 : Int32) ≤ nI i from nI_ge (b := 8) hi (by decide)), zck (zin hi (by decide)), nI_clamp (by omega), zlt, nI_1, sc_sc, zk_sc_s, up_if _ (fun _ => (-1 : Int32)) _ rfl]
theorem x8_cb143 {I : zk_I} {nm : Nat → Int32} (hv : ∀ j, vaN (nm j)) (h93 : ∀ j, j < 8 → I 93 j = nm j) (p3 p4 : Int32) (K : Int32 → Option (Int32 × zk_I)) : ∀ m k a n, k + m = 8 → m < n → vaN a → l_X8_canBe_143 I p3 p4 K n a (nI k) = K (chs nm m a) := by
  intro m
  induction m with
  | zero =>
    intro k a n hk hn ha
    obtain ⟨n, rfl⟩ : ∃ k, n = k + 1 := ⟨n - 1, by omega⟩
    have : k = 8 := by omega
    subst this
    rw [l_X8_canBe_143, if_pos (show (8 : Int32) ≤ nI 8 by decide)]
    rfl
  | succ m ih =>
    intro k a n hk hn ha
    obtain ⟨n, rfl⟩ : ∃ k, n = k + 1 := ⟨n - 1, by omega⟩
    rw [l_X8_canBe_143, if_neg (show ¬ (8 : Int32) ≤ nI k from nI_ge (b := 8) (by omega) (by decide)), chs]
    rcases ha with ha | ⟨x, hx, ha⟩
    · rw [if_pos ha, if_pos ha]
    · subst ha
      rw [if_neg (va8 x hx), if_neg (va8 x hx), zck (zin hx (by decide)), nI_clamp (by omega), zlt, h93 x hx, nI_1]
      exact ih (k + 1) _ n (by omega) (by omega) (hv x)
theorem x8_cb129 {I : zk_I} {nm : Nat → Int32} (hv : ∀ j, vaN (nm j)) (h93 : ∀ j, j < 8 → I 93 j = nm j) (K : Int32 → Option (Int32 × zk_I)) : l_X8_canBe_129 I K 3000 1 0 = K (nI (if endB nm 8 then 1 else 0)) := by
  have key := zl_up (fun n i (s : Int32) => l_X8_canBe_129 I K n s (nI i)) K (fun i => nI (if endB nm i then 1 else 0)) 8 (fun n => ?_) (fun n i hi => ?_) 3000 0 (by omega) (by omega)
  · exact key
  · rw [l_X8_canBe_129, if_pos (show (8 : Int32) ≤ nI 8 by decide)]
  · rw [l_X8_canBe_129, if_neg (show ¬ (8 : Int32) ≤ nI i from nI_ge (b := 8) hi (by decide)), show (0 : Int32) = nI 0 from rfl, x8_cb143 hv h93 _ (nI i) _ 8 0 (nI i) 3000 rfl (by decide) (Or.inr ⟨i, hi, rfl⟩), nI_1]
    refine (jp1_to (v := nI (if endB nm (i + 1) then 1 else 0)) (fun K' => ?_)).trans rfl
    refine (zjp0 _ _).trans ?_
    rw [show nI 0 = (0 : Int32) from rfl, q01, endB]
    by_cases he : endB nm i = true
    · rw [if_pos he, he, Bool.true_and]
      by_cases hc : chs nm 8 (nI i) = -1
      · rw [if_pos hc, decide_eq_true hc]; rfl
      · rw [if_neg hc, decide_eq_false hc]; rfl
    · have he : endB nm i = false := by simpa using he
      rw [he, if_neg (by decide)]
      rfl
theorem x8_cb25 {T : TD} {I : zk_I} {sz set al : Nat} {A B : Nat → Nat} (hT : wfT T) (hr : repM T I 78) (hsz : sz ≤ 8) (h76 : I 76 10 = nI sz) (hA : ∀ k, k < sz → A k < nrT T) (hB : ∀ k, k < sz → B k < nrT T) (h84 : ∀ k, k < sz → I 84 k = nI (8 * A k + B k)) (hal : al < 256) (hset : ∀ k, k < sz → al.testBit k = !set.testBit k) (K : zk_I → Option (Int32 × zk_I)) : ∀ m i n q, i + m = sz → m < n → scn (fun k => (mayT T (A k) 0).testBit (B k)) A B set i = some q → (scn (fun k => (mayT T (A k) 0).testBit (B k)) A B set sz = none → ∃ I1, l_X8_canBe_25 (nI al) K n (nI q.2) (nI i) (fwI I 93 q.1) = some (0, I1) ∧ ∀ c, c ≠ 93 → I1 c = I c) ∧ ∀ q', scn (fun k => (mayT T (A k) 0).testBit (B k)) A B set sz = some q' → l_X8_canBe_25 (nI al) K n (nI q.2) (nI i) (fwI I 93 q.1) = K (fwI I 93 q'.1) := by
  have hnr := hT.1
  have hB8 : ∀ k, k < sz → B k < 8 := fun k hk => by have := hB k hk; omega
  intro m
  induction m with
  | zero =>
    intro i n q hi hn hq
    obtain ⟨n, rfl⟩ : ∃ k, n = k + 1 := ⟨n - 1, by omega⟩
    have : i = sz := by omega
    subst this
    refine ⟨fun h => (by rw [hq] at h; cases h), fun q' h => ?_⟩
    rw [hq] at h
    rw [← Option.some.inj h, l_X8_canBe_25, fw_n _ _ (by decide), h76, if_pos (nI_le (Nat.le_refl _) (by omega))]
  | succ m ih =>
    intro i n q hi hn hq
    obtain ⟨n, rfl⟩ : ∃ k, n = k + 1 := ⟨n - 1, by omega⟩
    obtain ⟨hv, hby⟩ := scn_val (fun k hk => hB8 k (by omega)) hq
    have a1 := hA i (by omega)
    have b1 := hB i (by omega)
    have hmay := mayT_lt hT (A i) 0
    have hst : scn (fun k => (mayT T (A k) 0).testBit (B k)) A B set (i + 1) = if set.testBit i = true then some q else if q.1 (A i) = -1 ∧ q.2.testBit (B i) = false ∧ (mayT T (A i) 0).testBit (B i) = true then some (upd q.1 (A i) (nI (B i)), q.2 ||| 2 ^ B i) else none := by
      rw [scn, hq]
    have bad : scn (fun k => (mayT T (A k) 0).testBit (B k)) A B set (i + 1) = none → (scn (fun k => (mayT T (A k) 0).testBit (B k)) A B set sz = none → ∃ I1, some ((0 : Int32), fwI I 93 q.1) = some (0, I1) ∧ ∀ c, c ≠ 93 → I1 c = I c) ∧ ∀ q', scn (fun k => (mayT T (A k) 0).testBit (B k)) A B set sz = some q' → some ((0 : Int32), fwI I 93 q.1) = K (fwI I 93 q'.1) := by
      intro hn1
      have h2 := scn_none hn1 m
      rw [show i + 1 + m = sz by omega] at h2
      refine ⟨fun _ => ⟨_, rfl, fun c hc => fw_n _ _ hc⟩, fun q' h => ?_⟩
      rw [h2] at h
      cases h
    have hr' : repM T (fwI I 93 q.1) 78 := hr.fr (fw_n _ _ (by decide))
    have hdiv : nI (8 * A i + B i) / (8 : Int32) = nI (A i) := by
      rw [xlit 8, pk_div (by omega) (by decide) (by decide), show (8 * A i + B i) / 8 = A i by omega]
    have hrem : nI (8 * A i + B i) - nI (A i) * (8 : Int32) = nI (B i) := by
      rw [xlit 8, pk_mul, nI_sub (by omega), show 8 * A i + B i - A i * 8 = B i by omega]
    have hbit : ((nI al >>> (nI i &&& 31)) &&& (1 : Int32)) = nI (if al.testBit i then 1 else 0) := by
      rw [xlit 1, xlit 31, xb_bit (by omega) (by omega)]
    rw [l_X8_canBe_25, fw_n _ _ (show 76 ≠ 93 by decide), h76, if_neg (nI_ge (by omega) (by omega)), zjp2, nI_1, hbit, hset i (by omega)]
    cases hb : set.testBit i
    · rw [hb, if_neg (by decide)] at hst
      rw [if_pos (show nI (if (!false) = true then 1 else 0) = (1 : Int32) from rfl), zck (zin (show i < 8 by omega) (by decide)), nI_clamp (show i < 2 ^ 31 by omega), fw_n _ _ (show 84 ≠ 93 by decide), h84 i (by omega), zlt, hdiv, zck (zin (show i < 8 by omega) (by decide)), hrem, zlt, zck (zin (show A i < 8 by omega) (by decide)), nI_clamp (show A i < 2 ^ 31 by omega), fw_s _ _ _ (show A i < 8 by omega)]
      by_cases h1 : q.1 (A i) = -1
      · rw [if_pos h1, xlit 1, xlit 31, xb_bit (show q.2 < 2 ^ 31 by omega) (show B i < 32 by omega)]
        cases hby2 : q.2.testBit (B i)
        · rw [if_neg (by decide), show (0 : Int32) = nI 0 from rfl, x8_named hT hr' a1 (by decide), zbd1, xb_bit (by omega) (show B i < 32 by omega)]
          cases hmb : (mayT T (A i) 0).testBit (B i)
          · rw [if_pos (show nI (if false = true then 1 else 0) = nI 0 from rfl)]
            exact bad (by rw [hst, if_neg (fun q => by rw [hmb] at q; exact absurd q.2.2 (by decide))])
          · rw [if_pos ⟨h1, hby2, hmb⟩] at hst
            rw [if_neg (by decide), zck (zin (show A i < 8 by omega) (by decide)), zlt, fw_up _ _ _ (show A i < 8 by omega), zlt, xb_shl1 _ (by omega), xb_or]
            exact ih (i + 1) n _ (by omega) (by omega) hst
        · rw [if_pos (by rfl)]
          exact bad (by rw [hst, if_neg (fun q => by rw [hby2] at q; exact absurd q.2.1 (by decide))])
      · rw [if_neg h1]
        exact bad (by rw [hst, if_neg (fun q => h1 q.1)])
    · rw [hb, if_pos rfl] at hst
      rw [if_neg (by decide)]
      exact ih (i + 1) n q (by omega) (by omega) hst
theorem x8_canBe {T : TD} {I : zk_I} {sz set al : Nat} {A B : Nat → Nat} (hT : wfT T) (hr : repM T I 78) (hsz : sz ≤ 8) (h76 : I 76 10 = nI sz) (hA : ∀ k, k < sz → A k < nrT T) (hB : ∀ k, k < sz → B k < nrT T) (h84 : ∀ k, k < sz → I 84 k = nI (8 * A k + B k)) (hal : al < 256) (hset : ∀ k, k < sz → al.testBit k = !set.testBit k) : ∃ I1, f_X8_canBe I (nI al) = some (nI (if fitB (fun k => (mayT T (A k) 0).testBit (B k)) A B sz set then 1 else 0), I1) ∧ ∀ c, c ≠ 93 → I1 c = I c := by
  have hnr := hT.1
  unfold f_X8_canBe
  rw [x8_cb4]
  obtain ⟨h1, h2⟩ := x8_cb25 (I := I) hT hr hsz h76 hA hB h84 hal hset (fun (I23 : zk_I) => l_X8_canBe_129 I23 (fun (z35 : Int32) => zk_ck (zk_01 z35) (some (z35, I23))) 3000 (1 : Int32) (0 : Int32)) sz 0 3000 (fun _ => -1, 0) (by omega) (by omega) rfl
  unfold fitB
  cases hs : scn (fun k => (mayT T (A k) 0).testBit (B k)) A B set sz with
  | none =>
    obtain ⟨I1, e1, e2⟩ := h1 hs
    exact ⟨I1, e1, e2⟩
  | some q =>
    refine ⟨fwI I 93 q.1, (h2 q hs).trans ?_, fun c hc => fw_n _ _ hc⟩
    obtain ⟨hv, hby⟩ := scn_val (fun k hk => (show B k < 8 by have := hB k hk; omega)) hs
    rw [x8_cb129 hv (fun j hj => fw_s _ _ _ hj)]
    dsimp only
    by_cases he : endB q.1 8 = true
    · rw [if_pos he]; rfl
    · rw [if_neg he]; rfl

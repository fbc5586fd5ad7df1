/-! the least of those with p -/
theorem nz0 {v : Nat} (hv : v < 2 ^ 31) (h : ¬ v = 0) : ¬ nI v = (0 : Int32) := fun q => h (xl_inj (b := 0) hv (by decide) q)
def LST (p : Nat → Bool) (n : Nat) (r : Int32) : Prop := (∃ x, x < n ∧ p x = true ∧ (∀ y, y < x → p y = false) ∧ r = nI x) ∨ ((∀ x, x < n → p x = false) ∧ r = -1)
theorem LST.uniq {p : Nat → Bool} {n : Nat} {r r' : Int32} (h : LST p n r) (g : LST p n r') : r = r' := by
  rcases h with ⟨x, h1, h2, h3, h4⟩ | ⟨h1, h2⟩
  · rcases g with ⟨y, g1, g2, g3, g4⟩ | ⟨g1, g2⟩
    · have : x = y := by
        rcases Nat.lt_trichotomy x y with hc | hc | hc
        · rw [g3 x hc] at h2; cases h2
        · exact hc
        · rw [h3 y hc] at g2; cases g2
      rw [h4, g4, this]
    · rw [g1 x h1] at h2; cases h2
  · rcases g with ⟨y, g1, g2, g3, g4⟩ | ⟨g1, g2⟩
    · rw [h1 y g1] at g2; cases g2
    · rw [h2, g2]
theorem LST.ext {p : Nat → Bool} {n m : Nat} {r : Int32} (h : LST p n r) (hm : n ≤ m) (hp : ∀ x, p x = true → x < n) : LST p m r := by
  rcases h with ⟨x, h1, h2, h3, h4⟩ | ⟨h1, h2⟩
  · exact Or.inl ⟨x, by omega, h2, h3, h4⟩
  · refine Or.inr ⟨fun x hx => ?_, h2⟩
    cases hb : p x
    · rfl
    · rw [h1 x (hp x hb)] at hb; cases hb
theorem LST_ex (p : Nat → Bool) : ∀ n, ∃ r, LST p n r
  | 0 => ⟨-1, Or.inr ⟨fun x hx => absurd hx (Nat.not_lt_zero _), rfl⟩⟩
  | n + 1 => by
    obtain ⟨r, h⟩ := LST_ex p n
    rcases h with ⟨x, h1, h2, h3, h4⟩ | ⟨h1, h2⟩
    · exact ⟨r, Or.inl ⟨x, by omega, h2, h3, h4⟩⟩
    · cases hb : p n
      · refine ⟨r, Or.inr ⟨fun x hx => ?_, h2⟩⟩
        by_cases he : x = n
        · subst he; exact hb
        · exact h1 x (by omega)
      · exact ⟨nI n, Or.inl ⟨n, by omega, hb, h1, rfl⟩⟩
theorem m1_add (x : Int32) : x + (-1 : Int32) = x - 1 := by rw [Int32.sub_eq_add_neg]
theorem nI_sm1 (k : Nat) : nI (k + 1) - 1 = nI k := by rw [xlit 1, nI_sub (by omega)]; rfl
theorem dn_loop {β : Type} (F : Nat → Int32 → Int32 → β) (K : Int32 → β) (p : Nat → Bool) (N : Nat) (h0 : ∀ n v, F (n + 1) v (nI 0 - 1) = K v) (hs : ∀ n v k, k < N → F (n + 1) v (nI k) = F n (if p k then nI k else v) (nI k + (-1 : Int32))) : ∀ k v n, k ≤ N → k < n → ((∃ x, k ≤ x ∧ x < N ∧ p x = true ∧ (∀ y, k ≤ y → y < x → p y = false) ∧ v = nI x) ∨ ((∀ x, k ≤ x → x < N → p x = false) ∧ v = -1)) → ∃ r, F n v (nI k - 1) = K r ∧ LST p N r := by
  intro k
  induction k with
  | zero =>
    intro v n hk hn hg
    obtain ⟨n, rfl⟩ : ∃ k, n = k + 1 := ⟨n - 1, by omega⟩
    refine ⟨v, h0 n v, ?_⟩
    rcases hg with ⟨x, g1, g2, g3, g4, g5⟩ | ⟨g1, g2⟩
    · exact Or.inl ⟨x, g2, g3, fun y hy => g4 y (Nat.zero_le _) hy, g5⟩
    · exact Or.inr ⟨fun x hx => g1 x (Nat.zero_le _) hx, g2⟩
  | succ k ih =>
    intro v n hk hn hg
    obtain ⟨n, rfl⟩ : ∃ k, n = k + 1 := ⟨n - 1, by omega⟩
    rw [nI_sm1, hs n v k (by omega), m1_add]
    refine ih _ n (by omega) (by omega) ?_
    cases hb : p k
    · rw [if_neg (by decide)]
      rcases hg with ⟨x, g1, g2, g3, g4, g5⟩ | ⟨g1, g2⟩
      · refine Or.inl ⟨x, by omega, g2, g3, fun y h1 h2 => ?_, g5⟩
        by_cases he : y = k
        · subst he; exact hb
        · exact g4 y (by omega) h2
      · refine Or.inr ⟨fun x h1 h2 => ?_, g2⟩
        by_cases he : x = k
        · subst he; exact hb
        · exact g1 x (by omega) h2
    · rw [if_pos rfl]
      exact Or.inl ⟨k, Nat.le_refl _, by omega, hb, fun y h1 h2 => by omega, rfl⟩
theorem dn_loop8 {β : Type} (F : Nat → Int32 → Int32 → β) (K : Int32 → β) (p : Nat → Bool) (h0 : ∀ n v, F (n + 1) v (nI 0 - 1) = K v) (hs : ∀ n v k, k < 8 → F (n + 1) v (nI k) = F n (if p k then nI k else v) (nI k + (-1 : Int32))) : ∃ r, F 3000 (-1) 7 = K r ∧ LST p 8 r :=
  dn_loop F K p 8 h0 hs 8 (-1) 3000 (by omega) (by omega) (Or.inr ⟨fun x h1 h2 => by omega, rfl⟩)
theorem up_loop (F : Nat → Int32 → Option Int32) (p : Nat → Bool) (N : Nat) (h0 : ∀ n, F (n + 1) (nI N) = some (-1)) (hs : ∀ n i, i < N → F (n + 1) (nI i) = if p i then some (nI i) else F n (nI (i + 1))) : ∀ m i n, i + m = N → m < n → (∀ y, y < i → p y = false) → ∃ r, F n (nI i) = some r ∧ LST p N r := by
  intro m
  induction m with
  | zero =>
    intro i n hi hn hp
    obtain ⟨n, rfl⟩ : ∃ k, n = k + 1 := ⟨n - 1, by omega⟩
    have : i = N := by omega
    subst this
    exact ⟨_, h0 n, Or.inr ⟨hp, rfl⟩⟩
  | succ m ih =>
    intro i n hi hn hp
    obtain ⟨n, rfl⟩ : ∃ k, n = k + 1 := ⟨n - 1, by omega⟩
    rw [hs n i (by omega)]
    cases hb : p i
    · rw [if_neg (by decide)]
      refine ih (i + 1) n (by omega) (by omega) (fun y hy => ?_)
      by_cases he : y = i
      · subst he; exact hb
      · exact hp y (by omega)
    · rw [if_pos rfl]
      exact ⟨_, rfl, Or.inl ⟨i, by omega, hb, hp, rfl⟩⟩
theorem x_leastOf {c : Nat} (hc : c < 256) : ∃ r, f_X7_leastOf (nI c) = some r ∧ LST (fun x => c.testBit x) 8 r := by
  unfold f_X7_leastOf
  refine up_loop (fun n y => l_X7_leastOf_2 (nI c) (some (-1 : Int32)) n y) (fun x => c.testBit x) 8 (fun n => ?_) (fun n i hi => ?_) 8 0 3000 (by omega) (by omega) (fun y hy => absurd hy (Nat.not_lt_zero _))
  · rw [l_X7_leastOf_2, if_pos (show (8 : Int32) ≤ nI 8 by decide)]
  · rw [l_X7_leastOf_2, if_neg (show ¬ (8 : Int32) ≤ nI i from nI_ge (b := 8) hi (by decide)), zlt, x_hasBit (by omega) (by omega), q01, nI_1]
/-! turns -/
def trP (T : TD) (dy h w0 x : Nat) : Bool := (chN T dy h h w0).testBit x && decide (wnV T dy h (h ||| 2 ^ x) x = 0)
theorem x_lwc {T : TD} {I : zk_I} {J : zk_J} {dy h w0 : Nat} (hT : wfT T) (hB : begC T dy h w0 I) (hh : h < 2 ^ nrT T) (hw0 : w0 < nrT T) (hf : flD T h (fun s w => lN (wnV T dy h s w)) J 69 h) : ∃ r, f_X3_leastWinningChoice I J = some r ∧ LST (trP T dy h w0) 8 r := by
  have hnr := hT.1
  have hpw := pow_le8 hnr
  have hsub : h &&& h = h := Nat.and_self h
  have hc := chN_lt hT dy h h w0
  unfold f_X3_leastWinningChoice
  rw [hB.2.1, hB.2.2.1, x_choices hT hB hh hsub hw0, zbd1]
  have key := up_loop (fun n y => l_X3_leastWinningChoice_15 I J (nI (chN T dy h h w0)) (some (-1 : Int32)) n y) (trP T dy h w0) (nrT T) (fun n => ?_) (fun n i hi => ?_) (nrT T) 0 3000 (by omega) (by omega) (fun y hy => absurd hy (Nat.not_lt_zero _))
  · obtain ⟨r, r1, r2⟩ := key
    refine ⟨r, r1, r2.ext hnr (fun x hx => ?_)⟩
    unfold trP at hx
    rw [Bool.and_eq_true] at hx
    exact (chN_bit hT hx.1).1
  · rw [l_X3_leastWinningChoice_15, hB.1.1, if_pos (nI_le (Nat.le_refl _) (by omega))]
  · rw [l_X3_leastWinningChoice_15, hB.1.1, if_neg (nI_ge hi (by omega)), zlt, x_hasBit (by omega) (by omega), zjp0, q01, nI_1]
    unfold trP
    cases hb : (chN T dy h h w0).testBit i
    · rfl
    · have ho : h ||| 2 ^ i < 256 := or_lt (by omega) (p2_lt8 (by omega))
      have hv : J 69 (8 * (h ||| 2 ^ i) + i) = lN (wnV T dy h (h ||| 2 ^ i) i) := flD_behind hT (dy := dy) (w := w0) (V := fun s w => lN (wnV T dy h s w)) (fun s' w' q => hf s' w' (by omega)) hh hsub hb
      have hw1 := wnV_le T dy h (h ||| 2 ^ i) i
      rw [if_pos rfl, hB.2.1, x_sb (by omega), zlt, zck (zin (show 8 * (h ||| 2 ^ i) + i < 2048 by omega) (by decide)), nI_clamp (by omega), hv, Bool.true_and]
      by_cases h0 : wnV T dy h (h ||| 2 ^ i) i = 0
      · rw [h0, if_pos (cmp0.mpr (show lN 0 = (0 : Int64) from rfl)), if_pos (by rfl)]
      · have : ¬ lg_cmp (lN (wnV T dy h (h ||| 2 ^ i) i)) 0 = 0 := fun q => h0 (lN_inj (b := 0) (by omega) (by decide) (cmp0.mp q))
        rw [if_neg this, if_neg (by simp [h0])]
theorem nowN_ch (T : TD) (D : DD) (b : Nat) : nowN T D b = chN T (dyD D) (haD D b) (haD D b) (hoD D b) := by
  unfold nowN chN
  rw [Nat.sub_self, Nat.add_zero]
theorem x8_tr43 {T : TD} {I : zk_I} {dy h w0 : Nat} {a2 : Int32} (hT : wfT T) (hh : h < 2 ^ nrT T) (hw0 : w0 < nrT T) (hl : ∀ x, (chN T dy h h w0).testBit x = true → atQ I (8 * (h ||| 2 ^ x) + x) (RV7 T dy h (h ||| 2 ^ x) x)) (K : Int32 → Option (Int32 × zk_I)) : ∃ r, l_X8_turns_43 I a2 (nI (8 * h + w0)) (nI (chN T dy h h w0)) K 3000 (-1) 7 = K r ∧ LST (trP T dy h w0) 8 r := by
  have hnr := hT.1
  have hpw := pow_le8 hnr
  have hc := chN_lt hT dy h h w0
  have hdiv : nI (8 * h + w0) / (8 : Int32) = nI h := by
    rw [xlit 8, pk_div (by omega) (by decide) (by decide)]
    congr 1
    omega
  refine dn_loop8 (fun n v y => l_X8_turns_43 I a2 (nI (8 * h + w0)) (nI (chN T dy h h w0)) K n v y) K (trP T dy h w0) (fun n v => ?_) (fun n v k hk => ?_)
  · rw [l_X8_turns_43, if_pos (show nI 0 - 1 < (0 : Int32) by decide)]
  · have e8 : ((8 : Int32) * (nI h ||| ((1 : Int32) <<< (nI k &&& 31)))) + nI k = nI (8 * (h ||| 2 ^ k) + k) := by
      rw [xlit 1, xlit 31, xb_shl1 k (by omega), xb_or, xlit 8, pk_mul, nI_add]
    have ho : h ||| 2 ^ k < 256 := or_lt (by omega) (p2_lt8 hk)
    rw [l_X8_turns_43, if_neg (nI_pos (by omega)), hdiv, e8]
    have hv : nI (if trP T dy h w0 k then 1 else 0) = nI (if trP T dy h w0 k then 1 else 0) := rfl
    refine (jp1_to (v := nI (if trP T dy h w0 k then 1 else 0)) (fun K' => ?_)).trans ?_
    · refine (zjp0 _ _).trans ?_
      rw [xlit 1, xlit 31, xb_bit (show chN T dy h h w0 < 2 ^ 31 by omega) (show k < 32 by omega)]
      unfold trP
      cases hb : (chN T dy h h w0).testBit k
      · rw [if_neg (by decide)]; rfl
      · have h7 := (hl k hb).2.2.2.2.2.2
        have h7 : I 91 (8 * (h ||| 2 ^ k) + k) = nI (wnV T dy h (h ||| 2 ^ k) k) := h7
        have hw1 := wnV_le T dy h (h ||| 2 ^ k) k
        rw [if_pos (by rfl), zck (zin (show 8 * (h ||| 2 ^ k) + k < 2048 by omega) (by decide)), nI_clamp (by omega), h7, Bool.true_and]
        by_cases h0 : wnV T dy h (h ||| 2 ^ k) k = 0
        · rw [h0, if_pos (show nI 0 = (0 : Int32) from rfl)]; rfl
        · rw [if_neg (nz0 (by omega) h0), if_neg (show ¬ decide (wnV T dy h (h ||| 2 ^ k) k = 0) = true by simp [h0])]
          rfl
    · refine (zlt _ _).trans ?_
      rw [q01]
theorem o_turns {S : ST} (hw : wfS S) (a a2 : Int32) : opF S (fun I J => f_X7_turns I J a a2) (fun I => f_X8_turns I a a2) := by
  have hnb : nbT (tdS S) ≤ 4 := hw.2.1.2.1
  have hnr : nrT (tdS S) ≤ 8 := hw.2.1.1
  have hpw := pow_le8 hnr
  unfold f_X7_turns f_X8_turns
  rcases arg_cases a (n := nbT (tdS S)) (by omega) with ha | ⟨j, hj, rfl⟩
  · refine opF.no (-2) (fun I J hI => ?_) (fun I hI => ?_)
    · rw [x_hasB0 hI.2.1 ha, zlt, if_pos rfl]
    · rw [x8_isB0 hw.2.1 hI.2.1 ha, zbd1, if_pos rfl]
  · rcases arg_cases a2 (n := 2) (by decide) with h2 | ⟨i, hi, rfl⟩
    · obtain ⟨n0, n1⟩ := bad01 h2
      refine opF.no (-3) (fun I J hI => ?_) (fun I hI => ?_)
      · rw [x_hasB1 hw.2.1 hI.2.1 hj, zlt, if_neg n10, zjp0, if_neg n0, if_neg n1]
      · rw [x8_isB1 hw.2.1 hI.2.1 hj, zbd1, if_neg n10, in01 h2, zlt, if_pos rfl]
    · obtain ⟨w1, w2, w3, -⟩ := hw.2.2.1.2 j hj
      have w1' : hoS S j < nrT (tdS S) := w1
      have w2' : haS S j < 2 ^ nrT (tdS S) := w2
      have hv1 := wnV_le (tdS S) (dyS S) (haS S j) (haS S j) (hoS S j)
      -- the class
      have cls : ∀ I J, invC S I → ∃ I1 J1 r, f_X3_foretell I J (nI j) 8 = some (lN (wnV (tdS S) (dyS S) (haS S j) (haS S j) (hoS S j)), I1, J1) ∧ (∀ c, ¬ (63 ≤ c ∧ c ≤ 66) → I1 c = I c) ∧ f_X3_leastWinningChoice I1 J1 = some r ∧ LST (trP (tdS S) (dyS S) (haS S j) (hoS S j)) 8 r := by
        intro I J hI
        obtain ⟨I1, J1, a1, a2, a3, a4, a5⟩ := x_foreS (J := J) (tb := 69) (V := fun s w => lN (wnV (tdS S) (dyS S) (haS S j) s w)) hw.2.1 hw.2.2.1 hI.2.1 hI.2.2.1 hj (by decide) (by decide) (Or.inr ⟨by decide, rfl⟩) (fun I1 b1 _ _ => ms_win hw.2.1 b1)
        obtain ⟨r, r1, r2⟩ := x_lwc hw.2.1 a2 w2 w1 a5
        exact ⟨I1, J1, r, a1, a3, r1, r2⟩
      have ref : ∀ I, invM S I → ∃ I1, f_X8_laysAll I (nI j) = some (nI (8 * haS S j + hoS S j), I1) ∧ (∀ c, ¬ (85 ≤ c ∧ c ≤ 91) → I1 c = I c) ∧ I1 91 (8 * haS S j + hoS S j) = nI (wnV (tdS S) (dyS S) (haS S j) (haS S j) (hoS S j)) ∧ f_X8_namedNow I1 (nI j) = some (nI (chN (tdS S) (dyS S) (haS S j) (haS S j) (hoS S j))) ∧ ∀ a2 (K : Int32 → Option (Int32 × zk_I)), ∃ r, l_X8_turns_43 I1 a2 (nI (8 * haS S j + hoS S j)) (nI (chN (tdS S) (dyS S) (haS S j) (haS S j) (hoS S j))) K 3000 (-1) 7 = K r ∧ LST (trP (tdS S) (dyS S) (haS S j) (hoS S j)) 8 r := by
        intro I hI
        obtain ⟨I1, a1, a2, a3⟩ := x8_laysAll hw.2.1 hw.2.2.1 hI.2.1 hI.2.2.1 hj
        have hI1 : invM S I1 := hI.fr (rel85 a2).1
        have hst := isSt_0 hw.2.2.1 hj
        refine ⟨I1, a1, a2, (a3 _ _ w2 w1 hst).2.2.2.2.2.2, ?_, fun a2 K => x8_tr43 hw.2.1 w2 w1 (fun x hx => ?_) K⟩
        · rw [← nowN_ch]
          exact x8_now hw.2.1 hw.2.2.1 hI1.2.1 hI1.2.2.1 hj
        · obtain ⟨h1, h2⟩ := chN_bit hw.2.1 hx
          exact a3 _ _ (Nat.or_lt_two_pow w2 (Nat.pow_lt_pow_right (by decide) h1)) h1 (isSt_next hw.2.1 hst hx)
      have hp : 8 * haS S j + hoS S j < 2048 := by omega
      have hi01 : i = 0 ∨ i = 1 := by omega
      rcases hi01 with rfl | rfl
      · refine ⟨nI (wnV (tdS S) (dyS S) (haS S j) (haS S j) (hoS S j)), fun I J hI => ?_, fun I hI => ?_⟩
        · obtain ⟨I1, J1, r, a1, a2, a3, a4⟩ := cls I J hI
          refine ⟨I1, J1, ?_, hI.fr (rel63 a2).1, (rel63 a2).2⟩
          dsimp only
          rw [x_hasB1 hw.2.1 hI.2.1 hj, zlt, if_neg n10, zjp0, if_pos (show nI 0 = (0 : Int32) from rfl), a1, zbd3, if_pos (show nI 0 = (0 : Int32) from rfl), lN_i]
        · obtain ⟨I1, a1, a2, a3, a4, a5⟩ := ref I hI
          refine ⟨I1, ?_, hI.fr (rel85 a2).1, (rel85 a2).2⟩
          dsimp only
          obtain ⟨r, r1, r2⟩ := a5 (nI 0) (fun (z22 : Int32) => (if (nI 0) = (1 : Int32) then (some (z22, I1)) else (zk_ck (zk_in (nI (8 * haS S j + hoS S j)) 2048) ((if (I1 91 (nI (8 * haS S j + hoS S j)).toNatClampNeg) = 0 then (some ((0 : Int32), I1)) else (some ((1 : Int32), I1)))))))
          rw [x8_isB1 hw.2.1 hI.2.1 hj, zbd1, if_neg n10, in01' 0 (by decide), zlt, if_neg n10, a1, zbd2, a4, zbd1]
          refine r1.trans ?_
          rw [if_neg (show ¬ nI 0 = (1 : Int32) by decide), zck (zin hp (by decide)), nI_clamp (by omega), a3]
          have : wnV (tdS S) (dyS S) (haS S j) (haS S j) (hoS S j) = 0 ∨ wnV (tdS S) (dyS S) (haS S j) (haS S j) (hoS S j) = 1 := by omega
          rcases this with h | h <;> rw [h] <;> rfl
      · have m10 : ¬ nI 1 = (0 : Int32) := by decide
        obtain ⟨r, hr⟩ := LST_ex (trP (tdS S) (dyS S) (haS S j) (hoS S j)) 8
        refine ⟨r, fun I J hI => ?_, fun I hI => ?_⟩
        · obtain ⟨I1, J1, r', a1, a2, a3, a4⟩ := cls I J hI
          refine ⟨I1, J1, ?_, hI.fr (rel63 a2).1, (rel63 a2).2⟩
          dsimp only
          rw [x_hasB1 hw.2.1 hI.2.1 hj, zlt, if_neg n10, zjp0, if_neg m10, if_pos (show nI 1 = (1 : Int32) from rfl), a1, zbd3, if_neg m10, a3, zbd1, a4.uniq hr]
        · obtain ⟨I1, a1, a2, a3, a4, a5⟩ := ref I hI
          refine ⟨I1, ?_, hI.fr (rel85 a2).1, (rel85 a2).2⟩
          dsimp only
          obtain ⟨r', r1, r2⟩ := a5 (nI 1) (fun (z22 : Int32) => (if (nI 1) = (1 : Int32) then (some (z22, I1)) else (zk_ck (zk_in (nI (8 * haS S j + hoS S j)) 2048) ((if (I1 91 (nI (8 * haS S j + hoS S j)).toNatClampNeg) = 0 then (some ((0 : Int32), I1)) else (some ((1 : Int32), I1)))))))
          rw [x8_isB1 hw.2.1 hI.2.1 hj, zbd1, if_neg n10, in01' 1 (by decide), zlt, if_neg n10, a1, zbd2, a4, zbd1]
          refine r1.trans ?_
          rw [if_pos (show nI 1 = (1 : Int32) from rfl), r2.uniq hr]

/-! the fewest forged ones -/
def okN (T : TD) (A B : Nat → Nat) (k : Nat) : Bool := (mayT T (A k) 0).testBit (B k)
def mgN (T : TD) (A B : Nat → Nat) (sz : Nat) : Nat := mk (fun k => !okN T A B k) sz
theorem x_forb {T : TD} {I : zk_I} {sz : Nat} {A B : Nat → Nat} (hT : wfT T) (hr : repC T I 3) (hsz : sz ≤ 8) (h72 : I 72 0 = nI sz) (hA : ∀ k, k < sz → A k < nrT T ∧ I 73 k = nI (A k)) (hB : ∀ k, k < sz → B k < nrT T ∧ I 74 k = nI (B k)) : f_X4_forbidden I = some (nI (mgN T A B sz)) := by
  have hnr := hT.1
  unfold f_X4_forbidden
  have key := zl_up (fun n i (s : Int32) => l_X4_forbidden_4 I (fun z12 => some z12) n s (nI i)) (fun s => some s) (fun i => nI (mgN T A B i)) sz (fun n => ?_) (fun n i hi => ?_) 3000 0 (by omega) (by omega)
  · exact key
  · rw [l_X4_forbidden_4, h72, if_pos (nI_le (Nat.le_refl _) (by omega))]
  · obtain ⟨a1, a2⟩ := hA i hi
    obtain ⟨b1, b2⟩ := hB i hi
    have hm := mayT_lt hT (A i) 0
    rw [l_X4_forbidden_4, h72, if_neg (nI_ge hi (by omega)), zck (zin (show i < 8 by omega) (by decide)), nI_clamp (show i < 2 ^ 31 by omega), a2, show (0 : Int32) = nI 0 from rfl, x_namable hT hr a1 (by decide), zbd1, zck (zin (show i < 8 by omega) (by decide)), b2, x_hasBit (by omega) (by omega), zlt, zjp1, show nI 0 = (0 : Int32) from rfl, q01, nI_1]
    have est : mgN T A B (i + 1) = mgN T A B i ||| (if !okN T A B i then 2 ^ i else 0) := rfl
    rw [est]
    unfold okN
    cases (mayT T (A i) 0).testBit (B i)
    · rw [if_neg (by decide), zlt, sh1 (show i < 8 by omega), xb_or]
      rfl
    · rw [if_pos rfl]
      rw [if_neg (show ¬ (!true) = true by decide), Nat.or_zero]
theorem and_sub {s m : Nat} : s &&& m = m ↔ ∀ i, m.testBit i = true → s.testBit i = true := by
  constructor
  · exact fun h i hi => sub_bit h i hi
  · intro h
    apply Nat.eq_of_testBit_eq
    intro i
    rw [Nat.testBit_and]
    cases hm : m.testBit i
    · rw [Bool.and_false]
    · rw [h i hm]; rfl
theorem fit_ok {T : TD} {A B : Nat → Nat} {sz set : Nat} : (decide (set &&& mgN T A B sz = mgN T A B sz) && fitB (fun _ => true) A B sz set) = fitB (okN T A B) A B sz set := by
  by_cases h : set &&& mgN T A B sz = mgN T A B sz
  · rw [decide_eq_true h, Bool.true_and]
    unfold fitB
    rw [scn_congr (ok := okN T A B) (ok' := fun _ => true)]
    intro k hk hb
    cases ho : okN T A B k
    · have : (mgN T A B sz).testBit k = true := by
        unfold mgN
        rw [mk_bit, ho]
        simp [hk]
      rw [and_sub.mp h k this] at hb
      cases hb
    · rfl
  · rw [decide_eq_false h, Bool.false_and]
    have : ∃ k, (mgN T A B sz).testBit k = true ∧ set.testBit k = false := by
      apply Classical.byContradiction
      intro hn
      apply h
      rw [and_sub]
      intro i hi
      cases hb : set.testBit i
      · exact absurd ⟨i, hi, hb⟩ hn
      · rfl
    obtain ⟨k, k1, k2⟩ := this
    unfold mgN at k1
    rw [mk_bit, Bool.and_eq_true, decide_eq_true_eq] at k1
    have ho : okN T A B k = false := by
      cases hq : okN T A B k
      · rfl
      · rw [hq] at k1; exact absurd k1.2 (by decide)
    unfold fitB
    rw [scn_bad k1.1 k2 ho]
def BST (P : Nat → Bool) (al r : Nat) : Prop := r ≤ al ∧ (P r = true ∨ r = al) ∧ ∀ s, s ≤ al → (P s = true ∨ s = al) → pc r < pc s ∨ (pc r = pc s ∧ r ≤ s)
theorem sh1' {x : Nat} (hx : x ≤ 8) : (1 : Int32) <<< (nI x &&& 31) = nI (2 ^ x) := by rw [xlit 1, xlit 31, xb_shl1 x (by omega)]
theorem BST.uniq {P : Nat → Bool} {al r r' : Nat} (h : BST P al r) (g : BST P al r') : r = r' := by
  have h1 := h.2.2 r' g.1 g.2.1
  have h2 := g.2.2 r h.1 h.2.1
  omega
theorem pc_top : ∀ k, k < 9 → ∀ i, i < 2 ^ k → pc (2 ^ k - 1) ≤ pc i → i = 2 ^ k - 1 := by decide +kernel
theorem x_fs18 {T : TD} {I : zk_I} {sz : Nat} {A B : Nat → Nat} (hT : wfT T) (hsz : sz ≤ 8) (h72 : I 72 0 = nI sz) (hA : ∀ k, k < sz → A k < nrT T ∧ I 73 k = nI (A k)) (hB : ∀ k, k < sz → B k < nrT T ∧ I 74 k = nI (B k)) (K : Int32 → zk_I → Option (Int32 × zk_I)) : ∀ m i n best (I' : zk_I), i + m = 2 ^ sz → m < n → (∀ c, c ≠ 75 → I' c = I c) → best < 2 ^ sz → (fitB (okN T A B) A B sz best = true ∨ best = 2 ^ sz - 1) → (best = 2 ^ sz - 1 ∨ best < i) → (∀ s, s ≤ 2 ^ sz - 1 → (s < i ∨ s = 2 ^ sz - 1) → (fitB (okN T A B) A B sz s = true ∨ s = 2 ^ sz - 1) → pc best < pc s ∨ (pc best = pc s ∧ best ≤ s)) → ∃ r I1, l_X4_forgedSet_18 (nI (mgN T A B sz)) K n (nI best) (nI i) I' = K (nI r) I1 ∧ (∀ c, c ≠ 75 → I1 c = I c) ∧ BST (fitB (okN T A B) A B sz) (2 ^ sz - 1) r := by
  have hnr := hT.1
  have hpw := pow_le8 hsz
  have hmg : mgN T A B sz < 256 := mk_lt8 _ hsz
  intro m
  induction m with
  | zero =>
    intro i n best I' hi hn ho hb1 hb2 hb3 hb4
    obtain ⟨n, rfl⟩ : ∃ k, n = k + 1 := ⟨n - 1, by omega⟩
    refine ⟨best, I', ?_, ho, by omega, hb2, fun s hs hP => hb4 s hs (by omega) hP⟩
    rw [l_X4_forgedSet_18, ho 72 (by decide), h72, sh1' hsz, if_pos (nI_le (by omega) (by omega))]
  | succ m ih =>
    intro i n best I' hi hn ho hb1 hb2 hb3 hb4
    obtain ⟨n, rfl⟩ : ∃ k, n = k + 1 := ⟨n - 1, by omega⟩
    have hi8 : i < 256 := by omega
    have hpi := pc_le i
    have hpb := pc_le best
    rw [l_X4_forgedSet_18, ho 72 (by decide), h72, sh1' hsz, if_neg (nI_ge (by omega) (by omega)), zlt, pc_bits i hi8, zlt, pc_bits best (by omega), zlt, zjp2, nI_1]
    -- no change
    have keep : ∀ (I2 : zk_I), (∀ c, c ≠ 75 → I2 c = I c) → (fitB (okN T A B) A B sz i = true → pc best ≤ pc i) → ∃ r I1, l_X4_forgedSet_18 (nI (mgN T A B sz)) K n (nI best) (nI (i + 1)) I2 = K (nI r) I1 ∧ (∀ c, c ≠ 75 → I1 c = I c) ∧ BST (fitB (okN T A B) A B sz) (2 ^ sz - 1) r := by
      intro I2 hI2 hle
      refine ih (i + 1) n best I2 (by omega) (by omega) hI2 hb1 hb2 (by omega) (fun s h1 h2 h3 => ?_)
      by_cases he : s = i
      · subst he
        by_cases htop : s = 2 ^ sz - 1
        · exact hb4 s h1 (Or.inr htop) h3
        · rcases h3 with h3 | h3
          · have := hle h3
            rcases hb3 with hb3 | hb3
            · rw [hb3] at this
              have := pc_top sz (by omega) s (by omega) this
              omega
            · omega
          · exact absurd h3 htop
      · exact hb4 s h1 (by omega) h3
    by_cases hlt : pc i < pc best
    · rw [if_neg (nI_ge hlt (by omega)), if_neg n10]
      rw [xb_and]
      by_cases hsub : i &&& mgN T A B sz = mgN T A B sz
      · obtain ⟨I2, f1, f2⟩ := x_fit (I := I') (sz := sz) (set := i) (A := A) (B := B) hsz (by rw [ho 72 (by decide)]; exact h72) (fun k hk => ⟨by have := (hA k hk).1; omega, by rw [ho 73 (by decide)]; exact (hA k hk).2⟩) (fun k hk => ⟨by have := (hB k hk).1; omega, by rw [ho 74 (by decide)]; exact (hB k hk).2⟩) hi8
        have hfit := fit_ok (T := T) (A := A) (B := B) (sz := sz) (set := i)
        rw [decide_eq_true hsub, Bool.true_and] at hfit
        rw [if_pos (by rw [hsub]), f1, zbd2, q01, hfit]
        have hI2 : ∀ c, c ≠ 75 → I2 c = I c := fun c hc => (f2 c hc).trans (ho c hc)
        cases hP : fitB (okN T A B) A B sz i
        · rw [if_neg (by decide)]
          exact keep I2 hI2 (fun q => by rw [hP] at q; cases q)
        · rw [if_pos rfl]
          refine ih (i + 1) n i I2 (by omega) (by omega) hI2 (by omega) (Or.inl hP) (Or.inr (by omega)) (fun s h1 h2 h3 => ?_)
          by_cases he : s = i
          · subst he; exact Or.inr ⟨rfl, Nat.le_refl _⟩
          · have := hb4 s h1 (by omega) h3
            omega
      · have hne : ¬ nI (i &&& mgN T A B sz) = nI (mgN T A B sz) := fun q => hsub (xl_inj (by have := and_lt (b := mgN T A B sz) hi8; omega) (by omega) q)
        rw [if_neg hne]
        refine keep I' ho (fun q => ?_)
        have hfit := fit_ok (T := T) (A := A) (B := B) (sz := sz) (set := i)
        rw [decide_eq_false hsub, Bool.false_and, q] at hfit
        cases hfit
    · rw [if_pos (nI_le (by omega) (by omega)), if_pos rfl]
      exact keep I' ho (fun _ => by omega)
theorem x_forgedSet {T : TD} {I : zk_I} {sz : Nat} {A B : Nat → Nat} (hT : wfT T) (hr : repC T I 3) (hsz : sz ≤ 8) (h72 : I 72 0 = nI sz) (hA : ∀ k, k < sz → A k < nrT T ∧ I 73 k = nI (A k)) (hB : ∀ k, k < sz → B k < nrT T ∧ I 74 k = nI (B k)) : ∃ r I1, f_X4_forgedSet I = some (nI r, I1) ∧ (∀ c, c ≠ 75 → I1 c = I c) ∧ BST (fitB (okN T A B) A B sz) (2 ^ sz - 1) r := by
  have h1 : 1 ≤ 2 ^ sz := Nat.one_le_two_pow
  have hpw := pow_le8 hsz
  obtain ⟨r, I1, a1, a2, a3⟩ := x_fs18 hT hsz h72 hA hB (fun (z21 : Int32) (I22 : zk_I) => some (z21, I22)) (2 ^ sz) 0 3000 (2 ^ sz - 1) I (by omega) (by omega) (fun _ _ => rfl) (by omega) (Or.inr rfl) (Or.inl rfl) (fun s q1 q2 q3 => by
    have : s = 2 ^ sz - 1 := by omega
    subst this
    exact Or.inr ⟨rfl, Nat.le_refl _⟩)
  refine ⟨r, I1, ?_, a2, a3⟩
  unfold f_X4_forgedSet
  rw [x_forb hT hr hsz h72 hA hB, zbd1, h72, sh1' hsz, xlit 1, nI_sub h1, zlt]
  exact a1
theorem x8_fo13 {T : TD} {I : zk_I} {sz : Nat} {A B : Nat → Nat} (hT : wfT T) (hr : repM T I 78) (hsz : sz ≤ 8) (h76 : I 76 10 = nI sz) (hA : ∀ k, k < sz → A k < nrT T) (hB : ∀ k, k < sz → B k < nrT T) (h84 : ∀ k, k < sz → I 84 k = nI (8 * A k + B k)) (K : Int32 → zk_I → Option (Int32 × zk_I)) : ∀ i n found (I' : zk_I), i ≤ 2 ^ sz → i < n → (∀ c, c ≠ 93 → I' c = I c) → found < 2 ^ sz → (fitB (okN T A B) A B sz found = true ∨ found = 2 ^ sz - 1) → (∀ s, s ≤ 2 ^ sz - 1 → (i ≤ s ∨ s = 2 ^ sz - 1) → (fitB (okN T A B) A B sz s = true ∨ s = 2 ^ sz - 1) → pc found < pc s ∨ (pc found = pc s ∧ found ≤ s)) → ∃ r I1, l_X8_forgedOnes_13 (nI (2 ^ sz - 1)) K n (nI found) (nI i - 1) I' = K (nI r) I1 ∧ (∀ c, c ≠ 93 → I1 c = I c) ∧ BST (fitB (okN T A B) A B sz) (2 ^ sz - 1) r := by
  have hnr := hT.1
  have hpw := pow_le8 hsz
  intro i
  induction i with
  | zero =>
    intro n found I' hi hn ho hb1 hb2 hb4
    obtain ⟨n, rfl⟩ : ∃ k, n = k + 1 := ⟨n - 1, by omega⟩
    refine ⟨found, I', ?_, ho, by omega, hb2, fun s hs hP => hb4 s hs (by omega) hP⟩
    rw [l_X8_forgedOnes_13, if_pos (show nI 0 - 1 < (0 : Int32) by decide)]
  | succ i ih =>
    intro n found I' hi hn ho hb1 hb2 hb4
    obtain ⟨n, rfl⟩ : ∃ k, n = k + 1 := ⟨n - 1, by omega⟩
    have hi8 : i < 256 := by omega
    have hpi := pc_le i
    have hpb := pc_le found
    have e1 : nI (2 ^ sz - 1) &&& (nI i ^^^ (-1 : Int32)) = nI (dif (2 ^ sz - 1) i) := xb_dif (show 2 ^ sz - 1 < 256 by omega)
    obtain ⟨I2, f1, f2⟩ := x8_canBe (T := T) (I := I') (sz := sz) (set := i) (al := dif (2 ^ sz - 1) i) (A := A) (B := B) hT (hr.fr (ho 78 (by decide))) hsz (by rw [ho 76 (by decide)]; exact h76) hA hB (fun k hk => by rw [ho 84 (by decide)]; exact h84 k hk) (dif_lt (show 2 ^ sz - 1 < 256 by omega)) (fun k hk => by
      rw [dif_bit (show 2 ^ sz - 1 < 256 by omega), Nat.testBit_two_pow_sub_one, decide_eq_true hk, Bool.true_and])
    have hI2 : ∀ c, c ≠ 93 → I2 c = I c := fun c hc => (f2 c hc).trans (ho c hc)
    have f1' : f_X8_canBe I' (nI (dif (2 ^ sz - 1) i)) = some (nI (if fitB (okN T A B) A B sz i then 1 else 0), I2) := f1
    rw [nI_sm1, l_X8_forgedOnes_13, if_neg (nI_pos (by omega)), e1, f1', zbd2]
    refine Exists.imp (fun r => Exists.imp (fun I1 => And.imp_left (fun q => Eq.trans (jp1_to (v := nI (if fitB (okN T A B) A B sz i && decide (pc i ≤ pc found) then 1 else 0)) (fun K' => ?_)) q))) ?_
    · refine (zjp0 _ _).trans ?_
      rw [q01]
      cases hP : fitB (okN T A B) A B sz i
      · rfl
      · rw [if_pos rfl, pc_ones i hi8, zbd1, pc_ones found (by omega), zbd1, Bool.true_and]
        by_cases hle : pc i ≤ pc found
        · rw [if_neg (nI_nlt hle (by omega)), decide_eq_true hle]; rfl
        · rw [if_pos (nI_lt (by omega) (by omega)), decide_eq_false hle]; rfl
    · rw [zlt, q01, m1_add]
      by_cases hc : (fitB (okN T A B) A B sz i && decide (pc i ≤ pc found)) = true
      · rw [if_pos hc]
        rw [Bool.and_eq_true, decide_eq_true_eq] at hc
        refine ih n i I2 (by omega) (by omega) hI2 (by omega) (Or.inl hc.1) (fun s h1 h2 h3 => ?_)
        by_cases he : s = i
        · subst he; exact Or.inr ⟨rfl, Nat.le_refl _⟩
        · have := hb4 s h1 (by omega) h3
          omega
      · rw [if_neg hc]
        refine ih n found I2 (by omega) (by omega) hI2 hb1 hb2 (fun s h1 h2 h3 => ?_)
        by_cases he : s = i
        · subst he
          by_cases htop : s = 2 ^ sz - 1
          · exact hb4 s h1 (Or.inr htop) h3
          · rcases h3 with h3 | h3
            · have : ¬ pc s ≤ pc found := fun q => hc (by rw [h3, decide_eq_true q]; rfl)
              omega
            · exact absurd h3 htop
        · exact hb4 s h1 (by omega) h3
theorem x8_forgedOnes {T : TD} {I : zk_I} {sz : Nat} {A B : Nat → Nat} (hT : wfT T) (hr : repM T I 78) (hsz : sz ≤ 8) (h76 : I 76 10 = nI sz) (hA : ∀ k, k < sz → A k < nrT T) (hB : ∀ k, k < sz → B k < nrT T) (h84 : ∀ k, k < sz → I 84 k = nI (8 * A k + B k)) : ∃ r I1, f_X8_forgedOnes I = some (nI r, I1) ∧ (∀ c, c ≠ 93 → I1 c = I c) ∧ BST (fitB (okN T A B) A B sz) (2 ^ sz - 1) r := by
  have h1 : 1 ≤ 2 ^ sz := Nat.one_le_two_pow
  have hpw := pow_le8 hsz
  obtain ⟨r, I1, a1, a2, a3⟩ := x8_fo13 hT hr hsz h76 hA hB h84 (fun (z21 : Int32) (I22 : zk_I) => some (z21, I22)) (2 ^ sz) 3000 (2 ^ sz - 1) I (by omega) (by omega) (fun _ _ => rfl) (by omega) (Or.inr rfl) (fun s q1 q2 q3 => by
    have : s = 2 ^ sz - 1 := by omega
    subst this
    exact Or.inr ⟨rfl, Nat.le_refl _⟩)
  refine ⟨r, I1, ?_, a2, a3⟩
  unfold f_X8_forgedOnes
  have e : nI (2 ^ sz) - (1 : Int32) = nI (2 ^ sz - 1) := by rw [xlit 1, nI_sub h1]
  rw [h76, sh1' hsz, zlt]
  rw [e] at a1 ⊢
  exact a1

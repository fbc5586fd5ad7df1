/-! what a state's row of cells holds -/
abbrev Q7 : Type := Nat × Nat × Nat × Nat × Nat × Nat × Nat
def q7 (N : Q7) (rk x : Nat) (q : Q7) : Q7 := (if q.1 < N.1 + 1 then N.1 + 1 else q.1, if q.1 < N.1 + 1 then N.2.1 else if N.1 + 1 = q.1 then q.2.1 + N.2.1 else q.2.1, if q.1 < N.1 + 1 then N.2.2.1 ||| 2 ^ x else if N.1 + 1 = q.1 then q.2.2.1 &&& (N.2.2.1 ||| 2 ^ x) else q.2.2.1, if N.2.2.2.1 + 1 < q.2.2.2.1 then N.2.2.2.1 + 1 else q.2.2.2.1, q.2.2.2.2.1 ||| (N.2.2.2.2.1 ||| 2 ^ x), if q.2.2.2.2.2.1 < N.2.2.2.2.2.1 + rk then N.2.2.2.2.2.1 + rk else q.2.2.2.2.2.1, if q.2.2.2.2.2.2 < 1 - N.2.2.2.2.2.2 then 1 - N.2.2.2.2.2.2 else q.2.2.2.2.2.2)
def lyQ (I : zk_I) (p : Nat) (q : Q7) : zk_I := lyI I p q.1 q.2.1 q.2.2.1 q.2.2.2.1 q.2.2.2.2.1 q.2.2.2.2.2.1 q.2.2.2.2.2.2
def atQ (I : zk_I) (p : Nat) (q : Q7) : Prop := I 85 p = nI q.1 ∧ I 86 p = nI q.2.1 ∧ I 87 p = nI q.2.2.1 ∧ I 88 p = nI q.2.2.2.1 ∧ I 89 p = nI q.2.2.2.2.1 ∧ I 90 p = nI q.2.2.2.2.2.1 ∧ I 91 p = nI q.2.2.2.2.2.2
def bdQ (q : Q7) : Prop := q.1 ≤ 10 ∧ q.2.2.2.1 ≤ 99 ∧ q.2.2.2.2.2.1 ≤ 100 ∧ q.2.2.2.2.2.2 ≤ 1
theorem lyQ_at (I : zk_I) (p : Nat) (q : Q7) : atQ (lyQ I p q) p q := ⟨ly_85 _ _ _ _ _ _ _ _ _, ly_86 _ _ _ _ _ _ _ _ _, ly_87 _ _ _ _ _ _ _ _ _, ly_88 _ _ _ _ _ _ _ _ _, ly_89 _ _ _ _ _ _ _ _ _, ly_90 _ _ _ _ _ _ _ _ _, ly_91 _ _ _ _ _ _ _ _ _⟩
theorem lyQ_n (I : zk_I) {p j : Nat} (q : Q7) (c : Nat) (h : j ≠ p) : lyQ I p q c j = I c j := ly_n _ _ _ _ _ _ _ _ _ h
theorem lyQ_c (I : zk_I) (p : Nat) (q : Q7) {c : Nat} (h : ¬ (85 ≤ c ∧ c ≤ 91)) : lyQ I p q c = I c := ly_c _ _ _ _ _ _ _ _ _ h
theorem atQ.fr {I I1 : zk_I} {p : Nat} {q : Q7} (h : atQ I p q) (e : ∀ c, I1 c p = I c p) : atQ I1 p q := by
  unfold atQ at h ⊢
  rw [e, e, e, e, e, e, e]
  exact h
def q7F (c : Nat) (N : Nat → Q7) (rk : Nat → Nat) (b : Q7) (n : Nat) : Q7 := foR (fun x q => if c.testBit x then q7 (N x) (rk x) x q else q) b n
theorem q7F_bd {c : Nat} {N : Nat → Q7} {rk : Nat → Nat} {b : Q7} (hN : ∀ x, (N x).1 ≤ 9 ∧ (N x).2.2.2.1 ≤ 9 ∧ (N x).2.2.2.2.2.1 ≤ 90 ∧ (N x).2.2.2.2.2.2 ≤ 1) (hk : ∀ x, c.testBit x = true → rk x ≤ 9) (hb : bdQ b) (n : Nat) : bdQ (q7F c N rk b n) := by
  unfold q7F
  refine foR_inv hb n (fun i a hi ha => ?_)
  show bdQ (if _ then _ else _)
  by_cases hc : c.testBit i = true
  · rw [if_pos hc]
    obtain ⟨a1, a2, a3, a4⟩ := ha
    obtain ⟨n1, n2, n3, n4⟩ := hN i
    have := hk i hc
    refine ⟨?_, ?_, ?_, ?_⟩
    · simp only [q7]
      split <;> omega
    · simp only [q7]
      split <;> omega
    · simp only [q7]
      split <;> omega
    · simp only [q7]
      split <;> omega
  · rw [if_neg hc]; exact ha
theorem x8_l95 {I : zk_I} {p s may : Nat} {N : Nat → Q7} {rk : Nat → Nat} {b : Q7} (hs : s < 256) (hp : p < 2048) (hm : may < 256) (hlt : ∀ x, may.testBit x = true → 8 * (s ||| 2 ^ x) + x ≠ p ∧ atQ I (8 * (s ||| 2 ^ x) + x) (N x) ∧ I 78 (10 + x) = nI (rk x)) (hN : ∀ x, (N x).1 ≤ 9 ∧ (N x).2.2.2.1 ≤ 9 ∧ (N x).2.2.2.2.2.1 ≤ 90 ∧ (N x).2.2.2.2.2.2 ≤ 1) (hk : ∀ x, may.testBit x = true → rk x ≤ 9) (hb : bdQ b) (K : zk_I → Option zk_I) : l_X8_lays_95 (nI s) (nI p) (nI may) K 3000 0 (lyQ I p b) = K (lyQ I p (q7F may N rk b 8)) := by
  have key := zl_up (fun n i (q : Q7) => l_X8_lays_95 (nI s) (nI p) (nI may) K n (nI i) (lyQ I p q)) (fun q => K (lyQ I p q)) (fun i => q7F may N rk b i) 8 (fun n => ?_) (fun n i hi => ?_) 3000 0 (by omega) (by omega)
  · exact key
  · show l_X8_lays_95 (nI s) (nI p) (nI may) K (n + 1) (nI 8) (lyQ I p (q7F may N rk b 8)) = _
    rw [l_X8_lays_95, if_pos (show (8 : Int32) ≤ nI 8 by decide)]
  · show l_X8_lays_95 (nI s) (nI p) (nI may) K (n + 1) (nI i) (lyQ I p (q7F may N rk b i)) = l_X8_lays_95 (nI s) (nI p) (nI may) K n (nI (i + 1)) (lyQ I p (q7F may N rk b (i + 1)))
    cases hbit : may.testBit i
    · have e : q7F may N rk b (i + 1) = q7F may N rk b i := by
        unfold q7F
        rw [foR, hbit, if_neg (by decide)]
      have hb0 : ¬ ((nI may >>> (nI i &&& 31)) &&& (1 : Int32)) = (1 : Int32) := by
        rw [xlit 1, xlit 31, xb_bit (show may < 2 ^ 31 by omega) (show i < 32 by omega), hbit]
        decide
      rw [e, l_X8_lays_95, if_neg (show ¬ (8 : Int32) ≤ nI i from nI_ge (b := 8) hi (by decide)), zjp1, if_neg hb0, nI_1]
    · have e : q7F may N rk b (i + 1) = q7 (N i) (rk i) i (q7F may N rk b i) := by
        unfold q7F
        rw [foR, hbit, if_pos rfl]
      obtain ⟨h1, ⟨c1, c2, c3, c4, c5, c6, c7⟩, h3⟩ := hlt i hbit
      obtain ⟨n1, n2, n3, n4⟩ := hN i
      obtain ⟨a1, a2, a3, a4⟩ := q7F_bd (b := b) hN hk hb i
      have hr := hk i hbit
      have ho : s ||| 2 ^ i < 256 := or_lt hs (p2_lt8 hi)
      rw [e]
      exact x8_lstep (I := I) K hi hp (show 8 * (s ||| 2 ^ i) + i < 2048 by omega) h1 rfl hm hbit c1 c2 c3 c4 c5 c6 c7 h3 (by omega) (by omega) (by omega) (by omega) (by omega) (by omega) a4 n4
/-! each cell for itself -/
theorem foR_proj {β γ : Type} {f : Nat → β → β} {g : Nat → γ → γ} {π : β → γ} {b : β} (h : ∀ x q, π (f x q) = g x (π q)) : ∀ n, π (foR f b n) = foR g (π b) n
  | 0 => rfl
  | n + 1 => by rw [foR, foR, h, foR_proj h n]
/-- the greatest, and what is joined over those that have it -/
def mx2 (c : Nat) (g th : Nat → Nat) (jn : Nat → Nat → Nat) (b : Nat) (n : Nat) : Nat × Nat := foR (fun x (q : Nat × Nat) => if c.testBit x then (if q.1 < g x + 1 then g x + 1 else q.1, if q.1 < g x + 1 then th x else if g x + 1 = q.1 then jn q.2 (th x) else q.2) else q) (0, b) n
def seN (c : Nat) (g : Nat → Nat) (m : Nat) : Nat := mk (fun x => c.testBit x && decide (g x + 1 = m)) 8
theorem seN_bit {c : Nat} {g : Nat → Nat} {m x : Nat} (hx : x < 8) : (seN c g m).testBit x = (c.testBit x && decide (g x + 1 = m)) := by
  unfold seN
  rw [mk_bit]
  simp [hx]
theorem jF_none {c : Nat} {th : Nat → Nat} {jn : Nat → Nat → Nat} : ∀ n, (∀ x, x < n → c.testBit x = false) → jF c th jn n = none
  | 0, _ => rfl
  | n + 1, h => by
    rw [jF_step, h n (by omega), if_neg (by decide), jF_none n (fun x hx => h x (by omega))]
theorem mx2_ok (c : Nat) (g th : Nat → Nat) (jn : Nat → Nat → Nat) (b : Nat) : ∀ n, n ≤ 8 → (∀ x, x < n → c.testBit x = true → g x + 1 ≤ (mx2 c g th jn b n).1) ∧ (((mx2 c g th jn b n).1 = 0 ∧ (mx2 c g th jn b n).2 = b) ∨ jF (seN c g (mx2 c g th jn b n).1) th jn n = some (mx2 c g th jn b n).2)
  | 0, _ => ⟨fun x hx => absurd hx (Nat.not_lt_zero _), Or.inl ⟨rfl, rfl⟩⟩
  | n + 1, hn => by
    obtain ⟨i1, i2⟩ := mx2_ok c g th jn b n (by omega)
    have hst : mx2 c g th jn b (n + 1) = if c.testBit n then (if (mx2 c g th jn b n).1 < g n + 1 then g n + 1 else (mx2 c g th jn b n).1, if (mx2 c g th jn b n).1 < g n + 1 then th n else if g n + 1 = (mx2 c g th jn b n).1 then jn (mx2 c g th jn b n).2 (th n) else (mx2 c g th jn b n).2) else mx2 c g th jn b n := rfl
    rw [hst]
    generalize mx2 c g th jn b n = q at i1 i2
    cases hb : c.testBit n
    · rw [if_neg (by decide)]
      refine ⟨fun x hx hbx => ?_, ?_⟩
      · by_cases he : x = n
        · subst he; rw [hb] at hbx; cases hbx
        · exact i1 x (by omega) hbx
      · rcases i2 with i2 | i2
        · exact Or.inl i2
        · refine Or.inr ?_
          rw [jF_step, seN_bit (by omega), hb, Bool.false_and, if_neg (by decide)]
          exact i2
    · rw [if_pos rfl]
      dsimp only
      rcases Nat.lt_trichotomy q.1 (g n + 1) with hc | hc | hc
      · rw [if_pos hc, if_pos hc]
        refine ⟨fun x hx hbx => ?_, Or.inr ?_⟩
        · by_cases he : x = n
          · subst he; omega
          · have := i1 x (by omega) hbx; omega
        · rw [jF_step, seN_bit (by omega), hb, Bool.true_and, if_pos (by simp), jF_none n (fun x hx => ?_)]
          rw [seN_bit (by omega)]
          cases hbx : c.testBit x
          · rfl
          · have := i1 x hx hbx
            have : ¬ g x = g n := by omega
            simp [this]
      · rw [if_neg (show ¬ q.1 < g n + 1 by omega), if_neg (show ¬ q.1 < g n + 1 by omega), if_pos hc.symm]
        refine ⟨fun x hx hbx => ?_, Or.inr ?_⟩
        · by_cases he : x = n
          · subst he; omega
          · exact i1 x (by omega) hbx
        · rcases i2 with i2 | i2
          · omega
          · rw [jF_step, seN_bit (by omega), hb, Bool.true_and, if_pos (by simp [hc]), i2]
      · rw [if_neg (show ¬ q.1 < g n + 1 by omega), if_neg (show ¬ q.1 < g n + 1 by omega), if_neg (show ¬ g n + 1 = q.1 by omega)]
        refine ⟨fun x hx hbx => ?_, ?_⟩
        · by_cases he : x = n
          · subst he; omega
          · exact i1 x (by omega) hbx
        · rcases i2 with i2 | i2
          · omega
          · refine Or.inr ?_
            have : ¬ g n + 1 = q.1 := by omega
            rw [jF_step, seN_bit (by omega), hb, Bool.true_and, if_neg (by simp [this])]
            exact i2
theorem mx2_fst (c : Nat) (g th : Nat → Nat) (jn : Nat → Nat → Nat) (b n : Nat) : (mx2 c g th jn b n).1 = foR (fun x a => if c.testBit x then (if a < g x + 1 then g x + 1 else a) else a) 0 n := by
  unfold mx2
  refine foR_proj (π := fun (q : Nat × Nat) => q.1) (fun x q => ?_) n
  cases c.testBit x
  · rfl
  · rfl

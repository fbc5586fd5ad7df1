/-! the longest row -/
theorem or_gt {s x : Nat} (h : s.testBit x = false) : s < s ||| 2 ^ x := by
  have h1 : s ≤ s ||| 2 ^ x := Nat.left_le_or
  have h2 : s ≠ s ||| 2 ^ x := by
    intro e
    have : (s ||| 2 ^ x).testBit x = true := by rw [Nat.testBit_or, Nat.testBit_two_pow_self, Bool.or_true]
    rw [← e, h] at this
    cases this
  omega
theorem or_sub {s h x : Nat} (e : s &&& h = h) : (s ||| 2 ^ x) &&& h = h := by
  apply Nat.eq_of_testBit_eq
  intro i
  rw [Nat.testBit_and, Nat.testBit_or]
  cases hi : h.testBit i
  · rw [Bool.and_false]
  · rw [sub_bit e i hi, Bool.true_or, Bool.true_and]
theorem or_in (s x : Nat) : (s ||| 2 ^ x).testBit x = true := by rw [Nat.testBit_or, Nat.testBit_two_pow_self, Bool.or_true]
/-- what stands behind, in the table -/
theorem flD_behind {T : TD} (hT : wfT T) {dy h s w x : Nat} {V : Nat → Nat → Int64} {J : zk_J} {tb : Nat} (hf : flD T h V J tb (s + 1)) (hs : s < 2 ^ nrT T) (hsub : s &&& h = h) (hx : (chN T dy h s w).testBit x = true) : J tb (8 * (s ||| 2 ^ x) + x) = V (s ||| 2 ^ x) x := by
  obtain ⟨h1, h2⟩ := chN_bit hT hx
  exact hf _ _ (or_gt h2) (Nat.or_lt_two_pow hs (Nat.pow_lt_pow_right (by decide) h1)) (or_sub hsub) h1 (or_in s x)
theorem foR_out {β : Type} {f : Nat → β → β} {b : β} {n : Nat} (h : ∀ i a, n ≤ i → f i a = a) : ∀ k, foR f b (n + k) = foR f b n
  | 0 => rfl
  | k + 1 => by
    rw [← Nat.add_assoc, foR, foR_out h k, h _ _ (by omega)]
theorem jF_max (c : Nat) (th : Nat → Nat) : ∀ n, (jF c th (fun u v => if v < u then u else v) n).getD 0 = foR (fun x a => if c.testBit x then (if a < th x then th x else a) else a) 0 n
  | 0 => rfl
  | n + 1 => by
    have ih := jF_max c th n
    unfold jF at ih ⊢
    rw [foR, foR, ← ih]
    by_cases hb : c.testBit n = true
    · rw [if_pos hb, if_pos hb]
      cases foR (fun x a => if c.testBit x then some (match a with | none => th x | some v => (fun u v => if v < u then u else v) v (th x)) else a) none n with
      | none =>
        show th n = if 0 < th n then th n else 0
        split <;> omega
      | some v =>
        show (if th n < v then v else th n) = if v < th n then th n else v
        split <;> split <;> omega
    · rw [if_neg hb, if_neg hb]
theorem jF_some {c : Nat} {th : Nat → Nat} {jn : Nat → Nat → Nat} : ∀ {n x : Nat}, x < n → c.testBit x = true → ∃ v, jF c th jn n = some v
  | 0, x, hx, _ => absurd hx (Nat.not_lt_zero _)
  | n + 1, x, hx, hb => by
    unfold jF
    rw [foR]
    by_cases hn : c.testBit n = true
    · rw [if_pos hn]; exact ⟨_, rfl⟩
    · rw [if_neg hn]
      have : x < n := by
        by_cases he : x = n
        · subst he; exact absurd hb hn
        · omega
      exact jF_some this hb
theorem bit_ex : ∀ c, c < 256 → c ≠ 0 → ∃ x, x < 8 ∧ c.testBit x = true := by decide +kernel
theorem ms_most {T : TD} {dy h w0 : Nat} {I : zk_I} {J : zk_J} {tb : Nat} (hT : wfT T) (hB : begC T dy h w0 I) : msOK T h (fun s w => lN (lgV T dy h s w)) I J 0 tb := by
  intro J' s w hs hsub hw hsw ho hf
  have hpw := pow_le8 hT.1
  have hnr := hT.1
  have e := x_msS (J := J') (a1 := 0) (tb := tb) (th := fun x => lgV T dy h (s ||| 2 ^ x) x + 1) (jn := fun u v => if v < u then u else v) hT hB hs hsub hw (by decide) (by decide) (by decide) (by decide) (fun x hx hb => ?_) (fun n v hn hv => ?_) (fun x u hx hb hu => ?_)
  · rw [e]
    have hrec := lgV_rec hT (dy := dy) (h := h) (s := s) (w := w) (by omega)
    have hmx := jF_max (chN T dy h s w) (fun x => lgV T dy h (s ||| 2 ^ x) x + 1) (nrT T)
    have hout := foR_out (f := fun x a => if (chN T dy h s w).testBit x then (if a < lgV T dy h (s ||| 2 ^ x) x + 1 then lgV T dy h (s ||| 2 ^ x) x + 1 else a) else a) (b := 0) (n := nrT T) (fun i a hi => if_neg (fun q => by have := (chN_bit hT q).1; omega)) (8 - nrT T)
    rw [show nrT T + (8 - nrT T) = 8 by omega] at hout
    have hl : lgV T dy h s w = (jF (chN T dy h s w) (fun x => lgV T dy h (s ||| 2 ^ x) x + 1) (fun u v => if v < u then u else v) (nrT T)).getD 0 := by
      rw [hmx, ← hout, hrec]
      rfl
    by_cases h0 : chN T dy h s w = 0
    · rw [if_pos h0]
      have : lgV T dy h s w = 0 := by
        rw [hrec]
        unfold stL
        rw [h0]
        have : ∀ n, foR (fun x a => if (0 : Nat).testBit x then (if a < lgV T dy h (s ||| 2 ^ x) x + 1 then lgV T dy h (s ||| 2 ^ x) x + 1 else a) else a) 0 n = 0 := by
          intro n
          induction n with
          | zero => rfl
          | succ n ih => rw [foR, ih, Nat.zero_testBit, if_neg (by decide)]
        exact this 8
      show some (0 : Int64) = some (lN (lgV T dy h s w))
      rw [this]
      rfl
    · rw [if_neg h0]
      obtain ⟨x, hx8, hx⟩ := bit_ex _ (chN_lt hT dy h s w) h0
      obtain ⟨v, hv⟩ := jF_some (th := fun x => lgV T dy h (s ||| 2 ^ x) x + 1) (jn := fun u v => if v < u then u else v) (chN_bit hT hx).1 hx
      rw [hv] at hl ⊢
      show some (lN v) = some (lN (lgV T dy h s w))
      rw [hl]
      rfl
  · rw [flD_behind hT hf hs hsub hb]
    show some (lN (lgV T dy h (s ||| 2 ^ x) x) + 1) = _
    rw [lN_1]
  · have hmx := jF_max (chN T dy h s w) (fun x => lgV T dy h (s ||| 2 ^ x) x + 1) n
    rw [hv] at hmx
    have : foR (fun x a => if (chN T dy h s w).testBit x then (if a < lgV T dy h (s ||| 2 ^ x) x + 1 then lgV T dy h (s ||| 2 ^ x) x + 1 else a) else a) 0 n ≤ 10 := by
      refine foR_le (fun i a ha => ?_) n 0 (by decide)
      have := lgV_le T dy h (s ||| 2 ^ i) i
      by_cases hb : (chN T dy h s w).testBit i = true
      · rw [if_pos hb]
        split <;> omega
      · rw [if_neg hb]; exact ha
    have hmx : v = _ := hmx
    omega
  · have := lgV_le T dy h (s ||| 2 ^ x) x
    show (if lN (lgV T dy h (s ||| 2 ^ x) x + 1) < lN u then lN u else lN (lgV T dy h (s ||| 2 ^ x) x + 1)) = lN (if lgV T dy h (s ||| 2 ^ x) x + 1 < u then u else lgV T dy h (s ||| 2 ^ x) x + 1)
    by_cases hlt : lgV T dy h (s ||| 2 ^ x) x + 1 < u
    · rw [if_pos hlt, if_pos ((pk_lLT (by omega) (by omega)).mpr hlt)]
    · rw [if_neg hlt, if_neg (fun q => hlt ((pk_lLT (by omega) (by omega)).mp q))]

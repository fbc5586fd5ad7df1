/-! the shortest way to a wall -/
def stH (T : TD) (dy h : Nat) (f : Nat → Nat) (s w : Nat) : Nat := if chN T dy h s w = 0 then 0 else foR (fun x a => if (chN T dy h s w).testBit x then (if f x + 1 < a then f x + 1 else a) else a) 99 (nrT T)
def shV (T : TD) (dy h s w : Nat) : Nat := valV (stH T dy h) 0 s w
theorem stH_cong (T : TD) (dy h : Nat) : ∀ f g s w, (∀ x, (chN T dy h s w).testBit x = true → f x = g x) → stH T dy h f s w = stH T dy h g s w := by
  intro f g s w hfg
  unfold stH
  by_cases h0 : chN T dy h s w = 0
  · rw [if_pos h0, if_pos h0]
  · rw [if_neg h0, if_neg h0]
    apply foR_congr
    intro x a hx
    by_cases hb : (chN T dy h s w).testBit x = true
    · rw [hfg x hb]
    · rw [if_neg hb, if_neg hb]
theorem shV_rec {T : TD} (hT : wfT T) {dy h s w : Nat} (hs : s < 256) : shV T dy h s w = stH T dy h (fun x => shV T dy h (s ||| 2 ^ x) x) s w := valV_rec (stH_cong T dy h) (ch_dom hT dy h) hs
theorem foR_min {c : Nat} {g : Nat → Nat} {b : Nat} : ∀ {n x : Nat}, x < n → c.testBit x = true → foR (fun x a => if c.testBit x then (if g x < a then g x else a) else a) b n ≤ g x
  | 0, x, hx, _ => absurd hx (Nat.not_lt_zero _)
  | n + 1, x, hx, hb => by
    rw [foR]
    by_cases he : x = n
    · subst he
      rw [if_pos hb]
      split <;> omega
    · have ih := foR_min (g := g) (b := b) (show x < n by omega) hb
      by_cases hn : c.testBit n = true
      · rw [if_pos hn]
        split <;> omega
      · rw [if_neg hn]; exact ih
theorem stH_le {T : TD} (hT : wfT T) (dy h : Nat) {f : Nat → Nat} {m : Nat} (hf : ∀ x, f x ≤ m) (s w : Nat) : stH T dy h f s w ≤ m + 1 := by
  unfold stH
  by_cases h0 : chN T dy h s w = 0
  · rw [if_pos h0]; omega
  · rw [if_neg h0]
    obtain ⟨x, hx8, hx⟩ := bit_ex _ (chN_lt hT dy h s w) h0
    have := foR_min (g := fun x => f x + 1) (b := 99) (chN_bit hT hx).1 hx
    have h2 := hf x
    exact Nat.le_trans this (by omega)
theorem tabH_le {T : TD} (hT : wfT T) (dy h : Nat) : ∀ n s w, tabV (stH T dy h) 0 n s w ≤ n
  | 0, _, _ => Nat.le_refl _
  | n + 1, s, w => stH_le hT dy h (fun x => tabH_le hT dy h n (s ||| 2 ^ x) x) s w
theorem shV_le {T : TD} (hT : wfT T) (dy h s w : Nat) : shV T dy h s w ≤ 9 := Nat.le_trans (tabH_le hT dy h _ s w) (by omega)

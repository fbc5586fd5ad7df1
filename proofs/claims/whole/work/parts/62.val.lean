/-! values of states, by recursion over who has not had the book -/
def tabV {β : Type} (stp : (Nat → β) → Nat → Nat → β) (d : β) : Nat → Nat → Nat → β
  | 0, _, _ => d
  | n + 1, s, w => stp (fun x => tabV stp d n (s ||| 2 ^ x) x) s w
def valV {β : Type} (stp : (Nat → β) → Nat → Nat → β) (d : β) (s w : Nat) : β := tabV stp d (9 - pc s) s w
theorem valV_rec {β : Type} {stp : (Nat → β) → Nat → Nat → β} {d : β} {c : Nat → Nat → Nat} (hc : ∀ f g s w, (∀ x, (c s w).testBit x = true → f x = g x) → stp f s w = stp g s w) (hd : ∀ s w x, s < 256 → (c s w).testBit x = true → x < 8 ∧ s.testBit x = false) {s w : Nat} (hs : s < 256) : valV stp d s w = stp (fun x => valV stp d (s ||| 2 ^ x) x) s w := by
  have h8 := pc_le s
  unfold valV
  rw [show 9 - pc s = (8 - pc s) + 1 by omega, tabV]
  apply hc
  intro x hx
  obtain ⟨h1, h2⟩ := hd s w x hs hx
  rw [pc_or s hs x h1 h2, show 9 - (pc s + 1) = 8 - pc s by omega]
theorem chN_bit {T : TD} (hT : wfT T) {dy h s w x : Nat} (hx : (chN T dy h s w).testBit x = true) : x < nrT T ∧ s.testBit x = false := by
  unfold chN at hx
  rw [dif_bit (mayT_lt hT _ _), Bool.and_eq_true] at hx
  refine ⟨?_, by simpa using hx.2⟩
  have := hx.1
  unfold mayT at this
  rw [mk_bit, Bool.and_eq_true, decide_eq_true_eq] at this
  exact this.1
/-- over the readers in order -/
def foR {β : Type} (f : Nat → β → β) (b : β) : Nat → β
  | 0 => b
  | n + 1 => f n (foR f b n)
theorem foR_congr {β : Type} {f g : Nat → β → β} {b : β} : ∀ {n : Nat}, (∀ i a, i < n → f i a = g i a) → foR f b n = foR g b n
  | 0, _ => rfl
  | n + 1, h => by
    unfold foR
    rw [foR_congr (n := n) (fun i a hi => h i a (by omega)), h n _ (by omega)]
/-- the longest row, as the reference joins it -/
def stL (T : TD) (dy h : Nat) (f : Nat → Nat) (s w : Nat) : Nat := foR (fun x a => if (chN T dy h s w).testBit x then (if a < f x + 1 then f x + 1 else a) else a) 0 8
def lgV (T : TD) (dy h s w : Nat) : Nat := valV (stL T dy h) 0 s w
theorem stL_cong (T : TD) (dy h : Nat) : ∀ f g s w, (∀ x, (chN T dy h s w).testBit x = true → f x = g x) → stL T dy h f s w = stL T dy h g s w := by
  intro f g s w hfg
  unfold stL
  apply foR_congr
  intro x a hx
  by_cases hb : (chN T dy h s w).testBit x = true
  · rw [hfg x hb]
  · rw [if_neg hb, if_neg hb]
theorem ch_dom {T : TD} (hT : wfT T) (dy h : Nat) : ∀ s w x, s < 256 → (chN T dy h s w).testBit x = true → x < 8 ∧ s.testBit x = false := fun s w x _ hx => by
  have := chN_bit hT hx
  have h8 := hT.1
  exact ⟨by omega, this.2⟩
theorem lgV_rec {T : TD} (hT : wfT T) {dy h s w : Nat} (hs : s < 256) : lgV T dy h s w = stL T dy h (fun x => lgV T dy h (s ||| 2 ^ x) x) s w := valV_rec (stL_cong T dy h) (ch_dom hT dy h) hs
theorem foR_le {f : Nat → Nat → Nat} {m : Nat} (h : ∀ i a, a ≤ m → f i a ≤ m) : ∀ n b, b ≤ m → foR f b n ≤ m
  | 0, b, hb => hb
  | n + 1, b, hb => h n _ (foR_le h n b hb)
theorem stL_le (T : TD) (dy h : Nat) {f : Nat → Nat} {m : Nat} (hf : ∀ x, f x ≤ m) (s w : Nat) : stL T dy h f s w ≤ m + 1 := by
  unfold stL
  refine foR_le (fun i a ha => ?_) 8 0 (Nat.zero_le _)
  have := hf i
  by_cases hb : (chN T dy h s w).testBit i = true
  · rw [if_pos hb]
    split <;> omega
  · rw [if_neg hb]; exact ha
theorem tabL_le (T : TD) (dy h : Nat) : ∀ n s w, tabV (stL T dy h) 0 n s w ≤ n
  | 0, _, _ => Nat.le_refl _
  | n + 1, s, w => stL_le T dy h (fun x => tabL_le T dy h n (s ||| 2 ^ x) x) s w
theorem lgV_le (T : TD) (dy h s w : Nat) : lgV T dy h s w ≤ 9 := Nat.le_trans (tabL_le T dy h _ s w) (by omega)

/-! two who name by turns -/
def stW (T : TD) (dy h : Nat) (f : Nat → Nat) (s w : Nat) : Nat := foR (fun x a => if (chN T dy h s w).testBit x then (if a < 1 - f x then 1 - f x else a) else a) 0 (nrT T)
def wnV (T : TD) (dy h s w : Nat) : Nat := valV (stW T dy h) 0 s w
theorem stW_cong (T : TD) (dy h : Nat) : ∀ f g s w, (∀ x, (chN T dy h s w).testBit x = true → f x = g x) → stW T dy h f s w = stW T dy h g s w := by
  intro f g s w hfg
  unfold stW
  apply foR_congr
  intro x a hx
  by_cases hb : (chN T dy h s w).testBit x = true
  · rw [hfg x hb]
  · rw [if_neg hb, if_neg hb]
theorem wnV_rec {T : TD} (hT : wfT T) {dy h s w : Nat} (hs : s < 256) : wnV T dy h s w = stW T dy h (fun x => wnV T dy h (s ||| 2 ^ x) x) s w := valV_rec (stW_cong T dy h) (ch_dom hT dy h) hs
theorem stW_le (T : TD) (dy h : Nat) (f : Nat → Nat) (s w n : Nat) : foR (fun x a => if (chN T dy h s w).testBit x then (if a < 1 - f x then 1 - f x else a) else a) 0 n ≤ 1 := by
  refine foR_inv (P := fun a => a ≤ 1) (Nat.zero_le _) n (fun i a hi ha => ?_)
  show (if _ then _ else _) ≤ 1
  by_cases hb : (chN T dy h s w).testBit i = true
  · rw [if_pos hb]
    split <;> omega
  · rw [if_neg hb]; exact ha
theorem wnV_le (T : TD) (dy h s w : Nat) : wnV T dy h s w ≤ 1 := by
  unfold wnV valV
  cases 9 - pc s with
  | zero => exact Nat.zero_le _
  | succ n => exact stW_le T dy h _ s w _

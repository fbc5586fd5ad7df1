def stF (T : TD) (dy h : Nat) (f : Nat → Nat) (s w : Nat) : Nat := foR (fun x a => if (chN T dy h s w).testBit x then (if a < f x + rkT T x then f x + rkT T x else a) else a) 0 (nrT T)
def fmV (T : TD) (dy h s w : Nat) : Nat := valV (stF T dy h) 0 s w
theorem stF_cong (T : TD) (dy h : Nat) : ∀ f g s w, (∀ x, (chN T dy h s w).testBit x = true → f x = g x) → stF T dy h f s w = stF T dy h g s w := by
  intro f g s w hfg
  unfold stF
  apply foR_congr
  intro x a hx
  by_cases hb : (chN T dy h s w).testBit x = true
  · rw [hfg x hb]
  · rw [if_neg hb, if_neg hb]
theorem fmV_rec {T : TD} (hT : wfT T) {dy h s w : Nat} (hs : s < 256) : fmV T dy h s w = stF T dy h (fun x => fmV T dy h (s ||| 2 ^ x) x) s w := valV_rec (stF_cong T dy h) (ch_dom hT dy h) hs
theorem stF_le {T : TD} (hT : wfT T) (dy h : Nat) {f : Nat → Nat} {m n : Nat} (hn : n ≤ nrT T) (hf : ∀ x, f x ≤ m) (s w : Nat) : foR (fun x a => if (chN T dy h s w).testBit x then (if a < f x + rkT T x then f x + rkT T x else a) else a) 0 n ≤ m + 9 := by
  refine foR_inv (P := fun a => a ≤ m + 9) (Nat.zero_le _) n (fun i a hi ha => ?_)
  have h1 := hf i
  have h2 := (hT.2.2.1 i (by omega)).2.1
  show (if _ then _ else _) ≤ m + 9
  by_cases hb : (chN T dy h s w).testBit i = true
  · rw [if_pos hb]
    split <;> omega
  · rw [if_neg hb]; exact ha
theorem tabF_le {T : TD} (hT : wfT T) (dy h : Nat) : ∀ n s w, tabV (stF T dy h) 0 n s w ≤ 9 * n
  | 0, _, _ => Nat.le_refl _
  | n + 1, s, w => stF_le hT dy h (Nat.le_refl _) (fun x => tabF_le hT dy h n (s ||| 2 ^ x) x) s w
theorem fmV_le {T : TD} (hT : wfT T) (dy h s w : Nat) : fmV T dy h s w ≤ 81 := Nat.le_trans (tabF_le hT dy h _ s w) (by omega)
theorem i2l9 : ∀ r, r ≤ 9 → (nI r).toInt64 = lN r := by decide +kernel

/-! the shortest way to a wall -/
def stH (T : TD) (dy h : Nat) (f : Nat → Nat) (s w : Nat) : Nat := if chN T dy h s w = 0 then 0 else foR (fun x a => if (chN T dy h s w).testBit x then (if f x + 1 < a then f x + 1 else a) else a) 99 (nrT T)
def shV (T : TD) (dy h s w : Nat) : Nat := valV (stH T dy h) 0 s w
theorem stH_cong (T : TD) (dy h : Nat) : ∀ f g s w, (∀ x, (chN T dy h s w).testBit x = true → f x = g x) → stH T dy h f s w = stH T dy h g s w := by
  intro f g s w hfg
  unfold stH
  by_cases h0 : chN T dy h s w = 0
  · rw [if_pos h0, if_pos h0]
  · rw [if_neg h0, if_neg h0]
    apply foR_congr
    intro x a hx
    by_cases hb : (chN T dy h s w).testBit x = true
    · rw [hfg x hb]
    · rw [if_neg hb, if_neg hb]
theorem shV_rec {T : TD} (hT : wfT T) {dy h s w : Nat} (hs : s < 256) : shV T dy h s w = stH T dy h (fun x => shV T dy h (s ||| 2 ^ x) x) s w := valV_rec (stH_cong T dy h) (ch_dom hT dy h) hs
theorem foR_min {c : Nat} {g : Nat → Nat} {b : Nat} : ∀ {n x : Nat}, x < n → c.testBit x = true → foR (fun x a => if c.testBit x then (if g x < a then g x else a) else a) b n ≤ g x
  | 0, x, hx, _ => absurd hx (Nat.not_lt_zero _)
  | n + 1, x, hx, hb => by
    rw [foR]
    by_cases he : x = n
    · subst he
      rw [if_pos hb]
      split <;> omega
    · have ih := foR_min (g := g) (b := b) (show x < n by omega) hb
      by_cases hn : c.testBit n = true
      · rw [if_pos hn]
        split <;> omega
      · rw [if_neg hn]; exact ih
theorem stH_le {T : TD} (hT : wfT T) (dy h : Nat) {f : Nat → Nat} {m : Nat} (hf : ∀ x, f x ≤ m) (s w : Nat) : stH T dy h f s w ≤ m + 1 := by
  unfold stH
  by_cases h0 : chN T dy h s w = 0
  · rw [if_pos h0]; omega
  · rw [if_neg h0]
    obtain ⟨x, hx8, hx⟩ := bit_ex _ (chN_lt hT dy h s w) h0
    have := foR_min (g := fun x => f x + 1) (b := 99) (chN_bit hT hx).1 hx
    have h2 := hf x
    exact Nat.le_trans this (by omega)
theorem tabH_le {T : TD} (hT : wfT T) (dy h : Nat) : ∀ n s w, tabV (stH T dy h) 0 n s w ≤ n
  | 0, _, _ => Nat.le_refl _
  | n + 1, s, w => stH_le hT dy h (fun x => tabH_le hT dy h n (s ||| 2 ^ x) x) s w
theorem shV_le {T : TD} (hT : wfT T) (dy h s w : Nat) : shV T dy h s w ≤ 9 := Nat.le_trans (tabH_le hT dy h _ s w) (by omega)
theorem jF_min (c : Nat) (th : Nat → Nat) (hth : ∀ x, th x < 99) : ∀ n, (jF c th (fun u v => if v < u then v else u) n).getD 99 = foR (fun x a => if c.testBit x then (if th x < a then th x else a) else a) 99 n
  | 0 => rfl
  | n + 1 => by
    have ih := jF_min c th hth n
    unfold jF at ih ⊢
    rw [foR, foR, ← ih]
    by_cases hb : c.testBit n = true
    · rw [if_pos hb, if_pos hb]
      cases foR (fun x a => if c.testBit x then some (match a with | none => th x | some v => (fun u v => if v < u then v else u) v (th x)) else a) none n with
      | none =>
        show th n = if th n < 99 then th n else 99
        rw [if_pos (hth n)]
      | some v => rfl
    · rw [if_neg hb, if_neg hb]
theorem ms_short {T : TD} {dy h w0 : Nat} {I : zk_I} {J : zk_J} {tb : Nat} (hT : wfT T) (hB : begC T dy h w0 I) : msOK T h (fun s w => lN (shV T dy h s w)) I J 2 tb := by
  have hnr := hT.1
  have h98 : ∀ s x, shV T dy h (s ||| 2 ^ x) x + 1 < 99 := fun s x => by have := shV_le hT dy h (s ||| 2 ^ x) x; omega
  refine ms_gen (val := shV T dy h) (tf := fun x v => v + 1) (jn := fun u v => if v < u then v else u) hT hB (by decide) (by decide) (by decide) (by decide) (fun s x hs hx => ?_) (fun s w n v hs hn hv => ?_) (fun s x u hs hx hu => ?_) (fun s w hs h0 => ?_) (fun s w hs h0 => ?_)
  · show some (lN (shV T dy h (s ||| 2 ^ x) x) + 1) = _
    rw [lN_1]
  · have hmx := jF_min (chN T dy h s w) (fun x => shV T dy h (s ||| 2 ^ x) x + 1) (h98 s) n
    rw [hv] at hmx
    have : foR (fun x a => if (chN T dy h s w).testBit x then (if shV T dy h (s ||| 2 ^ x) x + 1 < a then shV T dy h (s ||| 2 ^ x) x + 1 else a) else a) 99 n ≤ 99 := by
      refine foR_inv (P := fun a => a ≤ 99) (Nat.le_refl _) n (fun i a hi ha => ?_)
      show (if _ then _ else _) ≤ 99
      by_cases hb : (chN T dy h s w).testBit i = true
      · rw [if_pos hb]
        split <;> omega
      · rw [if_neg hb]; exact ha
    have hmx : v = _ := hmx
    omega
  · have h1 := h98 s x
    show (if lN (shV T dy h (s ||| 2 ^ x) x + 1) < lN u then lN (shV T dy h (s ||| 2 ^ x) x + 1) else lN u) = lN (if shV T dy h (s ||| 2 ^ x) x + 1 < u then shV T dy h (s ||| 2 ^ x) x + 1 else u)
    by_cases hlt : shV T dy h (s ||| 2 ^ x) x + 1 < u
    · rw [if_pos hlt, if_pos ((pk_lLT (by omega) (by omega)).mpr hlt)]
    · rw [if_neg hlt, if_neg (fun q => hlt ((pk_lLT (by omega) (by omega)).mp q))]
  · rw [shV_rec hT hs]
    unfold stH
    rw [if_pos h0]
  · obtain ⟨x, hx8, hx⟩ := bit_ex _ (chN_lt hT dy h s w) h0
    obtain ⟨v, hv⟩ := jF_some (th := fun x => shV T dy h (s ||| 2 ^ x) x + 1) (jn := fun u v => if v < u then v else u) (chN_bit hT hx).1 hx
    have hmx := jF_min (chN T dy h s w) (fun x => shV T dy h (s ||| 2 ^ x) x + 1) (h98 s) (nrT T)
    have hk : shV T dy h s w = v := by
      rw [hv] at hmx
      rw [shV_rec hT hs]
      unfold stH
      rw [if_neg h0]
      exact hmx.symm
    show jF (chN T dy h s w) (fun x => shV T dy h (s ||| 2 ^ x) x + 1) (fun u v => if v < u then v else u) (nrT T) = some (shV T dy h s w)
    rw [hv, hk]

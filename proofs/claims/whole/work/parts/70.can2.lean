def stA (T : TD) (dy h : Nat) (f : Nat → Nat) (s w : Nat) : Nat := foR (fun x a => if (chN T dy h s w).testBit x then a ||| (f x ||| 2 ^ x) else a) 0 8
def cnV (T : TD) (dy h s w : Nat) : Nat := valV (stA T dy h) 0 s w
theorem stA_cong (T : TD) (dy h : Nat) : ∀ f g s w, (∀ x, (chN T dy h s w).testBit x = true → f x = g x) → stA T dy h f s w = stA T dy h g s w := by
  intro f g s w hfg
  unfold stA
  apply foR_congr
  intro x a hx
  by_cases hb : (chN T dy h s w).testBit x = true
  · rw [hfg x hb]
  · rw [if_neg hb, if_neg hb]
theorem cnV_rec {T : TD} (hT : wfT T) {dy h s w : Nat} (hs : s < 256) : cnV T dy h s w = stA T dy h (fun x => cnV T dy h (s ||| 2 ^ x) x) s w := valV_rec (stA_cong T dy h) (ch_dom hT dy h) hs
theorem foR_inv {β : Type} {f : Nat → β → β} {P : β → Prop} {b : β} (hb : P b) : ∀ n, (∀ i a, i < n → P a → P (f i a)) → P (foR f b n)
  | 0, _ => hb
  | n + 1, h => h n _ (by omega) (foR_inv hb n (fun i a hi => h i a (by omega)))
theorem stA_lt (T : TD) (dy h : Nat) {f : Nat → Nat} (hf : ∀ x, f x < 256) (s w : Nat) : stA T dy h f s w < 256 := by
  unfold stA
  refine foR_inv (P := fun a => a < 256) (by decide) 8 (fun i a hi ha => ?_)
  show (if _ then _ else _) < 256
  by_cases hb : (chN T dy h s w).testBit i = true
  · rw [if_pos hb]; exact or_lt ha (or_lt (hf i) (p2_lt8 hi))
  · rw [if_neg hb]; exact ha
theorem tabA_lt (T : TD) (dy h : Nat) : ∀ n s w, tabV (stA T dy h) 0 n s w < 256
  | 0, _, _ => (by decide : 0 < 256)
  | n + 1, s, w => stA_lt T dy h (fun x => tabA_lt T dy h n (s ||| 2 ^ x) x) s w
theorem cnV_lt (T : TD) (dy h s w : Nat) : cnV T dy h s w < 256 := tabA_lt T dy h _ s w
theorem jF_or (c : Nat) (th : Nat → Nat) : ∀ n, (jF c th (fun u v => u ||| v) n).getD 0 = foR (fun x a => if c.testBit x then a ||| th x else a) 0 n
  | 0 => rfl
  | n + 1 => by
    have ih := jF_or c th n
    unfold jF at ih ⊢
    rw [foR, foR, ← ih]
    by_cases hb : c.testBit n = true
    · rw [if_pos hb, if_pos hb]
      cases foR (fun x a => if c.testBit x then some (match a with | none => th x | some v => (fun u v => u ||| v) v (th x)) else a) none n with
      | none =>
        show th n = 0 ||| th n
        rw [Nat.zero_or]
      | some v => rfl
    · rw [if_neg hb, if_neg hb]
theorem ms_can {T : TD} {dy h w0 : Nat} {I : zk_I} {J : zk_J} {tb : Nat} (hT : wfT T) (hB : begC T dy h w0 I) : msOK T h (fun s w => lN (cnV T dy h s w)) I J 3 tb := by
  have hnr := hT.1
  have key : ∀ s w, s < 256 → cnV T dy h s w = (jF (chN T dy h s w) (fun x => cnV T dy h (s ||| 2 ^ x) x ||| 2 ^ x) (fun u v => u ||| v) (nrT T)).getD 0 := by
    intro s w hs
    have hout := foR_out (f := fun x a => if (chN T dy h s w).testBit x then a ||| (cnV T dy h (s ||| 2 ^ x) x ||| 2 ^ x) else a) (b := 0) (n := nrT T) (fun i a hi => if_neg (fun q => by have := (chN_bit hT q).1; omega)) (8 - nrT T)
    rw [show nrT T + (8 - nrT T) = 8 by omega] at hout
    rw [jF_or, ← hout, cnV_rec hT hs]
    rfl
  refine ms_gen (val := cnV T dy h) (tf := fun x v => v ||| 2 ^ x) (jn := fun u v => u ||| v) hT hB (by decide) (by decide) (by decide) (by decide) (fun s x hs hx => ?_) (fun s w n v hs hn hv => ?_) (fun s x u hs hx hu => lb_or _ _) (fun s w hs h0 => ?_) (fun s w hs h0 => ?_)
  · show some (lN (cnV T dy h (s ||| 2 ^ x) x) ||| ((1 : Int64) <<< ((nI x).toInt64 &&& 63))) = _
    rw [lb_shl1 x (by omega), lb_or]
  · have hmx := jF_or (chN T dy h s w) (fun x => cnV T dy h (s ||| 2 ^ x) x ||| 2 ^ x) n
    rw [hv] at hmx
    have : foR (fun x a => if (chN T dy h s w).testBit x then a ||| (cnV T dy h (s ||| 2 ^ x) x ||| 2 ^ x) else a) 0 n < 256 := by
      refine foR_inv (P := fun a => a < 256) (by decide) n (fun i a hi ha => ?_)
      show (if _ then _ else _) < 256
      by_cases hb : (chN T dy h s w).testBit i = true
      · rw [if_pos hb]; exact or_lt ha (or_lt (cnV_lt T dy h _ _) (p2_lt8 (by omega)))
      · rw [if_neg hb]; exact ha
    have hmx : v = _ := hmx
    omega
  · rw [cnV_rec hT hs]
    unfold stA
    rw [h0]
    exact foR_inv (P := fun a => a = 0) rfl 8 (fun i a hi ha => by
      show (if _ then _ else _) = 0
      rw [Nat.zero_testBit, if_neg (by decide)]; exact ha)
  · obtain ⟨x, hx8, hx⟩ := bit_ex _ (chN_lt hT dy h s w) h0
    obtain ⟨v, hv⟩ := jF_some (th := fun x => cnV T dy h (s ||| 2 ^ x) x ||| 2 ^ x) (jn := fun u v => u ||| v) (chN_bit hT hx).1 hx
    have hk := key s w hs
    rw [hv] at hk
    show jF (chN T dy h s w) (fun x => cnV T dy h (s ||| 2 ^ x) x ||| 2 ^ x) (fun u v => u ||| v) (nrT T) = some (cnV T dy h s w)
    rw [hv, hk]
    rfl

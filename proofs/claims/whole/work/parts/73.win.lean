/-! two who name by turns -/
def stW (T : TD) (dy h : Nat) (f : Nat → Nat) (s w : Nat) : Nat := foR (fun x a => if (chN T dy h s w).testBit x then (if a < 1 - f x then 1 - f x else a) else a) 0 (nrT T)
def wnV (T : TD) (dy h s w : Nat) : Nat := valV (stW T dy h) 0 s w
theorem stW_cong (T : TD) (dy h : Nat) : ∀ f g s w, (∀ x, (chN T dy h s w).testBit x = true → f x = g x) → stW T dy h f s w = stW T dy h g s w := by
  intro f g s w hfg
  unfold stW
  apply foR_congr
  intro x a hx
  by_cases hb : (chN T dy h s w).testBit x = true
  · rw [hfg x hb]
  · rw [if_neg hb, if_neg hb]
theorem wnV_rec {T : TD} (hT : wfT T) {dy h s w : Nat} (hs : s < 256) : wnV T dy h s w = stW T dy h (fun x => wnV T dy h (s ||| 2 ^ x) x) s w := valV_rec (stW_cong T dy h) (ch_dom hT dy h) hs
theorem stW_le (T : TD) (dy h : Nat) (f : Nat → Nat) (s w n : Nat) : foR (fun x a => if (chN T dy h s w).testBit x then (if a < 1 - f x then 1 - f x else a) else a) 0 n ≤ 1 := by
  refine foR_inv (P := fun a => a ≤ 1) (Nat.zero_le _) n (fun i a hi ha => ?_)
  show (if _ then _ else _) ≤ 1
  by_cases hb : (chN T dy h s w).testBit i = true
  · rw [if_pos hb]
    split <;> omega
  · rw [if_neg hb]; exact ha
theorem wnV_le (T : TD) (dy h s w : Nat) : wnV T dy h s w ≤ 1 := by
  unfold wnV valV
  cases 9 - pc s with
  | zero => exact Nat.zero_le _
  | succ n => exact stW_le T dy h _ s w _
theorem l1sub : ∀ v, v ≤ 1 → (1 : Int64) - lN v = lN (1 - v) := by decide +kernel
theorem ms_win {T : TD} {dy h w0 : Nat} {I : zk_I} {J : zk_J} {tb : Nat} (hT : wfT T) (hB : begC T dy h w0 I) : msOK T h (fun s w => lN (wnV T dy h s w)) I J 8 tb := by
  refine ms_gen (val := wnV T dy h) (tf := fun x v => 1 - v) (jn := fun u v => if v < u then u else v) hT hB (by decide) (by decide) (by decide) (by decide) (fun s x hs hx => ?_) (fun s w n v hs hn hv => ?_) (fun s x u hs hx hu => ?_) (fun s w hs h0 => ?_) (fun s w hs h0 => ?_)
  · show some ((1 : Int64) - lN (wnV T dy h (s ||| 2 ^ x) x)) = _
    rw [l1sub _ (wnV_le T dy h _ _)]
  · have hmx := jF_max (chN T dy h s w) (fun x => 1 - wnV T dy h (s ||| 2 ^ x) x) n
    rw [hv] at hmx
    have := stW_le T dy h (fun x => wnV T dy h (s ||| 2 ^ x) x) s w n
    have hmx : v = _ := hmx
    omega
  · show (if lN (1 - wnV T dy h (s ||| 2 ^ x) x) < lN u then lN u else lN (1 - wnV T dy h (s ||| 2 ^ x) x)) = lN (if 1 - wnV T dy h (s ||| 2 ^ x) x < u then u else 1 - wnV T dy h (s ||| 2 ^ x) x)
    by_cases hlt : 1 - wnV T dy h (s ||| 2 ^ x) x < u
    · rw [if_pos hlt, if_pos ((pk_lLT (by omega) (by omega)).mpr hlt)]
    · rw [if_neg hlt, if_neg (fun q => hlt ((pk_lLT (by omega) (by omega)).mp q))]
  · rw [wnV_rec hT hs]
    unfold stW
    rw [h0]
    exact foR_inv (P := fun a => a = 0) rfl _ (fun i a hi ha => by
      show (if _ then _ else _) = 0
      rw [Nat.zero_testBit, if_neg (by decide)]; exact ha)
  · obtain ⟨x, hx8, hx⟩ := bit_ex _ (chN_lt hT dy h s w) h0
    obtain ⟨v, hv⟩ := jF_some (th := fun x => 1 - wnV T dy h (s ||| 2 ^ x) x) (jn := fun u v => if v < u then u else v) (chN_bit hT hx).1 hx
    have hmx := jF_max (chN T dy h s w) (fun x => 1 - wnV T dy h (s ||| 2 ^ x) x) (nrT T)
    rw [hv] at hmx
    have hk : wnV T dy h s w = v := (wnV_rec hT hs).trans hmx.symm
    show jF (chN T dy h s w) (fun x => 1 - wnV T dy h (s ||| 2 ^ x) x) (fun u v => if v < u then u else v) (nrT T) = some (wnV T dy h s w)
    rw [hv, hk]

def stF (T : TD) (dy h : Nat) (f : Nat → Nat) (s w : Nat) : Nat := foR (fun x a => if (chN T dy h s w).testBit x then (if a < f x + rkT T x then f x + rkT T x else a) else a) 0 (nrT T)
def fmV (T : TD) (dy h s w : Nat) : Nat := valV (stF T dy h) 0 s w
theorem stF_cong (T : TD) (dy h : Nat) : ∀ f g s w, (∀ x, (chN T dy h s w).testBit x = true → f x = g x) → stF T dy h f s w = stF T dy h g s w := by
  intro f g s w hfg
  unfold stF
  apply foR_congr
  intro x a hx
  by_cases hb : (chN T dy h s w).testBit x = true
  · rw [hfg x hb]
  · rw [if_neg hb, if_neg hb]
theorem fmV_rec {T : TD} (hT : wfT T) {dy h s w : Nat} (hs : s < 256) : fmV T dy h s w = stF T dy h (fun x => fmV T dy h (s ||| 2 ^ x) x) s w := valV_rec (stF_cong T dy h) (ch_dom hT dy h) hs
theorem stF_le {T : TD} (hT : wfT T) (dy h : Nat) {f : Nat → Nat} {m n : Nat} (hn : n ≤ nrT T) (hf : ∀ x, f x ≤ m) (s w : Nat) : foR (fun x a => if (chN T dy h s w).testBit x then (if a < f x + rkT T x then f x + rkT T x else a) else a) 0 n ≤ m + 9 := by
  refine foR_inv (P := fun a => a ≤ m + 9) (Nat.zero_le _) n (fun i a hi ha => ?_)
  have h1 := hf i
  have h2 := (hT.2.2.1 i (by omega)).2.1
  show (if _ then _ else _) ≤ m + 9
  by_cases hb : (chN T dy h s w).testBit i = true
  · rw [if_pos hb]
    split <;> omega
  · rw [if_neg hb]; exact ha
theorem tabF_le {T : TD} (hT : wfT T) (dy h : Nat) : ∀ n s w, tabV (stF T dy h) 0 n s w ≤ 9 * n
  | 0, _, _ => Nat.le_refl _
  | n + 1, s, w => stF_le hT dy h (Nat.le_refl _) (fun x => tabF_le hT dy h n (s ||| 2 ^ x) x) s w
theorem fmV_le {T : TD} (hT : wfT T) (dy h s w : Nat) : fmV T dy h s w ≤ 81 := Nat.le_trans (tabF_le hT dy h _ s w) (by omega)
theorem i2l9 : ∀ r, r ≤ 9 → (nI r).toInt64 = lN r := by decide +kernel
theorem ms_fame {T : TD} {dy h w0 : Nat} {I : zk_I} {J : zk_J} {tb : Nat} (hT : wfT T) (hB : begC T dy h w0 I) : msOK T h (fun s w => lN (fmV T dy h s w)) I J 5 tb := by
  have hnr := hT.1
  have key : ∀ s w, s < 256 → fmV T dy h s w = (jF (chN T dy h s w) (fun x => fmV T dy h (s ||| 2 ^ x) x + rkT T x) (fun u v => if v < u then u else v) (nrT T)).getD 0 := by
    intro s w hs
    rw [jF_max, fmV_rec hT hs]
    rfl
  refine ms_gen (val := fmV T dy h) (tf := fun x v => v + rkT T x) (jn := fun u v => if v < u then u else v) hT hB (by decide) (by decide) (by decide) (by decide) (fun s x hs hx => ?_) (fun s w n v hs hn hv => ?_) (fun s x u hs hx hu => ?_) (fun s w hs h0 => ?_) (fun s w hs h0 => ?_)
  · have hrk : I 5 x = nI (rkT T x) := (hB.1.2.2.1 x hx).2.1
    show zk_ck (zk_in (nI x) 8) (some (lN (fmV T dy h (s ||| 2 ^ x) x) + (I 5 (nI x).toNatClampNeg).toInt64)) = _
    rw [zck (zin (show x < 8 by omega) (by decide)), nI_clamp (show x < 2 ^ 31 by omega), hrk, i2l9 _ (hT.2.2.1 x hx).2.1, lN_add]
  · have hmx := jF_max (chN T dy h s w) (fun x => fmV T dy h (s ||| 2 ^ x) x + rkT T x) n
    rw [hv] at hmx
    have := stF_le hT dy h hn (f := fun x => fmV T dy h (s ||| 2 ^ x) x) (m := 81) (fun x => fmV_le hT dy h _ _) s w
    have hmx : v = _ := hmx
    omega
  · have h1 := fmV_le hT dy h (s ||| 2 ^ x) x
    have h2 := (hT.2.2.1 x hx).2.1
    show (if lN (fmV T dy h (s ||| 2 ^ x) x + rkT T x) < lN u then lN u else lN (fmV T dy h (s ||| 2 ^ x) x + rkT T x)) = lN (if fmV T dy h (s ||| 2 ^ x) x + rkT T x < u then u else fmV T dy h (s ||| 2 ^ x) x + rkT T x)
    by_cases hlt : fmV T dy h (s ||| 2 ^ x) x + rkT T x < u
    · rw [if_pos hlt, if_pos ((pk_lLT (by omega) (by omega)).mpr hlt)]
    · rw [if_neg hlt, if_neg (fun q => hlt ((pk_lLT (by omega) (by omega)).mp q))]
  · rw [fmV_rec hT hs]
    unfold stF
    rw [h0]
    exact foR_inv (P := fun a => a = 0) rfl _ (fun i a hi ha => by
      show (if _ then _ else _) = 0
      rw [Nat.zero_testBit, if_neg (by decide)]; exact ha)
  · obtain ⟨x, hx8, hx⟩ := bit_ex _ (chN_lt hT dy h s w) h0
    obtain ⟨v, hv⟩ := jF_some (th := fun x => fmV T dy h (s ||| 2 ^ x) x + rkT T x) (jn := fun u v => if v < u then u else v) (chN_bit hT hx).1 hx
    have hk := key s w hs
    rw [hv] at hk
    show jF (chN T dy h s w) (fun x => fmV T dy h (s ||| 2 ^ x) x + rkT T x) (fun u v => if v < u then u else v) (nrT T) = some (fmV T dy h s w)
    rw [hv, hk]
    rfl

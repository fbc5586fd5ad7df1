/-! values: how many longest rows; who is in all of them -/
theorem chL_dom {T : TD} (hT : wfT T) (dy h : Nat) : ∀ s w x, s < 256 → (chLN T dy h s w).testBit x = true → x < 8 ∧ s.testBit x = false := fun s w x hs hx => ch_dom hT dy h s w x hs ((chLN_bit hT).mp hx).1
def stY (T : TD) (dy h : Nat) (f : Nat → Nat) (s w : Nat) : Nat := (jF (chLN T dy h s w) f (fun u v => u + v) 8).getD 1
def wyV (T : TD) (dy h s w : Nat) : Nat := valV (stY T dy h) 0 s w
theorem stY_cong (T : TD) (dy h : Nat) : ∀ f g s w, (∀ x, (chLN T dy h s w).testBit x = true → f x = g x) → stY T dy h f s w = stY T dy h g s w := by
  intro f g s w hfg
  unfold stY
  rw [jF_congr hfg]
theorem wyV_rec {T : TD} (hT : wfT T) {dy h s w : Nat} (hs : s < 256) : wyV T dy h s w = stY T dy h (fun x => wyV T dy h (s ||| 2 ^ x) x) s w := valV_rec (stY_cong T dy h) (chL_dom hT dy h) hs
theorem jF_sum_le {c : Nat} {th : Nat → Nat} {M : Nat} (hM : ∀ x, th x ≤ M) (n v : Nat) (hv : jF c th (fun u v => u + v) n = some v) : v ≤ n * M := by
  refine jF_inv (P := fun n v => v ≤ n * M) (fun x _ n hn => ?_) (fun x u _ hu => ?_) (fun n v hv => ?_) n v hv
  · have := hM x
    have : 1 * M ≤ n * M := Nat.mul_le_mul_right M (by omega)
    omega
  · have := hM x
    have e : (x + 1) * M = x * M + M := Nat.succ_mul x M
    show u + th x ≤ (x + 1) * M
    omega
  · have e : (n + 1) * M = n * M + M := Nat.succ_mul n M
    omega
theorem stY_le (T : TD) (dy h : Nat) {f : Nat → Nat} {m : Nat} (hm : 1 ≤ m) (hf : ∀ x, f x ≤ m) (s w : Nat) : stY T dy h f s w ≤ 8 * m := by
  unfold stY
  cases hj : jF (chLN T dy h s w) f (fun u v => u + v) 8 with
  | none => show 1 ≤ 8 * m; omega
  | some v => exact jF_sum_le hf 8 v hj
theorem tabY_le (T : TD) (dy h : Nat) : ∀ n s w, tabV (stY T dy h) 0 n s w ≤ 8 ^ n
  | 0, _, _ => Nat.zero_le _
  | n + 1, s, w => by
    have := stY_le T dy h (f := fun x => tabV (stY T dy h) 0 n (s ||| 2 ^ x) x) (Nat.one_le_pow n 8 (by decide)) (fun x => tabY_le T dy h n (s ||| 2 ^ x) x) s w
    rw [Nat.pow_succ, Nat.mul_comm]
    exact this
theorem wyV_le (T : TD) (dy h s w : Nat) : wyV T dy h s w ≤ 8 ^ 9 := Nat.le_trans (tabY_le T dy h _ s w) (Nat.pow_le_pow_right (by decide) (by omega))
theorem ms_ways {T : TD} {dy h w0 : Nat} {I : zk_I} {J : zk_J} {tb : Nat} (hT : wfT T) (hB : begC T dy h w0 I) (htb : tb ≠ 68) (hf : flD T h (fun s w => lN (lgV T dy h s w)) J 68 h) : msOK T h (fun s w => lN (wyV T dy h s w)) I J 1 tb := by
  intro J' s w hs hsub hw hsw ho hfl
  have hpw := pow_le8 hT.1
  have hf' : flD T h (fun s w => lN (lgV T dy h s w)) J' 68 h := by
    intro s' w' a b c d e
    rw [ho 68 (Ne.symm htb)]
    exact hf s' w' a b c d e
  have hbits : ∀ i, (chLN T dy h s w).testBit i = true → i < nrT T := fun i q => (chN_bit hT ((chLN_bit hT).mp q).1).1
  rw [x_msL (th := fun x => wyV T dy h (s ||| 2 ^ x) x) (jn := fun u v => u + v) hT hB hs hsub hw hsw hf' (Or.inl rfl) (fun x hx hb => ?_) (fun n v hn hv => ?_) (fun x u hx hb hu => ?_)]
  · rw [if_pos rfl]
    show some (lN _) = some (lN (wyV T dy h s w))
    rw [wyV_rec hT (dy := dy) (h := h) (w := w) (show s < 256 by omega)]
    unfold stY
    rw [jF_out8 hT.1 hbits]
  · rw [flD_behind hT hfl hs hsub ((chLN_bit hT).mp hb).1]
    rfl
  · have := jF_sum_le (M := 8 ^ 9) (fun x => wyV_le T dy h _ _) n v hv
    have h8 := hT.1
    have : n * 8 ^ 9 ≤ 8 * 8 ^ 9 := Nat.mul_le_mul_right _ (by omega)
    have : 8 * 8 ^ 9 < 2 ^ 62 := by decide
    omega
  · show lN u + lN (wyV T dy h (s ||| 2 ^ x) x) = _
    rw [lN_add]
def stE (T : TD) (dy h : Nat) (f : Nat → Nat) (s w : Nat) : Nat := (jF (chLN T dy h s w) (fun x => f x ||| 2 ^ x) (fun u v => u &&& v) 8).getD 0
def alV (T : TD) (dy h s w : Nat) : Nat := valV (stE T dy h) 0 s w
theorem stE_cong (T : TD) (dy h : Nat) : ∀ f g s w, (∀ x, (chLN T dy h s w).testBit x = true → f x = g x) → stE T dy h f s w = stE T dy h g s w := by
  intro f g s w hfg
  unfold stE
  rw [jF_congr (fun x hx => by rw [hfg x hx])]
theorem alV_rec {T : TD} (hT : wfT T) {dy h s w : Nat} (hs : s < 256) : alV T dy h s w = stE T dy h (fun x => alV T dy h (s ||| 2 ^ x) x) s w := valV_rec (stE_cong T dy h) (chL_dom hT dy h) hs
theorem jF_and_lt {c : Nat} (hc : c < 256) {th : Nat → Nat} (ht : ∀ x, x < 8 → th x < 256) (n v : Nat) (hv : jF c th (fun u v => u &&& v) n = some v) : v < 256 := by
  refine jF_inv (P := fun n v => v < 256) (fun x hx n hn => ht x (bit_lt8 hc hx)) (fun x u hx hu => ?_) (fun n v hv => hv) n v hv
  exact and_lt hu
theorem stE_lt (T : TD) (dy h : Nat) {f : Nat → Nat} (hf : ∀ x, f x < 256) (s w : Nat) : stE T dy h f s w < 256 := by
  unfold stE
  cases hj : jF (chLN T dy h s w) (fun x => f x ||| 2 ^ x) (fun u v => u &&& v) 8 with
  | none => exact (by decide : 0 < 256)
  | some v => exact jF_and_lt (chLN_lt T dy h s w) (fun x hx => or_lt (hf x) (p2_lt8 hx)) 8 v hj
theorem tabE_lt (T : TD) (dy h : Nat) : ∀ n s w, tabV (stE T dy h) 0 n s w < 256
  | 0, _, _ => (by decide : 0 < 256)
  | n + 1, s, w => stE_lt T dy h (fun x => tabE_lt T dy h n (s ||| 2 ^ x) x) s w
theorem alV_lt (T : TD) (dy h s w : Nat) : alV T dy h s w < 256 := tabE_lt T dy h _ s w
theorem ms_all {T : TD} {dy h w0 : Nat} {I : zk_I} {J : zk_J} {tb : Nat} (hT : wfT T) (hB : begC T dy h w0 I) (htb : tb ≠ 68) (hf : flD T h (fun s w => lN (lgV T dy h s w)) J 68 h) : msOK T h (fun s w => lN (alV T dy h s w)) I J 4 tb := by
  intro J' s w hs hsub hw hsw ho hfl
  have hpw := pow_le8 hT.1
  have h8 := hT.1
  have hf' : flD T h (fun s w => lN (lgV T dy h s w)) J' 68 h := by
    intro s' w' a b c d e
    rw [ho 68 (Ne.symm htb)]
    exact hf s' w' a b c d e
  have hbits : ∀ i, (chLN T dy h s w).testBit i = true → i < nrT T := fun i q => (chN_bit hT ((chLN_bit hT).mp q).1).1
  rw [x_msL (th := fun x => alV T dy h (s ||| 2 ^ x) x ||| 2 ^ x) (jn := fun u v => u &&& v) hT hB hs hsub hw hsw hf' (Or.inr rfl) (fun x hx hb => ?_) (fun n v hn hv => ?_) (fun x u hx hb hu => ?_)]
  · rw [if_neg (by decide)]
    show some (lN _) = some (lN (alV T dy h s w))
    rw [alV_rec hT (dy := dy) (h := h) (w := w) (show s < 256 by omega)]
    unfold stE
    rw [jF_out8 hT.1 hbits]
  · rw [flD_behind hT hfl hs hsub ((chLN_bit hT).mp hb).1]
    show some (lN (alV T dy h (s ||| 2 ^ x) x) ||| ((1 : Int64) <<< ((nI x).toInt64 &&& 63))) = _
    rw [lb_shl1 x (by omega), lb_or]
  · have := jF_and_lt (chLN_lt T dy h s w) (fun x hx => or_lt (alV_lt T dy h (s ||| 2 ^ x) x) (p2_lt8 hx)) n v hv
    omega
  · exact lb_and _ _
theorem x_foreL {T : TD} {D : DD} {I : zk_I} {J : zk_J} {b : Nat} {a3 : Int32} {V : Nat → Nat → Int64} (hT : wfT T) (hD : wfD T D) (hr : repC T I 3) (hd : repDC T D I 16) (hb : b < nbT T) (h14 : a3 = (1 : Int32) ∨ a3 = (4 : Int32)) (hM : ∀ I1 J1, begC T (dyD D) (haD D b) (hoD D b) I1 → flD T (haD D b) (fun s w => lN (lgV T (dyD D) (haD D b) s w)) J1 68 (haD D b) → msOK T (haD D b) V I1 J1 a3 69) : ∃ I1 J1, f_X3_foretell I J (nI b) a3 = some (V (haD D b) (hoD D b), I1, J1) ∧ (∀ c, ¬ (63 ≤ c ∧ c ≤ 66) → I1 c = I c) := by
  obtain ⟨I1, b1, b2, b3, b4⟩ := x_beginR hT hD hr hd hb
  obtain ⟨w1, w2, w3, -⟩ := hD.2 b hb
  have hnr := hT.1
  have hpw := pow_le8 hnr
  have hh : 1 ≤ haD D b := by
    by_cases h0 : haD D b = 0
    · rw [h0, Nat.zero_testBit] at w3; cases w3
    · omega
  obtain ⟨J1, f1, f2, f3⟩ := x_fillR hT b2 hh w2 (ms_most (J := J) (tb := 68) hT b2)
  obtain ⟨J2, g1, g2, g3⟩ := x_fillR hT b2 hh w2 (hM I1 J1 b2 f3)
  refine ⟨I1, J2, ?_, b3⟩
  have est : f_X3_stateOf (nI (haD D b)) (nI (hoD D b)) = nI (8 * haD D b + hoD D b) := by
    unfold f_X3_stateOf
    rw [xlit 8, pk_mul, nI_add, Nat.mul_comm]
  have hv : J2 69 (8 * haD D b + hoD D b) = V (haD D b) (hoD D b) := g3 _ _ (Nat.le_refl _) w2 (Nat.and_self _) w1 w3
  have hif : ∀ (A B : Option (Int64 × zk_I × zk_J)), (if a3 = (1 : Int32) then A else if a3 = (4 : Int32) then A else B) = A := by
    intro A B
    rcases h14 with h1 | h1
    · rw [if_pos h1]
    · by_cases h2 : a3 = (1 : Int32)
      · rw [if_pos h2]
      · rw [if_neg h2, if_pos h1]
  have h0 : ¬ a3 = 0 := by rcases h14 with h1 | h1 <;> subst h1 <;> decide
  unfold f_X3_foretell
  rw [b1, zbd1, zjp1, zjp0, hif, f1, zbd1]
  dsimp only
  rw [zjp1, if_neg h0]
  dsimp only
  rw [zck (show z_isB 69 = true by decide), g1, zbd1, b2.2.1, b2.2.2.1, zlt, est, zck (zin (show 8 * haD D b + hoD D b < 2048 by omega) (by decide)), nI_clamp (show 8 * haD D b + hoD D b < 2 ^ 31 by omega), hv]

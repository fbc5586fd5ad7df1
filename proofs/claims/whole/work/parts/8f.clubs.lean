/-! clubs: the class -/
def cbS (T : TD) (d f w s : Nat) : Nat := mk (fun x => decide (f < x) && (dif (mayT T w d) s).testBit x) 8
def rgN (T : TD) (d f : Nat) : Nat → Nat → Nat → Nat
  | 0, w, _ => if (mayT T w d).testBit f then 1 else 0
  | m + 1, w, s => smx (cbS T d f w s) (fun x => rgN T d f m x (s ||| 2 ^ x)) 8
theorem cbS_bit {T : TD} (hT : wfT T) {d f w s x : Nat} : (cbS T d f w s).testBit x = true ↔ f < x ∧ x < nrT T ∧ (mayT T w d).testBit x = true ∧ s.testBit x = false := by
  have hnr := hT.1
  unfold cbS
  rw [mk_bit, dif_bit (mayT_lt hT _ _), Bool.and_eq_true, Bool.and_eq_true, Bool.and_eq_true, decide_eq_true_eq, decide_eq_true_eq]
  constructor
  · rintro ⟨h1, h2, h3, h4⟩
    have h5 := h3
    unfold mayT at h5
    rw [mk_bit, Bool.and_eq_true, decide_eq_true_eq] at h5
    exact ⟨h2, h5.1, h3, by simpa using h4⟩
  · rintro ⟨h1, h2, h3, h4⟩
    exact ⟨by omega, h1, h3, by rw [h4]; rfl⟩
theorem cbS_lt (T : TD) (d f w s : Nat) : cbS T d f w s < 256 := mk_lt8 _ (by decide)
theorem smx_low {M : Nat} {f : Nat → Nat} : ∀ {n : Nat}, (∀ x, x < n → M.testBit x = false) → smx M f n = 0
  | 0, _ => rfl
  | n + 1, h => by
    rw [smx_s, h n (by omega), if_neg (by decide), smx_low (fun x hx => h x (by omega))]
theorem smx_hi {M : Nat} {f : Nat → Nat} {n : Nat} (h : ∀ x, M.testBit x = true → x < n) : ∀ k, smx M f (n + k) = smx M f n
  | 0 => rfl
  | k + 1 => by
    show smx M f ((n + k) + 1) = _
    have hb : M.testBit (n + k) = false := by
      cases hq : M.testBit (n + k)
      · rfl
      · have := h _ hq; omega
    rw [smx_s, hb, if_neg (by decide), smx_hi h k]
theorem x_rt35 {T : TD} {I : zk_I} {F : Int32 → Int32 → Int32 → Int32 → Option Int32} {d f w s free m : Nat} (hT : wfT T) (hf : f < nrT T) (hfr : free < 256) (hs : s < 256) (hfree : ∀ x, x < 8 → free.testBit x = ((hereM T d).testBit x && (!s.testBit x || decide (x = f)))) (hF : ∀ x, (cbS T d f w s).testBit x = true → F (nI f) (nI x) (nI (dif free (2 ^ x))) (nI m) = some (nI (rgN T d f m x (s ||| 2 ^ x)))) : l_X3_ringsThrough_35 I F (nI f) (nI free) (nI (m + 1)) (nI (likedT T w &&& free)) (fun z => some z) 3000 0 (nI (f + 1)) = some (nI (rgN T d f (m + 1) w s)) := by
  have hnr := hT.1
  have hch : likedT T w &&& free < 256 := and_lt (mk_lt8 _ hnr)
  have hbit : ∀ x, f < x → x < 8 → (likedT T w &&& free).testBit x = (cbS T d f w s).testBit x := by
    intro x h1 h2
    have hne : ¬ x = f := by omega
    have hm : (mayT T w d).testBit x = ((likedT T w).testBit x && (hereM T d).testBit x) := by rw [← may_eq, Nat.testBit_and]
    rw [Nat.testBit_and, hfree x (by omega), decide_eq_false hne, Bool.or_false]
    unfold cbS
    rw [mk_bit, dif_bit (mayT_lt hT _ _), hm, decide_eq_true (show x < 8 by omega), decide_eq_true h1, Bool.true_and, Bool.true_and, Bool.and_assoc]
  have key := zl_up (fun n i (a : Int32) => l_X3_ringsThrough_35 I F (nI f) (nI free) (nI (m + 1)) (nI (likedT T w &&& free)) (fun z => some z) n a (nI (f + 1 + i))) (fun a => some a) (fun i => nI (smx (cbS T d f w s) (fun x => rgN T d f m x (s ||| 2 ^ x)) (f + 1 + i))) (8 - (f + 1)) (fun n => ?_) (fun n i hi => ?_) 3000 0 (by omega) (by omega)
  · have e0 : smx (cbS T d f w s) (fun x => rgN T d f m x (s ||| 2 ^ x)) (f + 1 + 0) = 0 := smx_low (fun x hx => by
      cases hq : (cbS T d f w s).testBit x
      · rfl
      · have := ((cbS_bit hT).mp hq).1; omega)
    rw [e0, show f + 1 + (8 - (f + 1)) = 8 by omega] at key
    rw [rgN]
    exact key
  · have hc : (8 : Int32) ≤ nI (f + 1 + (8 - (f + 1))) := nI_le (a := 8) (by omega) (by omega)
    rw [l_X3_ringsThrough_35, if_pos hc]
  · have hc : ¬ (8 : Int32) ≤ nI (f + 1 + i) := nI_ge (b := 8) (by omega) (by omega)
    rw [l_X3_ringsThrough_35, if_neg hc, x_hasBit (by omega) (by omega), zlt, zjp1, q01, nI_1, hbit _ (by omega) (by omega), show f + 1 + (i + 1) = (f + 1 + i) + 1 by omega, smx_s]
    cases hb : (cbS T d f w s).testBit (f + 1 + i)
    · rw [if_neg (by decide), if_neg (by decide)]
    · have ed : nI free &&& ((1 : Int32) <<< (nI (f + 1 + i) &&& 31) ^^^ (-1 : Int32)) = nI (dif free (2 ^ (f + 1 + i))) := by
        rw [sh1 (by omega)]
        exact xb_dif hfr
      have em : nI (m + 1) - (1 : Int32) = nI m := nI_sm1 m
      rw [if_pos rfl, if_pos rfl, ed, em, hF _ hb, zbd1, nI_add]
theorem x_rt {T : TD} {I : zk_I} {d f : Nat} (hT : wfT T) (hr : repC T I 3) (h64 : ∀ r, r < nrT T → I 64 r = nI (likedT T r)) (hf : f < nrT T) : ∀ m n w s free, m < n → m < 100 → w < nrT T → free < 256 → s < 256 → s.testBit f = true → (∀ x, x < 8 → free.testBit x = ((hereM T d).testBit x && (!s.testBit x || decide (x = f)))) → f_X3_ringsThrough I n (nI f) (nI w) (nI free) (nI m) = some (nI (rgN T d f m w s)) := by
  have hnr := hT.1
  intro m
  induction m with
  | zero =>
    intro n w s free hn h100 hw hfr hs hsf hfree
    obtain ⟨n, rfl⟩ : ∃ k, n = k + 1 := ⟨n - 1, by omega⟩
    have hch : likedT T w &&& free < 256 := and_lt (mk_lt8 _ hnr)
    have hb : (likedT T w &&& free).testBit f = (mayT T w d).testBit f := by
      rw [Nat.testBit_and, hfree f (by omega), decide_eq_true rfl, Bool.or_true, Bool.and_true, ← Nat.testBit_and, may_eq]
    rw [f_X3_ringsThrough]
    unfold fb_X3_ringsThrough
    rw [zck (zin (show w < 8 by omega) (by decide)), nI_clamp (by omega), h64 w hw, xb_and, zlt, if_neg (show ¬ (0 : Int32) < nI 0 by decide), x_hasBit (by omega) (by omega), zlt, q01, hb, rgN]
    cases (mayT T w d).testBit f
    · rfl
    · rfl
  | succ m ih =>
    intro n w s free hn h100 hw hfr hs hsf hfree
    obtain ⟨n, rfl⟩ : ∃ k, n = k + 1 := ⟨n - 1, by omega⟩
    rw [f_X3_ringsThrough]
    unfold fb_X3_ringsThrough
    rw [zck (zin (show w < 8 by omega) (by decide)), nI_clamp (by omega), h64 w hw, xb_and, zlt, if_pos (show (0 : Int32) < nI (m + 1) from nI_lt (a := 0) (by omega) (by omega)), nI_1]
    refine x_rt35 hT hf hfr hs hfree (fun x hx => ?_)
    obtain ⟨c1, c2, c3, c4⟩ := (cbS_bit hT).mp hx
    refine ih n x (s ||| 2 ^ x) (dif free (2 ^ x)) (by omega) (by omega) c2 (dif_lt hfr) (or_lt hs (p2_lt8 (by omega))) (by rw [Nat.testBit_or, hsf, Bool.true_or]) (fun y hy => ?_)
    rw [dif_bit hfr, hfree y hy, Nat.testBit_or, Nat.testBit_two_pow]
    by_cases he : x = y
    · subst he
      have hne : ¬ x = f := by omega
      rw [decide_eq_true rfl, decide_eq_false hne]
      simp
    · rw [decide_eq_false he]
      simp
def cbR (T : TD) (d k n : Nat) : Nat := sm (fun f => rgN T d f (k - 1) f (2 ^ f)) n
theorem x_ringsOf {T : TD} {I : zk_I} {d k : Nat} (hT : wfT T) (hr : repC T I 3) (hd : d < 2 ^ 30) (hk : 2 ≤ k) (hk6 : k ≤ 6) : f_X3_ringsOf I (nI d) (nI k) = some (nI (cbR T d k (nrT T)), lkI T I (nrT T)) := by
  have hnr := hT.1
  have hl : ∀ c, c ≠ 64 → lkI T I (nrT T) c = I c := fun c hc => zk_sc_n _ _ hc
  have hr' : repC T (lkI T I (nrT T)) 3 := hr.fr (fun c h1 h2 => hl c (by omega))
  have h64 : ∀ r, r < nrT T → lkI T I (nrT T) 64 r = nI (likedT T r) := fun r hr => by unfold lkI; rw [zk_sc_s, if_pos hr]
  unfold f_X3_ringsOf
  rw [x_findLiked hT hr, zbd1, x_still hT hr' hd, zbd1]
  generalize lkI T I (nrT T) = I2 at hl hr' h64
  have key := zl_up (fun n i (a : Int32) => l_X3_ringsOf_19 I2 (nI k) (nI (hereM T d)) (fun (z8 : Int32) => some (z8, I2)) n a (nI i)) (fun a => some (a, I2)) (fun i => nI (cbR T d k i)) (nrT T) (fun n => ?_) (fun n i hi => ?_) 3000 0 (by omega) (by omega)
  · exact key
  · rw [l_X3_ringsOf_19, hr'.1, if_pos (nI_le (Nat.le_refl _) (by omega))]
  · have ek : nI k - (1 : Int32) = nI (k - 1) := by rw [xlit 1, nI_sub (by omega)]
    have hrt := x_rt (d := d) hT hr' h64 hi (k - 1) 8 i (2 ^ i) (hereM T d) (by omega) (by omega) hi (hereM_lt hT d) (p2_lt8 (by omega)) Nat.testBit_two_pow_self (fun x hx => by
      rw [Nat.testBit_two_pow]
      by_cases he : i = x
      · rw [decide_eq_true he, decide_eq_true he.symm]; simp
      · rw [decide_eq_false he]; simp)
    rw [l_X3_ringsOf_19, hr'.1, if_neg (nI_ge hi (by omega)), ek, hrt, zbd1, nI_add, nI_1]
    rfl

/-! what is foretold: how the class begins -/
def lkI (T : TD) (I : zk_I) (i : Nat) : zk_I := zk_sc I 64 (fun j => if j < i then nI (likedT T j) else I 64 j)
theorem x_findLiked {T : TD} {I : zk_I} (hT : wfT T) (hr : repC T I 3) : f_X3_findLiked I = some (lkI T I (nrT T)) := by
  have hnr := hT.1
  unfold f_X3_findLiked
  have h0 : I = lkI T I 0 := by
    unfold lkI
    funext c
    by_cases hc : c = 64
    · subst hc
      rw [zk_sc_s]
      funext j
      rw [if_neg (by omega)]
    · rw [zk_sc_n _ _ hc]
  have hr1 : ∀ i, repC T (lkI T I i) 3 := fun i => hr.fr (fun c h1 h2 => zk_sc_n _ _ (by omega))
  have key := zl_up (fun n i (s : zk_I) => l_X3_findLiked_2 (fun (I6 : zk_I) => some I6) n (nI i) s) (fun s => some s) (fun i => lkI T I i) (nrT T) (fun n => ?_) (fun n i hi => ?_) 3000 0 (by omega) (by omega)
  · rw [← h0] at key
    exact key
  · simp only [l_X3_findLiked_2]
    rw [(hr1 _).1, if_pos (nI_le (Nat.le_refl _) (by omega))]
  · simp only [l_X3_findLiked_2]
    rw [(hr1 _).1, if_neg (nI_ge hi (by omega)), x_liked hT (hr1 i) hi, zbd1, zck (zin (show i < 8 by omega) (by decide)), nI_clamp (show i < 2 ^ 31 by omega), zlt, nI_1]
    have e : zk_sc (lkI T I i) 64 (upd (lkI T I i 64) i (nI (likedT T i))) = lkI T I (i + 1) := by
      unfold lkI
      rw [sc_sc, zk_sc_s, up_if _ (fun j => nI (likedT T j)) _ rfl]
    rw [e]
def hrI (T : TD) (dy : Nat) (I : zk_I) (i : Nat) : zk_I := zk_sc I 65 (fun j => if j < i then nI (hereM T (dy + j)) else I 65 j)
theorem x_begin26 {T : TD} {I : zk_I} {dy : Nat} (hT : wfT T) (hr : repC T I 3) (hd : I 16 0 = nI dy) (h9 : dy ≤ 999) (K : zk_I → Option zk_I) : l_X3_begin_26 K 3000 0 I = K (hrI T dy I 8) := by
  have h0 : I = hrI T dy I 0 := by
    unfold hrI
    funext c
    by_cases hc : c = 65
    · subst hc
      rw [zk_sc_s]
      funext j
      rw [if_neg (by omega)]
    · rw [zk_sc_n _ _ hc]
  have hr1 : ∀ i, repC T (hrI T dy I i) 3 := fun i => hr.fr (fun c h1 h2 => zk_sc_n _ _ (by omega))
  have hd1 : ∀ i, hrI T dy I i 16 0 = nI dy := fun i => by unfold hrI; rw [zk_sc_n _ _ (by decide)]; exact hd
  have key := zl_up (fun n i (s : zk_I) => l_X3_begin_26 K n (nI i) s) K (fun i => hrI T dy I i) 8 (fun n => ?_) (fun n i hi => ?_) 3000 0 (by omega) (by omega)
  · rw [← h0] at key
    exact key
  · simp only [l_X3_begin_26]
    have hc : (8 : Int32) ≤ nI 8 := by decide
    rw [if_pos hc]
  · simp only [l_X3_begin_26]
    have hc : ¬ (8 : Int32) ≤ nI i := nI_ge (b := 8) hi (by decide)
    rw [if_neg hc, hd1 i, nI_add, x_still hT (hr1 i) (show dy + i < 2 ^ 30 by omega), zbd1, zck (zin hi (by decide)), nI_clamp (show i < 2 ^ 31 by omega), zlt, nI_1]
    have e : zk_sc (hrI T dy I i) 65 (upd (hrI T dy I i 65) i (nI (hereM T (dy + i)))) = hrI T dy I (i + 1) := by
      unfold hrI
      rw [sc_sc, zk_sc_s, up_if _ (fun j => nI (hereM T (dy + j))) _ rfl]
    rw [e]
/-- who is open behind a set -/
def opnN (T : TD) (dy h s : Nat) : Nat := if s &&& h = h then dif (hereM T (dy + (pc s - pc h))) s else 0
theorem b_le (a b : Bool) (h : a = true → b = true) : (if a = true then 1 else 0) ≤ (if b = true then 1 else 0) := by
  cases a
  · exact Nat.zero_le _
  · rw [h rfl]; exact Nat.le_refl _
theorem sub_bit {s h : Nat} (e : s &&& h = h) (i : Nat) (hi : h.testBit i = true) : s.testBit i = true := by
  rw [← e, Nat.testBit_and, Bool.and_eq_true] at hi
  exact hi.1
theorem pc_mono {s h : Nat} (e : s &&& h = h) : pc h ≤ pc s := by
  have := b_le _ _ (sub_bit e 0)
  have := b_le _ _ (sub_bit e 1)
  have := b_le _ _ (sub_bit e 2)
  have := b_le _ _ (sub_bit e 3)
  have := b_le _ _ (sub_bit e 4)
  have := b_le _ _ (sub_bit e 5)
  have := b_le _ _ (sub_bit e 6)
  have := b_le _ _ (sub_bit e 7)
  unfold pc
  omega
theorem hereM_lt {T : TD} (hT : wfT T) (d : Nat) : hereM T d < 256 := mk_lt8 _ hT.1
theorem pow_le8 {n : Nat} (h : n ≤ 8) : 2 ^ n ≤ 256 := by
  have : 2 ^ n ≤ 2 ^ 8 := Nat.pow_le_pow_right (by decide) h
  simpa using this
theorem x_every {T : TD} {I : zk_I} (hT : wfT T) (hr : repC T I 3) : f_X3_everybody I = nI (2 ^ nrT T - 1) := by
  have hn := hT.1
  have : 1 ≤ 2 ^ nrT T := Nat.one_le_two_pow
  unfold f_X3_everybody
  rw [hr.1, xlit 1, xlit 31, xb_shl1 _ (by omega), nI_sub this]
def opI (T : TD) (dy h : Nat) (I : zk_I) (k : Nat) : zk_I := zk_sc I 66 (fun j => if h ≤ j ∧ j < h + k then nI (opnN T dy h j) else I 66 j)
theorem x_begin62 {T : TD} {I : zk_I} {dy h : Nat} (hT : wfT T) (hr : repC T I 3) (h8 : I 63 8 = nI h) (hh : h < 2 ^ nrT T) (hp : 1 ≤ pc h) (h65 : ∀ k, k < 8 → I 65 k = nI (hereM T (dy + k))) (K : zk_I → Option zk_I) : l_X3_begin_62 K 3000 (nI h) I = K (opI T dy h I (2 ^ nrT T - h)) := by
  have hn := hT.1
  have hpw := pow_le8 hn
  have h0 : I = opI T dy h I 0 := by
    unfold opI
    funext c
    by_cases hc : c = 66
    · subst hc
      rw [zk_sc_s]
      funext j
      rw [if_neg (by omega)]
    · rw [zk_sc_n _ _ hc]
  have ho : ∀ k c, c ≠ 66 → opI T dy h I k c = I c := fun k c hc => zk_sc_n _ _ hc
  have hr1 : ∀ k, repC T (opI T dy h I k) 3 := fun k => hr.fr (fun c h1 h2 => ho k c (by omega))
  have key := zl_up (fun n k (s : zk_I) => l_X3_begin_62 K n (nI (h + k)) s) K (fun k => opI T dy h I k) (2 ^ nrT T - h) (fun n => ?_) (fun n k hk => ?_) 3000 0 (by omega) (by omega)
  · rw [← h0] at key
    exact key
  · rw [l_X3_begin_62, zlt, x_every hT (hr1 _), if_pos (nI_lt (by omega) (by omega))]
  · have hs : h + k < 256 := by omega
    have c1 : ¬ nI (2 ^ nrT T - 1) < nI (h + k) := nI_nlt (by omega) (by omega)
    have e : zk_sc (opI T dy h I k) 66 (upd (opI T dy h I k 66) (h + k) (nI (opnN T dy h (h + k)))) = opI T dy h I (k + 1) := by
      unfold opI
      rw [sc_sc, zk_sc_s]
      congr 1
      funext j
      by_cases hj : j = h + k
      · subst hj; rw [pk_us, if_pos (show h ≤ h + k ∧ h + k < h + (k + 1) by omega)]
      · rw [pk_un hj]
        by_cases h1 : h ≤ j ∧ j < h + k
        · rw [if_pos h1, if_pos (show h ≤ j ∧ j < h + (k + 1) by omega)]
        · rw [if_neg h1, if_neg (show ¬ (h ≤ j ∧ j < h + (k + 1)) by omega)]
    have e8 : opI T dy h I k 63 8 = nI h := by rw [ho k 63 (by decide)]; exact h8
    have en : f_X3_namingsTo (opI T dy h I k) (nI (h + k)) = nI (pc (h + k)) - nI (pc h) := by
      unfold f_X3_namingsTo
      rw [e8, zlt, zlt, pc_bits _ hs, pc_bits _ (show h < 256 by omega)]
    rw [l_X3_begin_62, zlt, x_every hT (hr1 _), if_neg c1, zlt, zjp1, zjp0, e8, xb_and, en]
    by_cases hsub : (h + k) &&& h = h
    · have hm := pc_mono hsub
      have h8' := pc_le (h + k)
      have c8 : ¬ (8 : Int32) ≤ nI (pc (h + k) - pc h) := nI_ge (b := 8) (by omega) (by decide)
      have ev : (opI T dy h I k 65 (pc (h + k) - pc h)) &&& (nI (h + k) ^^^ (-1 : Int32)) = nI (opnN T dy h (h + k)) := by
        rw [ho k 65 (by decide), h65 _ (by omega)]
        unfold opnN
        rw [if_pos hsub]
        exact xb_dif (hereM_lt hT _)
      rw [nI_sub hm, hsub, if_pos rfl, if_neg c8]
      dsimp only
      rw [zjp1, if_neg n10, zck (zin (show pc (h + k) - pc h < 8 by omega) (by decide)), nI_clamp (show pc (h + k) - pc h < 2 ^ 31 by omega), ev]
      dsimp only
      rw [zck (zin hs (by decide)), nI_clamp (show h + k < 2 ^ 31 by omega), zlt, e, nI_1]
      rfl
    · have hne : ¬ nI ((h + k) &&& h) = nI h := fun q => hsub (xl_inj (by have := and_lt (b := h) hs; omega) (by omega) q)
      have ev : opnN T dy h (h + k) = 0 := by unfold opnN; rw [if_neg hsub]
      rw [ev] at e
      rw [if_neg hne]
      dsimp only
      rw [zjp1, if_pos rfl]
      dsimp only
      rw [zck (zin hs (by decide)), nI_clamp (show h + k < 2 ^ 31 by omega), zlt, show (0 : Int32) = nI 0 from rfl, e, nI_1]
      rfl

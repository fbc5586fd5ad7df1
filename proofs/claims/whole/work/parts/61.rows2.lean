/-- whom one names behind a set -/
def chN (T : TD) (dy h s w : Nat) : Nat := dif (mayT T w (dy + (pc s - pc h))) s
theorem chN_lt {T : TD} (hT : wfT T) (dy h s w : Nat) : chN T dy h s w < 256 := dif_lt (mayT_lt hT _ _)
def begC (T : TD) (dy h w0 : Nat) (I : zk_I) : Prop := repC T I 3 ∧ I 63 8 = nI h ∧ I 63 9 = nI w0 ∧ (∀ r, r < nrT T → I 64 r = nI (likedT T r)) ∧ ∀ s, h ≤ s → s < 2 ^ nrT T → I 66 s = nI (opnN T dy h s)
theorem x_beginR {T : TD} {D : DD} {I : zk_I} {b : Nat} (hT : wfT T) (hD : wfD T D) (hr : repC T I 3) (hd : repDC T D I 16) (hb : b < nbT T) : ∃ I1, f_X3_begin I (nI b) = some I1 ∧ begC T (dyD D) (haD D b) (hoD D b) I1 ∧ (∀ c, ¬ (63 ≤ c ∧ c ≤ 66) → I1 c = I c) ∧ ∀ q, q ≠ 8 → q ≠ 9 → I1 63 q = I 63 q := by
  have hnb := hT.2.1
  have hnr := hT.1
  obtain ⟨d1, d2, -⟩ := hd.2 b hb
  obtain ⟨w1, w2, w3, -⟩ := hD.2 b hb
  have h9 : dyD D ≤ 999 := hD.1
  have hpc : 1 ≤ pc (haD D b) := pc_pos _ (had_lt hT hD hb) _ (show hoD D b < 8 by omega) w3
  have hr4 : repC T (zk_sc I 63 (upd (upd (I 63) 8 (nI (haD D b))) 9 (nI (hoD D b)))) 3 := hr.fr (fun c h1 h2 => zk_sc_n _ _ (by omega))
  have eb : f_X3_begin I (nI b) = l_X3_begin_26 (fun (I12 : zk_I) => l_X3_begin_62 (fun (I29 : zk_I) => some I29) 3000 (I12 63 8) I12) 3000 (0 : Int32) (lkI T (zk_sc I 63 (upd (upd (I 63) 8 (nI (haD D b))) 9 (nI (hoD D b)))) (nrT T)) := by
    have d1' : I 17 b = nI (hoD D b) := d1
    have d2' : I 18 b = nI (haD D b) := d2
    unfold f_X3_begin
    rw [zck (zin (show b < 4 by omega) (by decide)), nI_clamp (show b < 2 ^ 31 by omega), zlt, zck (zin (show b < 4 by omega) (by decide)), zlt, zk_sc_n _ _ (show ¬ 17 = 63 by decide), zk_sc_s, sc_sc, d1', d2', x_findLiked hT hr4, zbd1]
  generalize hI4 : zk_sc I 63 (upd (upd (I 63) 8 (nI (haD D b))) 9 (nI (hoD D b))) = I4 at hr4 eb
  have f4 : ∀ c, c ≠ 63 → I4 c = I c := fun c hc => by rw [← hI4, zk_sc_n _ _ hc]
  have hl : ∀ c, c ≠ 64 → lkI T I4 (nrT T) c = I4 c := fun c hc => zk_sc_n _ _ hc
  have hr5 : repC T (lkI T I4 (nrT T)) 3 := hr4.fr (fun c h1 h2 => hl c (by omega))
  have hd5 : lkI T I4 (nrT T) 16 0 = nI (dyD D) := by rw [hl 16 (by decide), f4 16 (by decide)]; exact hd.1
  rw [x_begin26 hT hr5 hd5 h9] at eb
  have hh : ∀ c, c ≠ 65 → hrI T (dyD D) (lkI T I4 (nrT T)) 8 c = lkI T I4 (nrT T) c := fun c hc => zk_sc_n _ _ hc
  have hr6 : repC T (hrI T (dyD D) (lkI T I4 (nrT T)) 8) 3 := hr5.fr (fun c h1 h2 => hh c (by omega))
  have e8 : hrI T (dyD D) (lkI T I4 (nrT T)) 8 63 8 = nI (haD D b) := by rw [hh 63 (by decide), hl 63 (by decide), ← hI4, zk_sc_s, pk_un (by decide), pk_us]
  have e9 : hrI T (dyD D) (lkI T I4 (nrT T)) 8 63 9 = nI (hoD D b) := by rw [hh 63 (by decide), hl 63 (by decide), ← hI4, zk_sc_s, pk_us]
  have e65 : ∀ k, k < 8 → hrI T (dyD D) (lkI T I4 (nrT T)) 8 65 k = nI (hereM T (dyD D + k)) := fun k hk => by unfold hrI; rw [zk_sc_s, if_pos hk]
  have e64 : ∀ r, r < nrT T → hrI T (dyD D) (lkI T I4 (nrT T)) 8 64 r = nI (likedT T r) := fun r hr => by rw [hh 64 (by decide)]; unfold lkI; rw [zk_sc_s, if_pos hr]
  have eo : ∀ q, q ≠ 8 → q ≠ 9 → hrI T (dyD D) (lkI T I4 (nrT T)) 8 63 q = I 63 q := fun q h1 h2 => by rw [hh 63 (by decide), hl 63 (by decide), ← hI4, zk_sc_s, pk_un h2, pk_un h1]
  have ec : ∀ c, ¬ (63 ≤ c ∧ c ≤ 66) → hrI T (dyD D) (lkI T I4 (nrT T)) 8 c = I c := fun c hc => by rw [hh c (by omega), hl c (by omega), f4 c (by omega)]
  generalize hrI T (dyD D) (lkI T I4 (nrT T)) 8 = I6 at eb hr6 e8 e9 e65 e64 eo ec
  rw [e8, x_begin62 hT hr6 e8 w2 hpc e65] at eb
  have ho : ∀ k c, c ≠ 66 → opI T (dyD D) (haD D b) I6 k c = I6 c := fun k c hc => zk_sc_n _ _ hc
  refine ⟨_, eb, ⟨hr6.fr (fun c h1 h2 => ho _ c (by omega)), by rw [ho _ 63 (by decide)]; exact e8, by rw [ho _ 63 (by decide)]; exact e9, fun r hr => by rw [ho _ 64 (by decide)]; exact e64 r hr, fun s h1 h2 => ?_⟩, fun c hc => by rw [ho _ c (by omega)]; exact ec c hc, fun q h1 h2 => by rw [ho _ 63 (by decide)]; exact eo q h1 h2⟩
  unfold opI
  rw [zk_sc_s, if_pos (show haD D b ≤ s ∧ s < haD D b + (2 ^ nrT T - haD D b) by omega)]
theorem sub_le {s h : Nat} (e : s &&& h = h) : h ≤ s := by
  have : s &&& h ≤ s := Nat.and_le_left
  omega
theorem x_choices {T : TD} {I : zk_I} {dy h w0 s w : Nat} (hT : wfT T) (hB : begC T dy h w0 I) (hs : s < 2 ^ nrT T) (hsub : s &&& h = h) (hw : w < nrT T) : f_X3_choicesOf I (nI s) (nI w) = some (nI (chN T dy h s w)) := by
  obtain ⟨hr, h8, h9, h64, h66⟩ := hB
  have hnr := hT.1
  have hpw := pow_le8 hnr
  unfold f_X3_choicesOf
  rw [zck (zin (show w < 8 by omega) (by decide)), zck (zin (show s < 256 by omega) (by decide)), nI_clamp (show w < 2 ^ 31 by omega), nI_clamp (show s < 2 ^ 31 by omega), h64 w hw, h66 s (sub_le hsub) hs, xb_and]
  unfold opnN chN
  rw [if_pos hsub, ← may_eq]
  unfold dif
  rw [Nat.and_assoc]
/-- the reference's -/
theorem x8_nexts {T : TD} {D : DD} {I : zk_I} {b s w : Nat} (hT : wfT T) (hD : wfD T D) (hr : repM T I 78) (hd : repDM T D I 80 0) (hb : b < nbT T) (hs : s < 2 ^ nrT T) (hsub : s &&& haD D b = haD D b) (hw : w < nrT T) : f_X8_nexts I (nI b) (nI s) (nI w) = some (nI (chN T (dyD D) (haD D b) s w)) := by
  have hnr := hT.1
  have hnb := hT.2.1
  have hpw := pow_le8 hnr
  have h9 : dyD D ≤ 999 := hD.1
  have hm := pc_mono hsub
  have hp8 := pc_le s
  have d2 := (hd.2.2 b hb).2.1
  rw [Nat.zero_add] at d2
  have e6 : (6 : Int32) + nI b = nI (6 + b) := by rw [xlit 6, nI_add]
  unfold f_X8_nexts
  simp only [e6, zck (zin (show 6 + b < 14 by omega) (by decide)), nI_clamp (show 6 + b < 2 ^ 31 by omega), d2, pc_ones _ (show s < 256 by omega), pc_ones _ (had_lt hT hD hb), zbd1, hd.1, nI_add, nI_sub (show pc (haD D b) ≤ dyD D + pc s by omega), zlt]
  rw [show dyD D + pc s - pc (haD D b) = dyD D + (pc s - pc (haD D b)) by omega, x8_named hT hr hw (by omega)]
  simp only [zbd1]
  exact congrArg some (xb_dif (mayT_lt hT _ _))

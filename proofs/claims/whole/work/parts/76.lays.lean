/-! the reference lays a state -/
def lyI (I : zk_I) (p L R A S C F W : Nat) : zk_I := fun c j => if j = p then (if c = 85 then nI L else if c = 86 then nI R else if c = 87 then nI A else if c = 88 then nI S else if c = 89 then nI C else if c = 90 then nI F else if c = 91 then nI W else I c j) else I c j
theorem ly_n (I : zk_I) {p j : Nat} (L R A S C F W c : Nat) (h : j ≠ p) : lyI I p L R A S C F W c j = I c j := if_neg h
theorem ly_c (I : zk_I) (p L R A S C F W : Nat) {c : Nat} (h : ¬ (85 ≤ c ∧ c ≤ 91)) : lyI I p L R A S C F W c = I c := by
  funext j
  unfold lyI
  have h1 : c ≠ 85 := by omega
  have h2 : c ≠ 86 := by omega
  have h3 : c ≠ 87 := by omega
  have h4 : c ≠ 88 := by omega
  have h5 : c ≠ 89 := by omega
  have h6 : c ≠ 90 := by omega
  have h7 : c ≠ 91 := by omega
  simp [h1, h2, h3, h4, h5, h6, h7]
theorem ly_85 (I : zk_I) (p L R A S C F W : Nat) : lyI I p L R A S C F W 85 p = nI L := by simp [lyI]
theorem ly_86 (I : zk_I) (p L R A S C F W : Nat) : lyI I p L R A S C F W 86 p = nI R := by simp [lyI]
theorem ly_87 (I : zk_I) (p L R A S C F W : Nat) : lyI I p L R A S C F W 87 p = nI A := by simp [lyI]
theorem ly_88 (I : zk_I) (p L R A S C F W : Nat) : lyI I p L R A S C F W 88 p = nI S := by simp [lyI]
theorem ly_89 (I : zk_I) (p L R A S C F W : Nat) : lyI I p L R A S C F W 89 p = nI C := by simp [lyI]
theorem ly_90 (I : zk_I) (p L R A S C F W : Nat) : lyI I p L R A S C F W 90 p = nI F := by simp [lyI]
theorem ly_91 (I : zk_I) (p L R A S C F W : Nat) : lyI I p L R A S C F W 91 p = nI W := by simp [lyI]
theorem ly_s85 (I : zk_I) (p L R A S C F W v : Nat) : zk_sc (lyI I p L R A S C F W) 85 (upd (lyI I p L R A S C F W 85) p (nI v)) = lyI I p v R A S C F W := by
  funext c j
  by_cases hc : c = 85
  · subst hc
    rw [zk_sc_s]
    by_cases hj : j = p
    · subst hj; rw [pk_us, ly_85]
    · rw [pk_un hj, ly_n _ _ _ _ _ _ _ _ _ hj, ly_n _ _ _ _ _ _ _ _ _ hj]
  · rw [zk_sc_n _ _ hc]; simp [lyI, hc]
theorem ly_s86 (I : zk_I) (p L R A S C F W v : Nat) : zk_sc (lyI I p L R A S C F W) 86 (upd (lyI I p L R A S C F W 86) p (nI v)) = lyI I p L v A S C F W := by
  funext c j
  by_cases hc : c = 86
  · subst hc
    rw [zk_sc_s]
    by_cases hj : j = p
    · subst hj; rw [pk_us, ly_86]
    · rw [pk_un hj, ly_n _ _ _ _ _ _ _ _ _ hj, ly_n _ _ _ _ _ _ _ _ _ hj]
  · rw [zk_sc_n _ _ hc]; simp [lyI, hc]
theorem ly_s87 (I : zk_I) (p L R A S C F W v : Nat) : zk_sc (lyI I p L R A S C F W) 87 (upd (lyI I p L R A S C F W 87) p (nI v)) = lyI I p L R v S C F W := by
  funext c j
  by_cases hc : c = 87
  · subst hc
    rw [zk_sc_s]
    by_cases hj : j = p
    · subst hj; rw [pk_us, ly_87]
    · rw [pk_un hj, ly_n _ _ _ _ _ _ _ _ _ hj, ly_n _ _ _ _ _ _ _ _ _ hj]
  · rw [zk_sc_n _ _ hc]; simp [lyI, hc]
theorem ly_s88 (I : zk_I) (p L R A S C F W v : Nat) : zk_sc (lyI I p L R A S C F W) 88 (upd (lyI I p L R A S C F W 88) p (nI v)) = lyI I p L R A v C F W := by
  funext c j
  by_cases hc : c = 88
  · subst hc
    rw [zk_sc_s]
    by_cases hj : j = p
    · subst hj; rw [pk_us, ly_88]
    · rw [pk_un hj, ly_n _ _ _ _ _ _ _ _ _ hj, ly_n _ _ _ _ _ _ _ _ _ hj]
  · rw [zk_sc_n _ _ hc]; simp [lyI, hc]
theorem ly_s89 (I : zk_I) (p L R A S C F W v : Nat) : zk_sc (lyI I p L R A S C F W) 89 (upd (lyI I p L R A S C F W 89) p (nI v)) = lyI I p L R A S v F W := by
  funext c j
  by_cases hc : c = 89
  · subst hc
    rw [zk_sc_s]
    by_cases hj : j = p
    · subst hj; rw [pk_us, ly_89]
    · rw [pk_un hj, ly_n _ _ _ _ _ _ _ _ _ hj, ly_n _ _ _ _ _ _ _ _ _ hj]
  · rw [zk_sc_n _ _ hc]; simp [lyI, hc]
theorem ly_s90 (I : zk_I) (p L R A S C F W v : Nat) : zk_sc (lyI I p L R A S C F W) 90 (upd (lyI I p L R A S C F W 90) p (nI v)) = lyI I p L R A S C v W := by
  funext c j
  by_cases hc : c = 90
  · subst hc
    rw [zk_sc_s]
    by_cases hj : j = p
    · subst hj; rw [pk_us, ly_90]
    · rw [pk_un hj, ly_n _ _ _ _ _ _ _ _ _ hj, ly_n _ _ _ _ _ _ _ _ _ hj]
  · rw [zk_sc_n _ _ hc]; simp [lyI, hc]
theorem ly_s91 (I : zk_I) (p L R A S C F W v : Nat) : zk_sc (lyI I p L R A S C F W) 91 (upd (lyI I p L R A S C F W 91) p (nI v)) = lyI I p L R A S C F v := by
  funext c j
  by_cases hc : c = 91
  · subst hc
    rw [zk_sc_s]
    by_cases hj : j = p
    · subst hj; rw [pk_us, ly_91]
    · rw [pk_un hj, ly_n _ _ _ _ _ _ _ _ _ hj, ly_n _ _ _ _ _ _ _ _ _ hj]
  · rw [zk_sc_n _ _ hc]; simp [lyI, hc]
theorem jp1_to {A0 γ : Type} {F : A0 → γ} {B : (A0 → γ) → γ} {v : A0} (h : ∀ K, B K = K v) : zk_jp1 F B = F v := (zjp1 F B).trans (h F)
theorem x8_lstep {I : zk_I} {p p' s x n may rk L R A S C F W NL NR NA NS NC NF NW : Nat} (K : zk_I → Option zk_I) (hx : x < 8) (hp : p < 2048) (hp' : p' < 2048) (hne : p' ≠ p) (e28 : 8 * (s ||| 2 ^ x) + x = p') (hm : may < 256) (hb : may.testBit x = true) (c1 : I 85 p' = nI NL) (c2 : I 86 p' = nI NR) (c3 : I 87 p' = nI NA) (c4 : I 88 p' = nI NS) (c5 : I 89 p' = nI NC) (c6 : I 90 p' = nI NF) (c7 : I 91 p' = nI NW) (c8 : I 78 (10 + x) = nI rk) (b1 : L < 2 ^ 30) (b2 : NL < 2 ^ 30) (b3 : S < 2 ^ 30) (b4 : NS < 2 ^ 30) (b5 : F < 2 ^ 30) (b6 : NF + rk < 2 ^ 30) (b7 : W ≤ 1) (b8 : NW ≤ 1) :
    l_X8_lays_95 (nI s) (nI p) (nI may) K (n + 1) (nI x) (lyI I p L R A S C F W) = l_X8_lays_95 (nI s) (nI p) (nI may) K n (nI (x + 1)) (lyI I p (if L < NL + 1 then NL + 1 else L) (if L < NL + 1 then NR else if NL + 1 = L then R + NR else R) (if L < NL + 1 then NA ||| 2 ^ x else if NL + 1 = L then A &&& (NA ||| 2 ^ x) else A) (if NS + 1 < S then NS + 1 else S) (C ||| (NC ||| 2 ^ x)) (if F < NF + rk then NF + rk else F) (if W < 1 - NW then 1 - NW else W)) := by
  have hz : ∀ {α : Type} (X : Option α), zk_ck (zk_in (nI p) 2048) X = X := fun X => zck (zin hp (by decide)) X
  have hz' : ∀ {α : Type} (X : Option α), zk_ck (zk_in (nI p') 2048) X = X := fun X => zck (zin hp' (by decide)) X
  have kp : (nI p).toNatClampNeg = p := nI_clamp (by omega)
  have kp' : (nI p').toNatClampNeg = p' := nI_clamp (by omega)
  have e8 : ((8 : Int32) * (nI s ||| ((1 : Int32) <<< (nI x &&& 31)))) + nI x = nI p' := by
    rw [xlit 1, xlit 31, xb_shl1 x (by omega), xb_or, xlit 8, pk_mul, nI_add, e28]
  have hbit : ((nI may >>> (nI x &&& 31)) &&& (1 : Int32)) = (1 : Int32) := by
    rw [xlit 1, xlit 31, xb_bit (show may < 2 ^ 31 by omega) (show x < 32 by omega), hb, if_pos rfl]
  have e1 : (1 : Int32) <<< (nI x &&& 31) = nI (2 ^ x) := by rw [xlit 1, xlit 31, xb_shl1 x (by omega)]
  rw [l_X8_lays_95, if_neg (show ¬ (8 : Int32) ≤ nI x from nI_ge (b := 8) hx (by decide))]
  refine (zjp1 _ _).trans ?_
  rw [if_pos hbit]
  refine (zlt _ _).trans ?_
  rw [e8, kp, kp']
  refine (hz' _).trans ?_
  refine (zlt _ _).trans ?_
  rw [ly_n _ _ _ _ _ _ _ _ 85 hne, c1, nI_1 NL]
  refine (hz' _).trans ?_
  refine (zlt _ _).trans ?_
  rw [ly_n _ _ _ _ _ _ _ _ 87 hne, c3, e1, xb_or]
  refine (hz _).trans ?_
  refine (jp1_to (v := nI (if L < NL + 1 then NA ||| 2 ^ x else if NL + 1 = L then A &&& (NA ||| 2 ^ x) else A)) (fun K' => ?_)).trans ?_
  · rw [ly_85, ly_87]
    rcases Nat.lt_trichotomy L (NL + 1) with hc | hc | hc
    · rw [if_neg (nI_ge hc (by omega)), if_pos hc]
    · rw [if_pos (nI_le (by omega) (by omega)), hz, if_pos (by rw [hc]), hz, if_neg (show ¬ L < NL + 1 by omega), if_pos hc.symm, xb_and]
    · rw [if_pos (nI_le (by omega) (by omega)), hz, if_neg (fun q => by have := (nI_eq (show NL + 1 < 2 ^ 31 by omega) (show L < 2 ^ 31 by omega)).mp q; omega), hz, if_neg (show ¬ L < NL + 1 by omega), if_neg (show ¬ NL + 1 = L by omega)]
  refine (hz _).trans ?_
  refine (zlt _ _).trans ?_
  rw [ly_s87]
  refine (hz _).trans ?_
  refine (jp1_to (v := nI (if L < NL + 1 then NR else if NL + 1 = L then R + NR else R)) (fun K' => ?_)).trans ?_
  · rw [ly_85, ly_86, ly_n _ _ _ _ _ _ _ _ 86 hne, c2]
    rcases Nat.lt_trichotomy L (NL + 1) with hc | hc | hc
    · rw [if_neg (nI_ge hc (by omega)), hz', if_pos hc]
    · rw [if_pos (nI_le (by omega) (by omega)), hz, if_pos (by rw [hc]), hz, hz', if_neg (show ¬ L < NL + 1 by omega), if_pos hc.symm, nI_add]
    · rw [if_pos (nI_le (by omega) (by omega)), hz, if_neg (fun q => by have := (nI_eq (show NL + 1 < 2 ^ 31 by omega) (show L < 2 ^ 31 by omega)).mp q; omega), hz, if_neg (show ¬ L < NL + 1 by omega), if_neg (show ¬ NL + 1 = L by omega)]
  refine (hz _).trans ?_
  refine (zlt _ _).trans ?_
  rw [ly_s86]
  refine (hz _).trans ?_
  refine (jp1_to (v := nI (if L < NL + 1 then NL + 1 else L)) (fun K' => ?_)).trans ?_
  · rw [ly_85]
    by_cases hc : L < NL + 1
    · rw [if_neg (nI_ge hc (by omega)), if_pos hc]
    · rw [if_pos (nI_le (by omega) (by omega)), hz, if_neg hc]
  refine (hz _).trans ?_
  refine (zlt _ _).trans ?_
  rw [ly_s85]
  refine (hz' _).trans ?_
  refine (hz _).trans ?_
  refine (jp1_to (v := nI (if NS + 1 < S then NS + 1 else S)) (fun K' => ?_)).trans ?_
  · rw [ly_88, ly_n _ _ _ _ _ _ _ _ 88 hne, c4, nI_1 NS]
    by_cases hc : NS + 1 < S
    · rw [if_neg (nI_ge hc (by omega)), hz', if_pos hc]
    · rw [if_pos (nI_le (by omega) (by omega)), hz, if_neg hc]
  refine (hz _).trans ?_
  refine (zlt _ _).trans ?_
  rw [ly_s88]
  refine (hz _).trans ?_
  refine (hz' _).trans ?_
  refine (hz _).trans ?_
  refine (zlt _ _).trans ?_
  rw [ly_89, ly_n _ _ _ _ _ _ _ _ 89 hne, c5, xb_or NC, xb_or C, ly_s89]
  refine (hz' _).trans ?_
  rw [show (10 : Int32) + nI x = nI (10 + x) by rw [xlit 10, nI_add]]
  refine (zck (zin (show 10 + x < 38 by omega) (by decide)) _).trans ?_
  refine (zlt _ _).trans ?_
  rw [nI_clamp (show 10 + x < 2 ^ 31 by omega), ly_n _ _ _ _ _ _ _ _ 90 hne, c6, ly_c _ _ _ _ _ _ _ _ _ (show ¬ (85 ≤ 78 ∧ 78 ≤ 91) by decide), c8, nI_add]
  refine (hz _).trans ?_
  refine (jp1_to (v := nI (if F < NF + rk then NF + rk else F)) (fun K' => ?_)).trans ?_
  · rw [ly_90]
    by_cases hc : F < NF + rk
    · rw [if_neg (nI_ge hc (by omega)), if_pos hc]
    · rw [if_pos (nI_le (by omega) (by omega)), hz, if_neg hc]
  refine (hz _).trans ?_
  refine (zlt _ _).trans ?_
  rw [ly_s90]
  refine (hz _).trans ?_
  refine (jp1_to (v := nI (if W < 1 - NW then 1 - NW else W)) (fun K' => ?_)).trans ?_
  · refine (zjp0 _ _).trans ?_
    rw [ly_91, ly_n _ _ _ _ _ _ _ _ 91 hne, c7]
    have hW : W = 0 ∨ W = 1 := by omega
    have hN : NW = 0 ∨ NW = 1 := by omega
    rcases hW with hW | hW <;> rcases hN with hN | hN <;> subst hW <;> subst hN
    · rw [if_pos (show nI 0 = (0 : Int32) from rfl), hz', if_pos (show nI 0 = (0 : Int32) from rfl)]; rfl
    · rw [if_pos (show nI 0 = (0 : Int32) from rfl), hz', if_neg (show ¬ nI 1 = (0 : Int32) by decide)]; rfl
    · rw [if_neg (show ¬ nI 1 = (0 : Int32) by decide)]; rfl
    · rw [if_neg (show ¬ nI 1 = (0 : Int32) by decide)]; rfl
  refine (hz _).trans ?_
  refine (zlt _ _).trans ?_
  have hnar : vp_nar .boolean (nI (if W < 1 - NW then 1 - NW else W)) = nI (if W < 1 - NW then 1 - NW else W) := by
    have : (if W < 1 - NW then 1 - NW else W) = 0 ∨ (if W < 1 - NW then 1 - NW else W) = 1 := by split <;> omega
    rcases this with h | h <;> rw [h]
    · exact nar0
    · exact nar1
  rw [hnar, ly_s91, nI_1 x]

/-! the reference's odds -/
def odM (T : TD) (dy h k : Nat) : Nat := chN T dy h (k / 8) (k % 8)
def odc (T : TD) (dy h k : Nat) : Nat := shN (nrT T - pc (k / 8)) (pc (odM T dy h k))
def odL (T : TD) (p : Nat) : Nat := ltsN (nrT T - pc (p / 8))
def odA (T : TD) (dy h w0 : Nat) (k : Nat) : Nat → Nat := fwA (odM T dy h) (odc T dy h) (fun p => if p = 8 * h + w0 then 217728000 / ltsN (nrT T - pc h) else 0) k
def stP (T : TD) (h w0 p : Nat) : Prop := p / 8 < 2 ^ nrT T ∧ p % 8 < nrT T ∧ isSt h w0 (p / 8) (p % 8) = true
theorem nx_div {k x : Nat} (hx : x < 8) : nxP k x / 8 = k / 8 ||| 2 ^ x := by unfold nxP; omega
theorem nx_mod {k x : Nat} (hx : x < 8) : nxP k x % 8 = x := by unfold nxP; omega
theorem od_go {T : TD} (hT : wfT T) (dy h : Nat) : goM (odM T dy h) := by
  intro k hk x hx
  have hnr := hT.1
  obtain ⟨c1, c2⟩ := chN_bit hT hx
  have h1 := or_gt c2
  have h2 : k / 8 ||| 2 ^ x < 256 := or_lt (by omega) (p2_lt8 (by omega))
  unfold nxP
  omega
theorem isSt_sub {h w0 s r : Nat} (hs : isSt h w0 s r = true) : s &&& h = h ∧ s.testBit r = true := by
  unfold isSt at hs
  rw [Bool.and_eq_true, Bool.and_eq_true, decide_eq_true_eq] at hs
  exact hs.1
theorem st_next {T : TD} (hT : wfT T) {dy h w0 k x : Nat} (hs : stP T h w0 k) (hx : (odM T dy h k).testBit x = true) : stP T h w0 (nxP k x) := by
  have hnr := hT.1
  obtain ⟨c1, c2⟩ := chN_bit hT hx
  unfold stP
  rw [nx_div (by omega), nx_mod (by omega)]
  exact ⟨Nat.or_lt_two_pow hs.1 (Nat.pow_lt_pow_right (by decide) c1), c1, isSt_next hT hs.2.2 hx⟩
theorem st_0 {T : TD} {D : DD} {b : Nat} (hT : wfT T) (hD : wfD T D) (hb : b < nbT T) : stP T (haD D b) (hoD D b) (8 * haD D b + hoD D b) := by
  obtain ⟨w1, w2, w3, -⟩ := hD.2 b hb
  have hnr := hT.1
  unfold stP
  rw [show (8 * haD D b + hoD D b) / 8 = haD D b by omega, show (8 * haD D b + hoD D b) % 8 = hoD D b by omega]
  exact ⟨w2, w1, isSt_0 hD hb⟩
theorem od_sup {T : TD} {D : DD} {b : Nat} (hT : wfT T) (hD : wfD T D) (hb : b < nbT T) {k p : Nat} (hk : k ≤ 2048) (h : odA T (dyD D) (haD D b) (hoD D b) k p ≠ 0) : stP T (haD D b) (hoD D b) p := by
  refine fw_sup (P := stP T (haD D b) (hoD D b)) (fun p h0 => ?_) (fun k x _ hP hx => st_next hT hP hx) k p hk h
  by_cases he : p = 8 * haD D b + hoD D b
  · rw [he]; exact st_0 hT hD hb
  · rw [if_neg he] at h0
    exact absurd rfl h0
theorem st_pc {T : TD} (hT : wfT T) {h w0 k : Nat} (hs : stP T h w0 k) : 1 ≤ pc (k / 8) ∧ pc (k / 8) ≤ nrT T ∧ k / 8 < 256 := by
  have hnr := hT.1
  have hpw := pow_le8 hnr
  have h1 := hs.1
  have h2 := hs.2.1
  refine ⟨pc_pos _ (by omega) _ (show k % 8 < 8 by omega) (isSt_sub hs.2.2).2, pc_le_n hnr hs.1, by omega⟩
/-- what a state hands on in all -/
theorem od_share {T : TD} (hT : wfT T) {dy h w0 k : Nat} (hs : stP T h w0 k) : ∀ x, (odM T dy h k).testBit x = true → odL T (nxP k x) = ltsN (nrT T - pc (k / 8) - 1) ∧ ltsN (nrT T - pc (k / 8) - 1) * (pc (odM T dy h k) * odc T dy h k) = odL T k ∧ 1 ≤ pc (odM T dy h k) ∧ pc (odM T dy h k) ≤ 7 := by
  intro x hx
  have hnr := hT.1
  obtain ⟨p1, p2, p3⟩ := st_pc hT hs
  obtain ⟨c1, c2⟩ := chN_bit hT hx
  have hc1 := pc_pos _ (chN_lt hT _ _ _ _) x (by omega) hx
  have hcl := ch_le hT (dy := dy) (h := h) (w := k % 8) hs.1
  refine ⟨?_, ?_, hc1, ?_⟩
  · unfold odL
    rw [nx_div (by omega), pc_or _ p3 x (by omega) c2, Nat.sub_add_eq]
  · exact LT_sh (nrT T - pc (k / 8)) (by omega) (pc (odM T dy h k)) (by unfold odM; omega) hc1 (by unfold odM; omega)
  · unfold odM; omega
theorem od_bd {T : TD} {D : DD} {b : Nat} (hT : wfT T) (hD : wfD T D) (hb : b < nbT T) {k p : Nat} (hk : k ≤ 2048) (hp : p < 2048) : odL T p * odA T (dyD D) (haD D b) (hoD D b) k p ≤ 217728000 := by
  obtain ⟨w1, w2, w3, -⟩ := hD.2 b hb
  have hnr := hT.1
  have hpw := pow_le8 hnr
  have h0 := st_0 hT hD hb
  obtain ⟨p1, p2, p3⟩ := st_pc hT h0
  have e0 : (8 * haD D b + hoD D b) / 8 = haD D b := by omega
  rw [e0] at p1 p2
  have := fw_bd (M := odM T (dyD D) (haD D b)) (c := odc T (dyD D) (haD D b)) (V := odL T) (v0 := 217728000 / ltsN (nrT T - pc (haD D b))) (p0 := 8 * haD D b + hoD D b) (od_go hT _ _) (by omega) (fun k hk hne => ?_) k p hk hp
  · rw [Nat.mul_comm]
    refine Nat.le_trans this (Nat.le_of_eq ?_)
    unfold odL
    rw [e0]
    exact LT_W _ (by omega)
  · have hst : stP T (haD D b) (hoD D b) k := od_sup hT hD hb (by omega) hne
    by_cases hz : odM T (dyD D) (haD D b) k = 0
    · rw [hz, smx_z, Nat.mul_zero]; exact Nat.zero_le _
    · obtain ⟨x, hx8, hx⟩ := bit_ex _ (chN_lt hT _ _ _ _) hz
      have hsh := od_share hT (dy := dyD D) hst
      have e := smx_congr (M := odM T (dyD D) (haD D b) k) (f := fun x => odL T (nxP k x)) (g := fun _ => ltsN (nrT T - pc (k / 8) - 1)) (n := 8) (fun x _ hb => (hsh x hb).1)
      have e2 := smx_le (M := odM T (dyD D) (haD D b) k) (f := fun _ => ltsN (nrT T - pc (k / 8) - 1)) (B := ltsN (nrT T - pc (k / 8) - 1)) (n := 8) (fun _ _ _ => Nat.le_refl _)
      rw [smx_pc] at e2
      rw [e]
      refine Nat.le_trans (Nat.mul_le_mul_left _ e2) (Nat.le_of_eq ?_)
      rw [← (hsh x hx).2.1]
      simp only [Nat.mul_comm, Nat.mul_left_comm]
theorem psh_zero {M k : Nat} {a : Nat → Nat} {p : Nat} : ∀ n, pshA M k 0 a n p = a p
  | 0 => rfl
  | n + 1 => by
    have hst : pshA M k 0 a (n + 1) = if M.testBit n then updN (pshA M k 0 a n) (nxP k n) (pshA M k 0 a n (nxP k n) + 0) else pshA M k 0 a n := rfl
    rw [hst]
    by_cases hb : M.testBit n = true
    · rw [if_pos hb]
      unfold updN
      by_cases he : p = nxP k n
      · rw [if_pos he, Nat.add_zero, ← he]; exact psh_zero n
      · rw [if_neg he]; exact psh_zero n
    · rw [if_neg hb]; exact psh_zero n
def odC (T : TD) (J : zk_J) (a : Nat → Nat) : Prop := ∀ p, p < 2048 → J 92 p = lN (odL T p * a p)
theorem x8_od92 {T : TD} {I : zk_I} {dy h w0 k : Nat} {p1 : Int32} {a : Nat → Nat} (hT : wfT T) (hk : k < 2048) (hst : stP T h w0 k) (hbd : odL T k * a k ≤ 217728000) (K : zk_J → Option zk_J) : ∀ m i n (J : zk_J), i + m = 8 → m < n → odC T J (pshA (odM T dy h k) k (a k * odc T dy h k) a i) → ∃ J', l_X8_laysOdds_92 I p1 (nI k) (nI (odM T dy h k)) K n (nI i) J = K J' ∧ odC T J' (pshA (odM T dy h k) k (a k * odc T dy h k) a 8) := by
  have hnr := hT.1
  have hc := chN_lt hT dy h (k / 8) (k % 8)
  have hc' : odM T dy h k < 256 := hc
  have hgo := od_go hT dy h k hk
  intro m
  induction m with
  | zero =>
    intro i n J hi hn hJ
    obtain ⟨n, rfl⟩ : ∃ k, n = k + 1 := ⟨n - 1, by omega⟩
    have : i = 8 := by omega
    subst this
    refine ⟨J, ?_, hJ⟩
    rw [l_X8_laysOdds_92, if_pos (show (8 : Int32) ≤ nI 8 by decide)]
  | succ m ih =>
    intro i n J hi hn hJ
    obtain ⟨n, rfl⟩ : ∃ k, n = k + 1 := ⟨n - 1, by omega⟩
    have hbit : ((nI (odM T dy h k) >>> (nI i &&& 31)) &&& (1 : Int32)) = nI (if (odM T dy h k).testBit i then 1 else 0) := by
      rw [xlit 1, xlit 31, xb_bit (by omega) (by omega)]
    have hs8 : pshA (odM T dy h k) k (a k * odc T dy h k) a (i + 1) = if (odM T dy h k).testBit i then updN (pshA (odM T dy h k) k (a k * odc T dy h k) a i) (nxP k i) (pshA (odM T dy h k) k (a k * odc T dy h k) a i (nxP k i) + a k * odc T dy h k) else pshA (odM T dy h k) k (a k * odc T dy h k) a i := rfl
    rw [l_X8_laysOdds_92, if_neg (show ¬ (8 : Int32) ≤ nI i from nI_ge (b := 8) (by omega) (by decide)), zjp1, hbit, nI_1]
    cases hb : (odM T dy h k).testBit i
    · rw [hb, if_neg (by decide)] at hs8
      rw [if_neg (show ¬ nI (if false = true then 1 else 0) = (1 : Int32) by decide)]
      exact ih (i + 1) n J (by omega) (by omega) (by rw [hs8]; exact hJ)
    · rw [hb, if_pos rfl] at hs8
      obtain ⟨g1, g2⟩ := hgo i hb
      obtain ⟨s1, s2, s3, s4⟩ := od_share hT (dy := dy) hst i hb
      have hdiv : nI k / (8 : Int32) = nI (k / 8) := by rw [xlit 8, pk_div (by omega) (by decide) (by decide)]
      have e8 : ((8 : Int32) * (nI (k / 8) ||| ((1 : Int32) <<< (nI i &&& 31)))) + nI i = nI (nxP k i) := by
        rw [sh1 (by omega), xb_or, xlit 8, pk_mul, nI_add]
        rfl
      have hJk : J 92 k = lN (odL T k * a k) := by
        rw [hJ k hk, psh_same (fun x _ hbx => by have := (hgo x hbx).1; omega)]
      have hq : odL T k * a k / pc (odM T dy h k) = ltsN (nrT T - pc (k / 8) - 1) * (a k * odc T dy h k) := by
        have e : odL T k * a k = ltsN (nrT T - pc (k / 8) - 1) * (a k * odc T dy h k) * pc (odM T dy h k) := by
          rw [← s2]
          simp only [Nat.mul_comm, Nat.mul_left_comm, Nat.mul_assoc]
        rw [e, Nat.mul_div_cancel _ (by omega)]
      rw [if_pos (show nI (if true = true then 1 else 0) = (1 : Int32) from rfl), hdiv, e8, zck (zin g2 (by decide)), zck (zin hk (by decide)), pc_ones _ hc', zbd1, i2l8 _ (by omega), zck (znl (by omega) (by omega)), zck (zin g2 (by decide)), nI_clamp (show nxP k i < 2 ^ 31 by omega), nI_clamp (show k < 2 ^ 31 by omega), hJk, pk_lDiv (by omega) (by omega) (by omega), hq, hJ _ g2, lN_add, zlt]
      refine ih (i + 1) n _ (by omega) (by omega) (fun p hp => ?_)
      rw [zk_sj_s, hs8]
      unfold updN
      by_cases he : p = nxP k i
      · rw [he, pk_uLs, if_pos rfl, s1, Nat.mul_add]
      · rw [pk_uLn he, if_neg he]
        exact hJ p hp
theorem x8_od92z {I : zk_I} {k : Nat} {p1 : Int32} (K : zk_J → Option zk_J) : ∀ m i n (J : zk_J), i + m = 8 → m < n → l_X8_laysOdds_92 I p1 (nI k) 0 K n (nI i) J = K J := by
  intro m
  induction m with
  | zero =>
    intro i n J hi hn
    obtain ⟨n, rfl⟩ : ∃ k, n = k + 1 := ⟨n - 1, by omega⟩
    have : i = 8 := by omega
    subst this
    rw [l_X8_laysOdds_92, if_pos (show (8 : Int32) ≤ nI 8 by decide)]
  | succ m ih =>
    intro i n J hi hn
    obtain ⟨n, rfl⟩ : ∃ k, n = k + 1 := ⟨n - 1, by omega⟩
    have hbit : (((0 : Int32) >>> (nI i &&& 31)) &&& (1 : Int32)) = nI 0 := by
      rw [show (0 : Int32) = nI 0 from rfl, xlit 1, xlit 31, xb_bit (by decide) (by omega), Nat.zero_testBit]
      rfl
    rw [l_X8_laysOdds_92, if_neg (show ¬ (8 : Int32) ≤ nI i from nI_ge (b := 8) (by omega) (by decide)), zjp1, hbit, nI_1, if_neg (show ¬ nI 0 = (1 : Int32) by decide)]
    exact ih (i + 1) n J (by omega) (by omega)
theorem cmp_le0 {v : Nat} (hv : v < 2 ^ 62) : lg_cmp (lN v) 0 ≤ 0 ↔ v = 0 := by
  unfold lg_cmp
  by_cases h : v = 0
  · subst h
    simp [show lN 0 = (0 : Int64) from rfl]
  · have h1 : (0 : Int64) < lN v := (pk_lLT (a := 0) (by decide) (by omega)).mpr (by omega)
    have h2 : ¬ lN v = 0 := lN_nz hv h
    have h3 : ¬ lN v < 0 := fun q => by have := (pk_lLT (b := 0) (show v < 2 ^ 63 by omega) (by decide)).mp q; omega
    simp [h, h1, h2, h3]
theorem odL_pos {T : TD} (hT : wfT T) (p : Nat) : 1 ≤ odL T p := by
  have hnr := hT.1
  have : ∀ u, u < 9 → 1 ≤ ltsN u := by decide
  exact this _ (by omega)
theorem x8_od53 {T : TD} {D : DD} {I : zk_I} {b : Nat} (hT : wfT T) (hD : wfD T D) (hr : repM T I 78) (hd : repDM T D I 80 0) (hb : b < nbT T) (K : zk_J → Option zk_J) : ∀ m k n (J : zk_J), k + m = 2048 → m < n → odC T J (odA T (dyD D) (haD D b) (hoD D b) k) → ∃ J', l_X8_laysOdds_53 I (nI b) K n (nI k) J = K J' ∧ odC T J' (odA T (dyD D) (haD D b) (hoD D b) 2048) := by
  have hnr := hT.1
  intro m
  induction m with
  | zero =>
    intro k n J hk hn hJ
    obtain ⟨n, rfl⟩ : ∃ k, n = k + 1 := ⟨n - 1, by omega⟩
    have : k = 2048 := by omega
    subst this
    refine ⟨J, ?_, hJ⟩
    rw [l_X8_laysOdds_53, if_pos (show (2048 : Int32) ≤ nI 2048 by decide)]
  | succ m ih =>
    intro k n J hk hn hJ
    obtain ⟨n, rfl⟩ : ∃ k, n = k + 1 := ⟨n - 1, by omega⟩
    have hbd := od_bd hT hD hb (k := k) (p := k) (by omega) (by omega)
    have hL := odL_pos hT k
    have hdiv : nI k / (8 : Int32) = nI (k / 8) := by rw [xlit 8, pk_div (by omega) (by decide) (by decide)]
    have hrem : nI k - nI (k / 8) * (8 : Int32) = nI (k % 8) := by
      rw [xlit 8, pk_mul, nI_sub (by omega), show k - k / 8 * 8 = k % 8 by omega]
    rw [l_X8_laysOdds_53, if_neg (show ¬ (2048 : Int32) ≤ nI k from nI_ge (b := 2048) (by omega) (by decide)), zck (zin (show k < 2048 by omega) (by decide)), zjp1, nI_clamp (show k < 2 ^ 31 by omega), hJ k (by omega), hdiv, hrem, nI_1]
    by_cases h0 : odA T (dyD D) (haD D b) (hoD D b) k k = 0
    · have hz92 : l_X8_laysOdds_92 I (nI b) (nI k) 0 (fun (J25 : zk_J) => l_X8_laysOdds_53 I (nI b) K n (nI (k + 1)) J25) 3000 0 J = l_X8_laysOdds_53 I (nI b) K n (nI (k + 1)) J := x8_od92z (I := I) (k := k) (p1 := nI b) (fun (J25 : zk_J) => l_X8_laysOdds_53 I (nI b) K n (nI (k + 1)) J25) 8 0 3000 J rfl (by decide)
      rw [if_pos ((cmp_le0 (by omega)).mpr (by rw [h0, Nat.mul_zero]))]
      dsimp only
      rw [hz92]
      refine ih (k + 1) n J (by omega) (by omega) (fun p hp => ?_)
      rw [hJ p hp]
      have : odA T (dyD D) (haD D b) (hoD D b) (k + 1) p = odA T (dyD D) (haD D b) (hoD D b) k p := by
        show pshA (odM T (dyD D) (haD D b) k) k (odA T (dyD D) (haD D b) (hoD D b) k k * odc T (dyD D) (haD D b) k) (odA T (dyD D) (haD D b) (hoD D b) k) 8 p = _
        rw [h0, Nat.zero_mul]
        exact psh_zero 8
      rw [this]
    · have hst := od_sup hT hD hb (by omega) h0
      have hpos : ¬ odL T k * odA T (dyD D) (haD D b) (hoD D b) k k = 0 := by
        intro q
        rcases Nat.mul_eq_zero.mp q with q | q
        · omega
        · exact h0 q
      have hsub := (isSt_sub hst.2.2).1
      rw [if_neg (fun q => hpos ((cmp_le0 (by omega)).mp q)), x8_nexts hT hD hr hd hb hst.1 hsub hst.2.1, zbd1]
      obtain ⟨J2, j1, j2⟩ := x8_od92 (I := I) (dy := dyD D) (p1 := nI b) (a := odA T (dyD D) (haD D b) (hoD D b) k) hT (show k < 2048 by omega) hst hbd (fun (J25 : zk_J) => l_X8_laysOdds_53 I (nI b) K n (nI (k + 1)) J25) 8 0 3000 J rfl (by decide) hJ
      obtain ⟨J3, k1, k2⟩ := ih (k + 1) n J2 (by omega) (by omega) j2
      exact ⟨J3, Eq.trans j1 k1, k2⟩
theorem x8_od2 {I : zk_I} {p1 : Int32} (K : zk_J → Option zk_J) : ∀ m i n (J : zk_J), i + m = 2048 → m < n → (∀ p, p < i → J 92 p = 0) → ∃ J', l_X8_laysOdds_2 I p1 K n (nI i) J = K J' ∧ ∀ p, p < 2048 → J' 92 p = 0 := by
  intro m
  induction m with
  | zero =>
    intro i n J hi hn hJ
    obtain ⟨n, rfl⟩ : ∃ k, n = k + 1 := ⟨n - 1, by omega⟩
    have : i = 2048 := by omega
    subst this
    exact ⟨J, by rw [l_X8_laysOdds_2, if_pos (show (2048 : Int32) ≤ nI 2048 by decide)], hJ⟩
  | succ m ih =>
    intro i n J hi hn hJ
    obtain ⟨n, rfl⟩ : ∃ k, n = k + 1 := ⟨n - 1, by omega⟩
    rw [l_X8_laysOdds_2, if_neg (show ¬ (2048 : Int32) ≤ nI i from nI_ge (b := 2048) (by omega) (by decide)), zck (zin (show i < 2048 by omega) (by decide)), nI_clamp (by omega), zlt, nI_1]
    refine ih (i + 1) n _ (by omega) (by omega) (fun p hp => ?_)
    rw [zk_sj_s]
    by_cases he : p = i
    · rw [he, pk_uLs]
    · rw [pk_uLn he]; exact hJ p (by omega)
theorem x8_laysOdds {T : TD} {D : DD} {I : zk_I} {J : zk_J} {b : Nat} (hT : wfT T) (hD : wfD T D) (hr : repM T I 78) (hd : repDM T D I 80 0) (hb : b < nbT T) : ∃ J', f_X8_laysOdds I J (nI b) = some J' ∧ odC T J' (odA T (dyD D) (haD D b) (hoD D b) 2048) := by
  have hnr := hT.1
  have hnb := hT.2.1
  have hpw := pow_le8 hnr
  obtain ⟨w1, w2, w3, -⟩ := hD.2 b hb
  obtain ⟨d1, d2, -⟩ := hd.2.2 b hb
  rw [Nat.zero_add] at d1 d2
  have e6 : (6 : Int32) + nI b = nI (6 + b) := by rw [xlit 6, nI_add]
  have e2 : (2 : Int32) + nI b = nI (2 + b) := by rw [xlit 2, nI_add]
  have e8 : (8 : Int32) * nI (haD D b) + nI (hoD D b) = nI (8 * haD D b + hoD D b) := by rw [xlit 8, pk_mul, nI_add]
  obtain ⟨p1, p2, p3⟩ := st_pc hT (st_0 hT hD hb)
  have e0 : (8 * haD D b + hoD D b) / 8 = haD D b := by omega
  rw [e0] at p1 p2
  unfold f_X8_laysOdds
  obtain ⟨J1, a1, a2⟩ := x8_od2 (I := I) (p1 := nI b) (fun (J4 : zk_J) => zk_ck (zk_in ((6 : Int32) + nI b) 14) (zk_ck (zk_in ((2 : Int32) + nI b) 14) (zk_ck (zk_in (((8 : Int32) * (I 80 ((6 : Int32) + nI b).toNatClampNeg)) + (I 80 ((2 : Int32) + nI b).toNatClampNeg)) 2048) (zk_lt (zk_sj J4 92 (vp_updL (J4 92) (((8 : Int32) * (I 80 ((6 : Int32) + nI b).toNatClampNeg)) + (I 80 ((2 : Int32) + nI b).toNatClampNeg)).toNatClampNeg (217728000 : Int64))) (fun (J8 : zk_J) => l_X8_laysOdds_53 I (nI b) (fun (J28 : zk_J) => some J28) 3000 (0 : Int32) J8))))) 2048 0 3000 J (by omega) (by omega) (fun p hp => absurd hp (Nat.not_lt_zero _))
  obtain ⟨J2, b1, b2⟩ := x8_od53 hT hD hr hd hb (fun (J28 : zk_J) => some J28) 2048 0 3000 (zk_sj J1 92 (vp_updL (J1 92) (8 * haD D b + hoD D b) (217728000 : Int64))) (by omega) (by omega) (fun p hp => by
    show zk_sj J1 92 (vp_updL (J1 92) (8 * haD D b + hoD D b) (217728000 : Int64)) 92 p = lN (odL T p * (if p = 8 * haD D b + hoD D b then 217728000 / ltsN (nrT T - pc (haD D b)) else 0))
    rw [zk_sj_s]
    by_cases he : p = 8 * haD D b + hoD D b
    · rw [he, pk_uLs, if_pos rfl, odL, e0, Nat.mul_comm, LT_W _ (by omega)]
      rfl
    · rw [pk_uLn he, if_neg he, Nat.mul_zero, a2 p hp]
      rfl)
  refine ⟨J2, a1.trans ?_, b2⟩
  rw [e6, e2, zck (zin (show 6 + b < 14 by omega) (by decide)), zck (zin (show 2 + b < 14 by omega) (by decide)), nI_clamp (show 6 + b < 2 ^ 31 by omega), nI_clamp (show 2 + b < 2 ^ 31 by omega), d1, d2, e8, zck (zin (show 8 * haD D b + hoD D b < 2048 by omega) (by decide)), nI_clamp (by omega), zlt]
  exact b1

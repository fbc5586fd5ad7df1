/-! clubs: the reference -/
def cbM (T : TD) (d f k : Nat) : Nat := cbS T d f (k % 8) (k / 8)
def cbA (T : TD) (d f k : Nat) : Nat → Nat := fwA (cbM T d f) (fun _ => 1) (fun p => if p = 8 * 2 ^ f + f then 1 else 0) k
def cbe (T : TD) (d f kk p : Nat) : Nat := if pc (p / 8) = kk ∧ (mayT T (p % 8) d).testBit f = true then 1 else 0
def cbV (T : TD) (d f kk p : Nat) : Nat := if pc (p / 8) ≤ kk then rgN T d f (kk - pc (p / 8)) (p % 8) (p / 8) else 0
theorem cb_go {T : TD} (hT : wfT T) (d f : Nat) : goM (cbM T d f) := by
  intro k hk x hx
  have hnr := hT.1
  obtain ⟨c1, c2, c3, c4⟩ := (cbS_bit hT).mp hx
  have h1 := or_gt c4
  have h2 : k / 8 ||| 2 ^ x < 256 := or_lt (by omega) (p2_lt8 (by omega))
  unfold nxP
  omega
theorem cb_V {T : TD} (hT : wfT T) (d f kk k : Nat) (hk : k < 2048) : cbV T d f kk k = cbe T d f kk k + 1 * smx (cbM T d f k) (fun x => 0 + cbV T d f kk (nxP k x)) 8 := by
  have hnr := hT.1
  have hx8 : ∀ x, (cbM T d f k).testBit x = true → x < 8 ∧ pc (nxP k x / 8) = pc (k / 8) + 1 ∧ nxP k x % 8 = x ∧ nxP k x / 8 = k / 8 ||| 2 ^ x := by
    intro x hx
    obtain ⟨c1, c2, c3, c4⟩ := (cbS_bit hT).mp hx
    refine ⟨by omega, ?_, nx_mod (by omega), nx_div (by omega)⟩
    rw [nx_div (by omega), pc_or _ (by omega) x (by omega) c4]
  rw [Nat.one_mul]
  have hz : kk ≤ pc (k / 8) → smx (cbM T d f k) (fun x => 0 + cbV T d f kk (nxP k x)) 8 = 0 := by
    intro hle
    have h0 : smx (cbM T d f k) (fun x => 0 + cbV T d f kk (nxP k x)) 8 = smx (cbM T d f k) (fun _ => 0) 8 := smx_congr (fun x _ hb => by
      have := (hx8 x hb).2.1
      unfold cbV
      rw [if_neg (by omega)])
    rw [h0]
    have : ∀ n, smx (cbM T d f k) (fun _ => 0) n = 0 := by
      intro n
      induction n with
      | zero => rfl
      | succ n ih2 => rw [smx_s, ih2]; split <;> rfl
    exact this 8
  rcases Nat.lt_trichotomy (pc (k / 8)) kk with h | h | h
  · unfold cbe
    rw [if_neg (fun q => by omega), Nat.zero_add]
    unfold cbV
    rw [if_pos (by omega), show kk - pc (k / 8) = (kk - pc (k / 8) - 1) + 1 by omega, rgN]
    refine smx_congr (fun x _ hb => ?_)
    obtain ⟨x1, x2, x3, x4⟩ := hx8 x hb
    rw [x3, x2, x4, if_pos (by omega), Nat.zero_add, show kk - (pc (k / 8) + 1) = kk - pc (k / 8) - 1 by omega]
  · rw [hz (by omega), Nat.add_zero]
    unfold cbV cbe
    rw [if_pos (by omega), h, Nat.sub_self, rgN]
    cases (mayT T (k % 8) d).testBit f
    · rw [if_neg (by decide), if_neg (fun q => absurd q.2 (by decide))]
    · rw [if_pos rfl, if_pos ⟨rfl, rfl⟩]
  · rw [hz (by omega)]
    unfold cbV cbe
    rw [if_neg (by omega), if_neg (fun q => by omega)]
theorem cb_sum {T : TD} (hT : wfT T) {d f kk : Nat} (hf : f < 8) (hk : 1 ≤ kk) : sm (fun p => cbA T d f 2048 p * cbe T d f kk p) 2048 = rgN T d f (kk - 1) f (2 ^ f) := by
  have h := fw_pot (M := cbM T d f) (c := fun _ => 1) (a0 := fun p => if p = 8 * 2 ^ f + f then 1 else 0) (V := cbV T d f kk) (W := fun _ => 0) (e := cbe T d f kk) (cb_go hT d f) (fun k hk _ => cb_V hT d f kk k hk) 2048 (Nat.le_refl _)
  have hp := p2_lt8 hf
  simp only [Nat.zero_add] at h
  rw [sm_one (show 8 * 2 ^ f + f < 2048 by omega), Nat.one_mul] at h
  have e1 : pc (2 ^ f) = 1 := by
    have : ∀ f, f < 8 → pc (2 ^ f) = 1 := by decide
    exact this f hf
  have e2 : cbV T d f kk (8 * 2 ^ f + f) = rgN T d f (kk - 1) f (2 ^ f) := by
    unfold cbV
    rw [show (8 * 2 ^ f + f) / 8 = 2 ^ f by omega, show (8 * 2 ^ f + f) % 8 = f by omega, e1, if_pos hk]
  rw [e2] at h
  rw [← h]
  exact sm_congr (fun p hp => by
    show cbA T d f 2048 p * cbe T d f kk p = cbA T d f 2048 p * (if 2048 ≤ p then _ else cbe T d f kk p)
    rw [if_neg (by omega)])
theorem cb_bd {T : TD} (hT : wfT T) {d f k p : Nat} (hf : f < 8) (hk : k ≤ 2048) (hp : p < 2048) : cbA T d f k p ≤ 2097152 := by
  have hnr := hT.1
  have hp2 := p2_lt8 hf
  have h := fw_bd (M := cbM T d f) (c := fun _ => 1) (V := fun p => 8 ^ (8 - pc (p / 8))) (v0 := 1) (p0 := 8 * 2 ^ f + f) (cb_go hT d f) (by omega) (fun k hk _ => ?_) k p hk hp
  · have e1 : pc (2 ^ f) = 1 := by
      have : ∀ f, f < 8 → pc (2 ^ f) = 1 := by decide
      exact this f hf
    have h : cbA T d f k p * 8 ^ (8 - pc (p / 8)) ≤ 1 * 8 ^ (8 - pc ((8 * 2 ^ f + f) / 8)) := h
    rw [show (8 * 2 ^ f + f) / 8 = 2 ^ f by omega, e1] at h
    have h2 : cbA T d f k p * 1 ≤ cbA T d f k p * 8 ^ (8 - pc (p / 8)) := Nat.mul_le_mul_left _ (Nat.one_le_pow _ _ (by decide))
    have h3 : 1 * 8 ^ (8 - 1) = 2097152 := by decide
    omega
  · show 1 * smx (cbM T d f k) (fun x => 8 ^ (8 - pc (nxP k x / 8))) 8 ≤ 8 ^ (8 - pc (k / 8))
    rw [Nat.one_mul]
    by_cases hz : cbM T d f k = 0
    · rw [hz, smx_z]; exact Nat.zero_le _
    · obtain ⟨x, hx8, hx⟩ := bit_ex _ (cbS_lt T d f _ _) hz
      obtain ⟨c1, c2, c3, c4⟩ := (cbS_bit hT).mp hx
      have hpo := pc_or (k / 8) (by omega) x (by omega) c4
      have hp8 := pc_le (k / 8 ||| 2 ^ x)
      have hle := smx_le (M := cbM T d f k) (f := fun x => 8 ^ (8 - pc (nxP k x / 8))) (B := 8 ^ (7 - pc (k / 8))) (n := 8) (fun y hy hb => by
        obtain ⟨d1, d2, d3, d4⟩ := (cbS_bit hT).mp hb
        show 8 ^ (8 - pc (nxP k y / 8)) ≤ _
        rw [nx_div hy, pc_or _ (by omega) y hy d4, show 8 - (pc (k / 8) + 1) = 7 - pc (k / 8) by omega]
        exact Nat.le_refl _)
      rw [smx_pc] at hle
      have h8 := pc_le (cbM T d f k)
      refine Nat.le_trans hle (Nat.le_trans (Nat.mul_le_mul_right _ h8) (Nat.le_of_eq ?_))
      rw [show 8 - pc (k / 8) = (7 - pc (k / 8)) + 1 by omega, Nat.pow_succ, Nat.mul_comm]
theorem cb_sup {T : TD} (hT : wfT T) {d f k p : Nat} (hf : f < nrT T) (hk : k ≤ 2048) (h : cbA T d f k p ≠ 0) : p % 8 < nrT T := by
  have hnr := hT.1
  refine fw_sup (P := fun p => p % 8 < nrT T) (fun p h0 => ?_) (fun k x _ _ hx => ?_) k p hk h
  · by_cases he : p = 8 * 2 ^ f + f
    · show p % 8 < nrT T
      omega
    · rw [if_neg he] at h0
      exact absurd rfl h0
  · obtain ⟨c1, c2, c3, c4⟩ := (cbS_bit hT).mp hx
    show nxP k x % 8 < nrT T
    rw [nx_mod (by omega)]
    exact c2
def cbC (I : zk_I) (a : Nat → Nat) : Prop := ∀ p, p < 2048 → I 86 p = nI (a p)
theorem psh_low {M k d : Nat} {a : Nat → Nat} : ∀ {n : Nat}, (∀ x, x < n → M.testBit x = false) → pshA M k d a n = a
  | 0, _ => rfl
  | n + 1, h => by
    have hst : pshA M k d a (n + 1) = if M.testBit n then updN (pshA M k d a n) (nxP k n) (pshA M k d a n (nxP k n) + d) else pshA M k d a n := rfl
    rw [hst, h n (by omega), if_neg (by decide), psh_low (fun x hx => h x (by omega))]
theorem x8_cl30 {I : zk_I} {p1 p2 : Int32} {f : Nat} (hf : f < 8) (K : zk_I → Option (Int32 × zk_I)) : ∀ m i n (I' : zk_I), i + m = 2048 → m < n → (∀ c, c ≠ 86 → I' c = I c) → (∀ p, p < i → I' 86 p = nI (if p = 8 * 2 ^ f + f then 1 else 0)) → ∃ I1, l_X8_clubs_30 p1 p2 (nI f) K n (nI i) I' = K I1 ∧ (∀ c, c ≠ 86 → I1 c = I c) ∧ cbC I1 (fun p => if p = 8 * 2 ^ f + f then 1 else 0) := by
  have hp2 := p2_lt8 hf
  intro m
  induction m with
  | zero =>
    intro i n I' hi hn ho hP
    obtain ⟨n, rfl⟩ : ∃ k, n = k + 1 := ⟨n - 1, by omega⟩
    have : i = 2048 := by omega
    subst this
    exact ⟨I', by rw [l_X8_clubs_30, if_pos (show (2048 : Int32) ≤ nI 2048 by decide)], ho, hP⟩
  | succ m ih =>
    intro i n I' hi hn ho hP
    obtain ⟨n, rfl⟩ : ∃ k, n = k + 1 := ⟨n - 1, by omega⟩
    have e8 : ((8 : Int32) * ((1 : Int32) <<< (nI f &&& 31))) + nI f = nI (8 * 2 ^ f + f) := by rw [sh1 hf, xlit 8, pk_mul, nI_add]
    have ev : (if nI i = nI (8 * 2 ^ f + f) then (1 : Int32) else 0) = nI (if i = 8 * 2 ^ f + f then 1 else 0) := by
      by_cases he : i = 8 * 2 ^ f + f
      · rw [if_pos he, if_pos (by rw [he])]; rfl
      · rw [if_neg he, if_neg (fun q => he (xl_inj (by omega) (by omega) q))]; rfl
    rw [l_X8_clubs_30, if_neg (show ¬ (2048 : Int32) ≤ nI i from nI_ge (b := 2048) (by omega) (by decide)), e8, ev, zlt, zck (zin (show i < 2048 by omega) (by decide)), nI_clamp (by omega), zlt, nI_1]
    refine ih (i + 1) n _ (by omega) (by omega) (fun c hc => by rw [zk_sc_n _ _ hc]; exact ho c hc) (fun p hp => ?_)
    rw [zk_sc_s]
    by_cases he : p = i
    · rw [he, pk_us]
    · rw [pk_un he]; exact hP p (by omega)
theorem x8_cl165 {T : TD} {I : zk_I} {p1 p2 p3 : Int32} {d f k : Nat} {a : Nat → Nat} (hT : wfT T) (hk : k < 2048) (K : zk_I → Option (Int32 × zk_I)) : ∀ m i n (I' : zk_I), i + m = 8 → m < n → f < i → (∀ c, c ≠ 86 → I' c = I c) → cbC I' (pshA (cbM T d f k) k (a k * 1) a i) → ∃ I1, l_X8_clubs_165 p1 p2 p3 (nI k) (nI (k / 8)) (nI (dif (mayT T (k % 8) d) (k / 8))) K n (nI i) I' = K I1 ∧ (∀ c, c ≠ 86 → I1 c = I c) ∧ cbC I1 (pshA (cbM T d f k) k (a k * 1) a 8) := by
  have hgo := cb_go hT d f k hk
  have hml := dif_lt (b := k / 8) (mayT_lt hT (k % 8) d)
  intro m
  induction m with
  | zero =>
    intro i n I' hi hn hfi ho hC
    obtain ⟨n, rfl⟩ : ∃ k, n = k + 1 := ⟨n - 1, by omega⟩
    have : i = 8 := by omega
    subst this
    exact ⟨I', by rw [l_X8_clubs_165, if_pos (show (8 : Int32) ≤ nI 8 by decide)], ho, hC⟩
  | succ m ih =>
    intro i n I' hi hn hfi ho hC
    obtain ⟨n, rfl⟩ : ∃ k, n = k + 1 := ⟨n - 1, by omega⟩
    have hst : pshA (cbM T d f k) k (a k * 1) a (i + 1) = if (cbM T d f k).testBit i then updN (pshA (cbM T d f k) k (a k * 1) a i) (nxP k i) (pshA (cbM T d f k) k (a k * 1) a i (nxP k i) + a k * 1) else pshA (cbM T d f k) k (a k * 1) a i := rfl
    have hbit : ((nI (dif (mayT T (k % 8) d) (k / 8)) >>> (nI i &&& 31)) &&& (1 : Int32)) = nI (if (cbM T d f k).testBit i then 1 else 0) := by
      rw [xlit 1, xlit 31, xb_bit (by omega) (by omega)]
      unfold cbM cbS
      rw [mk_bit, decide_eq_true (show i < 8 by omega), decide_eq_true hfi, Bool.true_and, Bool.true_and]
    rw [l_X8_clubs_165, if_neg (show ¬ (8 : Int32) ≤ nI i from nI_ge (b := 8) (by omega) (by decide)), zjp1, hbit, nI_1]
    cases hb : (cbM T d f k).testBit i
    · rw [hb, if_neg (by decide)] at hst
      rw [if_neg (show ¬ nI (if false = true then 1 else 0) = (1 : Int32) by decide)]
      exact ih (i + 1) n I' (by omega) (by omega) (by omega) ho (by rw [hst]; exact hC)
    · rw [hb, if_pos rfl] at hst
      obtain ⟨g1, g2⟩ := hgo i hb
      have e8 : ((8 : Int32) * (nI (k / 8) ||| ((1 : Int32) <<< (nI i &&& 31)))) + nI i = nI (nxP k i) := by
        rw [sh1 (by omega), xb_or, xlit 8, pk_mul, nI_add]
        rfl
      have hIk : I' 86 k = nI (a k * 1) := by
        rw [hC k hk, psh_same (fun x _ hbx => by have := (hgo x hbx).1; omega), Nat.mul_one]
      rw [if_pos (show nI (if true = true then 1 else 0) = (1 : Int32) from rfl), e8, zck (zin g2 (by decide)), zck (zin hk (by decide)), zck (zin g2 (by decide)), nI_clamp (show nxP k i < 2 ^ 31 by omega), nI_clamp (show k < 2 ^ 31 by omega), hIk, hC _ g2, nI_add, zlt]
      refine ih (i + 1) n _ (by omega) (by omega) (by omega) (fun c hc => by rw [zk_sc_n _ _ hc]; exact ho c hc) (fun p hp => ?_)
      rw [zk_sc_s, hst]
      unfold updN
      by_cases he : p = nxP k i
      · rw [he, pk_us, if_pos rfl]
      · rw [pk_un he, if_neg he]
        exact hC p hp
theorem x8_cl165z {p1 p2 p3 p4 p5 : Int32} (K : zk_I → Option (Int32 × zk_I)) : ∀ m i n (I' : zk_I), i + m = 8 → m < n → l_X8_clubs_165 p1 p2 p3 p4 p5 0 K n (nI i) I' = K I' := by
  intro m
  induction m with
  | zero =>
    intro i n I' hi hn
    obtain ⟨n, rfl⟩ : ∃ k, n = k + 1 := ⟨n - 1, by omega⟩
    have : i = 8 := by omega
    subst this
    rw [l_X8_clubs_165, if_pos (show (8 : Int32) ≤ nI 8 by decide)]
  | succ m ih =>
    intro i n I' hi hn
    obtain ⟨n, rfl⟩ : ∃ k, n = k + 1 := ⟨n - 1, by omega⟩
    have hbit : (((0 : Int32) >>> (nI i &&& 31)) &&& (1 : Int32)) = nI 0 := by
      rw [show (0 : Int32) = nI 0 from rfl, xlit 1, xlit 31, xb_bit (by decide) (by omega), Nat.zero_testBit]
      rfl
    rw [l_X8_clubs_165, if_neg (show ¬ (8 : Int32) ≤ nI i from nI_ge (b := 8) (by omega) (by decide)), zjp1, hbit, nI_1, if_neg (show ¬ nI 0 = (1 : Int32) by decide)]
    exact ih (i + 1) n I' (by omega) (by omega)
theorem x8_cl72 {T : TD} {I : zk_I} {d f kk : Nat} (hT : wfT T) (hr : repM T I 78) (h80 : I 80 0 = nI d) (hd : d < 2 ^ 30) (hf : f < nrT T) (hkk : kk ≤ 6) (K : Int32 → zk_I → Option (Int32 × zk_I)) : ∀ m i n acc (I' : zk_I), i + m = 2048 → m < n → (∀ c, c ≠ 86 → I' c = I c) → cbC I' (cbA T d f i) → ∃ I1, l_X8_clubs_72 (nI kk) (nI f) K n (nI (acc + sm (fun p => cbA T d f 2048 p * cbe T d f kk p) i)) (nI i) I' = K (nI (acc + sm (fun p => cbA T d f 2048 p * cbe T d f kk p) 2048)) I1 ∧ (∀ c, c ≠ 86 → I1 c = I c) := by
  have hnr := hT.1
  intro m
  induction m with
  | zero =>
    intro i n acc I' hi hn ho hC
    obtain ⟨n, rfl⟩ : ∃ k, n = k + 1 := ⟨n - 1, by omega⟩
    have : i = 2048 := by omega
    subst this
    exact ⟨I', by rw [l_X8_clubs_72, if_pos (show (2048 : Int32) ≤ nI 2048 by decide)], ho⟩
  | succ m ih =>
    intro i n acc I' hi hn ho hC
    obtain ⟨n, rfl⟩ : ∃ k, n = k + 1 := ⟨n - 1, by omega⟩
    have hbd := cb_bd hT (d := d) (f := f) (k := i) (p := i) (by omega) (by omega) (by omega)
    have hstay : cbA T d f 2048 i = cbA T d f i i := fw_stay' (cb_go hT d f) 2048 (by omega) (Nat.le_refl _)
    have hdiv : nI i / (8 : Int32) = nI (i / 8) := by rw [xlit 8, pk_div (by omega) (by decide) (by decide)]
    have hrem : nI i - nI (i / 8) * (8 : Int32) = nI (i % 8) := by
      rw [xlit 8, pk_mul, nI_sub (by omega), show i - i / 8 * 8 = i % 8 by omega]
    have hr' : repM T I' 78 := hr.fr (ho 78 (by decide))
    have h80' : I' 80 0 = nI d := by rw [ho 80 (by decide)]; exact h80
    have hp8 := pc_le (i / 8)
    have hsm : sm (fun p => cbA T d f 2048 p * cbe T d f kk p) (i + 1) = sm (fun p => cbA T d f 2048 p * cbe T d f kk p) i + cbA T d f i i * cbe T d f kk i := by
      rw [sm, hstay]
    rw [l_X8_clubs_72, if_neg (show ¬ (2048 : Int32) ≤ nI i from nI_ge (b := 2048) (by omega) (by decide)), zck (zin (show i < 2048 by omega) (by decide)), nI_clamp (show i < 2 ^ 31 by omega), hC i (by omega), hdiv, hrem, h80', nI_1, nI_1]
    by_cases h0 : cbA T d f i i = 0
    · have hA : cbA T d f (i + 1) = cbA T d f i := by
        funext p
        show pshA (cbM T d f i) i (cbA T d f i i * 1) (cbA T d f i) 8 p = _
        rw [h0, Nat.zero_mul]
        exact psh_zero 8
      have hz : ∀ (I2 : zk_I) (q : Int32) (Kx : zk_I → Option (Int32 × zk_I)), l_X8_clubs_165 (nI kk) q (nI f) (nI i) (nI (i / 8)) 0 Kx 3000 (nI (f + 1)) I2 = Kx I2 := fun I2 q Kx => x8_cl165z Kx (8 - (f + 1)) (f + 1) 3000 I2 (by omega) (by omega)
      rw [zjp1, if_pos (show nI (cbA T d f i i) ≤ (0 : Int32) by rw [h0]; decide)]
      dsimp only
      rw [pc_ones _ (by omega), zbd1, zjp1, zjp0]
      have hb0 : ¬ (((0 : Int32) >>> (nI f &&& 31)) &&& (1 : Int32)) = (1 : Int32) := by
        rw [show (0 : Int32) = nI 0 from rfl, xlit 1, xlit 31, xb_bit (by decide) (by omega), Nat.zero_testBit]
        decide
      have hif : ∀ (A B : Option (Int32 × zk_I)), (if nI (pc (i / 8)) = nI kk then (if (((0 : Int32) >>> (nI f &&& 31)) &&& (1 : Int32)) = (1 : Int32) then A else B) else B) = B := by
        intro A B
        rw [if_neg hb0]
        split <;> rfl
      rw [hif]
      dsimp only
      have ez : (0 : Int32) &&& (nI (i / 8) ^^^ (-1 : Int32)) = 0 := Int32.zero_and
      have za : ∀ a : Nat, nI a + (0 : Int32) = nI a := fun a => by rw [show (0 : Int32) = nI 0 from rfl, nI_add, Nat.add_zero]
      rw [ez, zlt, za, hz]
      have := ih (i + 1) n acc I' (by omega) (by omega) ho (by rw [hA]; exact hC)
      rw [hsm, h0, Nat.zero_mul, Nat.add_zero] at this
      exact this
    · have hst := cb_sup hT hf (show i ≤ 2048 by omega) h0
      have hml := mayT_lt hT (i % 8) d
      rw [zjp1, if_neg (show ¬ nI (cbA T d f i i) ≤ (0 : Int32) from nI_ge (a := 0) (by omega) (by omega)), x8_named hT hr' hst hd, zbd1]
      dsimp only
      rw [pc_ones _ (by omega), zbd1]
      have hbit : ((nI (mayT T (i % 8) d) >>> (nI f &&& 31)) &&& (1 : Int32)) = nI (if (mayT T (i % 8) d).testBit f then 1 else 0) := by
        rw [xlit 1, xlit 31, xb_bit (by omega) (by omega)]
      have ed : nI (mayT T (i % 8) d) &&& (nI (i / 8) ^^^ (-1 : Int32)) = nI (dif (mayT T (i % 8) d) (i / 8)) := xb_dif hml
      have hlow : pshA (cbM T d f i) i (cbA T d f i i * 1) (cbA T d f i) (f + 1) = cbA T d f i := psh_low (fun x hx => by
        cases hq : (cbM T d f i).testBit x
        · rfl
        · have := ((cbS_bit hT).mp hq).1; omega)
      obtain ⟨I2, j1, j2, j3⟩ := x8_cl165 (T := T) (I := I) (p1 := nI kk) (p2 := nI (acc + sm (fun p => cbA T d f 2048 p * cbe T d f kk p) i) + nI (cbA T d f i i * cbe T d f kk i)) (p3 := nI f) (d := d) (f := f) (a := cbA T d f i) hT (show i < 2048 by omega) (fun (I31 : zk_I) => l_X8_clubs_72 (nI kk) (nI f) K n (nI (acc + sm (fun p => cbA T d f 2048 p * cbe T d f kk p) i) + nI (cbA T d f i i * cbe T d f kk i)) (nI (i + 1)) I31) (8 - (f + 1)) (f + 1) 3000 I' (by omega) (by omega) (by omega) ho (by rw [hlow]; exact hC)
      obtain ⟨I3, k1, k2⟩ := ih (i + 1) n acc I2 (by omega) (by omega) j2 j3
      rw [hsm, ← Nat.add_assoc, ← nI_add] at k1
      refine ⟨I3, ?_, k2⟩
      refine (jp1_to (v := nI (cbA T d f i i * cbe T d f kk i)) (fun K' => ?_)).trans ?_
      · refine (zjp0 _ _).trans ?_
        rw [hbit]
        unfold cbe
        by_cases he : pc (i / 8) = kk
        · rw [if_pos (show nI (pc (i / 8)) = nI kk by rw [he])]
          cases hmb : (mayT T (i % 8) d).testBit f
          · rw [if_neg (show ¬ nI (if false = true then 1 else 0) = (1 : Int32) by decide), if_neg (fun q => absurd q.2 (by decide)), Nat.mul_zero]
            rfl
          · rw [if_pos (show nI (if true = true then 1 else 0) = (1 : Int32) from rfl), if_pos ⟨he, rfl⟩, Nat.mul_one, zck (zin (show i < 2048 by omega) (by decide))]
        · rw [if_neg (fun q => he (xl_inj (by omega) (by omega) q)), if_neg (fun q => he q.1), Nat.mul_zero]
          rfl
      · refine (zlt _ _).trans ?_
        rw [ed]
        exact j1.trans k1
theorem x8_cl17 {T : TD} {I : zk_I} {d kk : Nat} (hT : wfT T) (hr : repM T I 78) (h80 : I 80 0 = nI d) (hd : d < 2 ^ 30) (hkk : kk ≤ 6) (hk1 : 1 ≤ kk) (K : Int32 → zk_I → Option (Int32 × zk_I)) : ∀ m i n (I' : zk_I), i + m = nrT T → m < n → (∀ c, c ≠ 86 → I' c = I c) → ∃ I1, l_X8_clubs_17 (nI kk) K n (nI (cbR T d kk i)) (nI i) I' = K (nI (cbR T d kk (nrT T))) I1 ∧ (∀ c, c ≠ 86 → I1 c = I c) := by
  have hnr := hT.1
  intro m
  induction m with
  | zero =>
    intro i n I' hi hn ho
    obtain ⟨n, rfl⟩ : ∃ k, n = k + 1 := ⟨n - 1, by omega⟩
    have : i = nrT T := by omega
    subst this
    have hr' : repM T I' 78 := hr.fr (ho 78 (by decide))
    exact ⟨I', by rw [l_X8_clubs_17, hr'.1, if_pos (nI_le (Nat.le_refl _) (by omega))], ho⟩
  | succ m ih =>
    intro i n I' hi hn ho
    obtain ⟨n, rfl⟩ : ∃ k, n = k + 1 := ⟨n - 1, by omega⟩
    have hr' : repM T I' 78 := hr.fr (ho 78 (by decide))
    rw [l_X8_clubs_17, hr'.1, if_neg (nI_ge (by omega) (by omega)), nI_1]
    obtain ⟨I2, a1, a2, a3⟩ := x8_cl30 (I := I) (p1 := nI kk) (p2 := nI (cbR T d kk i)) (f := i) (by omega) (fun (I11 : zk_I) => l_X8_clubs_72 (nI kk) (nI i) (fun (z37 : Int32) (I38 : zk_I) => l_X8_clubs_17 (nI kk) K n z37 (nI (i + 1)) I38) 3000 (nI (cbR T d kk i)) (0 : Int32) I11) 2048 0 3000 I' (by omega) (by omega) ho (fun p hp => absurd hp (Nat.not_lt_zero _))
    obtain ⟨I3, b1, b2⟩ := x8_cl72 (T := T) (I := I) (d := d) (f := i) (kk := kk) hT hr h80 hd (by omega) hkk (fun (z37 : Int32) (I38 : zk_I) => l_X8_clubs_17 (nI kk) K n z37 (nI (i + 1)) I38) 2048 0 3000 (cbR T d kk i) I2 (by omega) (by omega) a2 a3
    rw [cb_sum hT (by omega) hk1] at b1
    obtain ⟨I4, c1, c2⟩ := ih (i + 1) n I3 (by omega) (by omega) b2
    exact ⟨I4, (a1.trans b1).trans c1, c2⟩
theorem rel64 {I I1 : zk_I} (h : ∀ c, c ≠ 64 → I1 c = I c) : relC I I1 ∧ keepM I I1 := ⟨⟨by rw [h 0 (by decide)], by rw [h 1 (by decide)], fun c hc => h c (by omega)⟩, fun c hc => h c (by omega)⟩
theorem rel86 {I I1 : zk_I} (h : ∀ c, c ≠ 86 → I1 c = I c) : relM I I1 ∧ keepC I I1 := ⟨⟨by rw [h 76 (by decide)], by rw [h 76 (by decide)], by rw [h 76 (by decide)], fun c hc => h c (by omega)⟩, fun c hc => h c (by omega)⟩
theorem o_clubs {S : ST} (hw : wfS S) (a : Int32) : opS S (fun I => f_X7_clubs I a) (fun I => f_X8_clubs I a) := by
  have h9 : dyS S ≤ 999 := hw.2.2.1.1
  unfold f_X7_clubs f_X8_clubs
  by_cases h2 : a < (2 : Int32)
  · refine opS.no hw (-3) (fun I hI => ?_) (fun I hI => ?_)
    · rw [if_pos h2]
    · rw [x8_in, if_pos (Or.inl h2), zlt, if_pos rfl]
  · by_cases h6 : a ≤ (6 : Int32)
    · have h0 : ¬ a < 0 := fun q => h2 (Int32.lt_trans q (by decide))
      obtain ⟨k, hk, rfl⟩ : ∃ j : Nat, j ≤ 6 ∧ a = nI j := nI_of2 (M := 6) (n := 6) (by decide) h0 h6
      have hk2 : 2 ≤ k := by
        apply Classical.byContradiction
        intro q
        exact h2 (nI_lt (b := 2) (by omega) (by decide))
      refine ⟨S, nI (cbR (tdS S) (dyS S) k (nrT (tdS S))), hw, fun I hI => ?_, fun I hI => ?_⟩
      · refine ⟨lkI (tdS S) I (nrT (tdS S)), ?_, hI.fr (rel64 (fun c hc => zk_sc_n _ _ hc)).1, (rel64 (fun c hc => zk_sc_n _ _ hc)).2⟩
        dsimp only
        have h16 : I 16 0 = nI (dyS S) := hI.2.2.1.1
        rw [if_neg h2, if_pos h6, h16, x_ringsOf hw.2.1 hI.2.1 (by omega) hk2 hk, zbd2]
      · obtain ⟨I1, a1, a2⟩ := x8_cl17 (T := tdS S) (I := I) (d := dyS S) (kk := k) hw.2.1 hI.2.1 hI.2.2.1.1 (by omega) hk (by omega) (fun (z39 : Int32) (I40 : zk_I) => some (z39, I40)) (nrT (tdS S)) 0 3000 I (by omega) (by have : nrT (tdS S) ≤ 8 := hw.2.1.1; omega) (fun _ _ => rfl)
        refine ⟨I1, ?_, hI.fr (rel86 a2).1, (rel86 a2).2⟩
        dsimp only
        have hin : ¬ (nI k < (2 : Int32) ∨ (6 : Int32) < nI k) := by
          rintro (q | q)
          · exact h2 q
          · exact absurd h6 (Int32.not_le.mpr q)
        rw [x8_in, if_neg hin, zlt, if_neg n10]
        exact a1
    · refine opS.no hw (-3) (fun I hI => ?_) (fun I hI => ?_)
      · rw [if_neg h2, if_neg h6]
      · rw [x8_in, if_pos (Or.inr (Int32.not_le.mp h6)), zlt, if_pos rfl]

/-! by lot: values scaled by LOTS -/
def ltsN (u : Nat) : Nat := [1, 1, 2, 12, 144, 8640, 518400, 217728000].getD u 1
def shN (u c : Nat) : Nat := ltsN u / (ltsN (u - 1) * c)
theorem LT_sh : ∀ u, u < 8 → ∀ c, c < 8 → 1 ≤ c → c ≤ u → ltsN (u - 1) * (c * shN u c) = ltsN u := by decide +kernel
theorem LT_pos : ∀ u, u < 8 → 1 ≤ ltsN u ∧ ltsN u ≤ 217728000 := by decide +kernel
theorem LT_W : ∀ u, u < 8 → (217728000 / ltsN u) * ltsN u = 217728000 := by decide +kernel
theorem x_lots : ∀ u, u < 8 → f_X3_lotsOf (nI u) = some (lN (ltsN u)) := by decide +kernel
theorem pc_dis {n a b : Nat} (hn : n ≤ 8) (ha : a < 2 ^ n) (hb : b < 2 ^ n) (hd : ∀ i, a.testBit i = true → b.testBit i = false) : pc a + pc b ≤ n := by
  have key : ∀ i, (if a.testBit i = true then 1 else 0) + (if b.testBit i = true then 1 else 0) ≤ (if i < n then 1 else 0) := by
    intro i
    cases h1 : a.testBit i
    · cases h2 : b.testBit i
      · simp
      · have := bit_lt hb h2
        simp [this]
    · have h2 := hd i h1
      have := bit_lt ha h1
      simp [h2, this]
  have k0 := key 0
  have k1 := key 1
  have k2 := key 2
  have k3 := key 3
  have k4 := key 4
  have k5 := key 5
  have k6 := key 6
  have k7 := key 7
  have hsum : (if 0 < n then 1 else 0) + (if 1 < n then 1 else 0) + (if 2 < n then 1 else 0) + (if 3 < n then 1 else 0) + (if 4 < n then 1 else 0) + (if 5 < n then 1 else 0) + (if 6 < n then 1 else 0) + (if 7 < n then 1 else 0) = n := by
    have : ∀ n, n ≤ 8 → (if 0 < n then 1 else 0) + (if 1 < n then 1 else 0) + (if 2 < n then 1 else 0) + (if 3 < n then 1 else 0) + (if 4 < n then 1 else 0) + (if 5 < n then 1 else 0) + (if 6 < n then 1 else 0) + (if 7 < n then 1 else 0) = n := by decide
    exact this n hn
  unfold pc
  omega
theorem chN_lt2 {T : TD} (hT : wfT T) (dy h s w : Nat) : chN T dy h s w < 2 ^ nrT T := by
  unfold chN dif
  exact Nat.lt_of_le_of_lt Nat.and_le_left (mk_lt _ _)
theorem ch_le {T : TD} (hT : wfT T) {dy h s w : Nat} (hs : s < 2 ^ nrT T) : pc (chN T dy h s w) + pc s ≤ nrT T := pc_dis hT.1 (chN_lt2 hT _ _ _ _) hs (fun i hi => (chN_bit hT hi).2)
theorem pc_nz : ∀ c, c < 256 → c ≠ 0 → 1 ≤ pc c := by decide +kernel
def stG (T : TD) (dy h : Nat) (wt : Nat → Bool) (f : Nat → Nat) (s w : Nat) : Nat := smx (chN T dy h s w) (fun x => f x + (if wt x then ltsN (nrT T - pc s - 1) else 0)) 8 * shN (nrT T - pc s) (pc (chN T dy h s w))
def gnV (T : TD) (dy h : Nat) (wt : Nat → Bool) (s w : Nat) : Nat := valV (stG T dy h wt) 0 s w
theorem stG_cong (T : TD) (dy h : Nat) (wt : Nat → Bool) : ∀ f g s w, (∀ x, (chN T dy h s w).testBit x = true → f x = g x) → stG T dy h wt f s w = stG T dy h wt g s w := by
  intro f g s w hfg
  unfold stG
  rw [smx_congr (fun x _ hx => by rw [hfg x hx])]
theorem gnV_rec {T : TD} (hT : wfT T) {dy h : Nat} {wt : Nat → Bool} {s w : Nat} (hs : s < 256) : gnV T dy h wt s w = smx (chN T dy h s w) (fun x => gnV T dy h wt (s ||| 2 ^ x) x + (if wt x then ltsN (nrT T - pc s - 1) else 0)) 8 * shN (nrT T - pc s) (pc (chN T dy h s w)) := valV_rec (stG_cong T dy h wt) (ch_dom hT dy h) hs
theorem smx_z (f : Nat → Nat) : ∀ n, smx 0 f n = 0
  | 0 => rfl
  | n + 1 => by rw [smx_s, Nat.zero_testBit, if_neg (by decide), smx_z f n]
theorem smx_le {M B : Nat} {f : Nat → Nat} : ∀ {n : Nat}, (∀ x, x < n → M.testBit x = true → f x ≤ B) → smx M f n ≤ smx M (fun _ => 1) n * B
  | 0, _ => by simp [smx, foR]
  | n + 1, h => by
    have ih := smx_le (n := n) (fun x hx => h x (by omega))
    rw [smx_s, smx_s]
    by_cases hb : M.testBit n = true
    · have := h n (by omega) hb
      rw [if_pos hb, if_pos hb, Nat.add_mul, Nat.one_mul]
      omega
    · rw [if_neg hb, if_neg hb]; exact ih
theorem smx_pc (M : Nat) : smx M (fun _ => 1) 8 = pc M := by
  unfold smx pc
  simp only [foR]
  cases M.testBit 0 <;> cases M.testBit 1 <;> cases M.testBit 2 <;> cases M.testBit 3 <;> cases M.testBit 4 <;> cases M.testBit 5 <;> cases M.testBit 6 <;> cases M.testBit 7 <;> rfl
theorem gnV_le {T : TD} (hT : wfT T) (dy h : Nat) (wt : Nat → Bool) : ∀ m s w, nrT T - pc s ≤ m → s < 2 ^ nrT T → 1 ≤ pc s → gnV T dy h wt s w ≤ (nrT T - pc s) * ltsN (nrT T - pc s) := by
  have hnr := hT.1
  have hpw := pow_le8 hnr
  intro m
  induction m with
  | zero =>
    intro s w hm hs hp
    have hc := ch_le hT (dy := dy) (h := h) (w := w) hs
    have h0 : chN T dy h s w = 0 := by
      apply Classical.byContradiction
      intro hn
      have := pc_nz _ (chN_lt hT dy h s w) hn
      omega
    rw [gnV_rec hT (by omega), h0, smx_z, Nat.zero_mul]
    exact Nat.zero_le _
  | succ m ih =>
    intro s w hm hs hp
    have hc := ch_le hT (dy := dy) (h := h) (w := w) hs
    rw [gnV_rec hT (by omega)]
    by_cases h0 : chN T dy h s w = 0
    · rw [h0, smx_z, Nat.zero_mul]
      exact Nat.zero_le _
    · have hc1 := pc_nz _ (chN_lt hT dy h s w) h0
      have hle := smx_le (M := chN T dy h s w) (f := fun x => gnV T dy h wt (s ||| 2 ^ x) x + (if wt x then ltsN (nrT T - pc s - 1) else 0)) (B := (nrT T - pc s) * ltsN (nrT T - pc s - 1)) (n := 8) (fun x hx hb => by
        obtain ⟨c1, c2⟩ := chN_bit hT hb
        have hpo := pc_or s (by omega) x (by omega) c2
        have := ih (s ||| 2 ^ x) x (by omega) (Nat.or_lt_two_pow hs (Nat.pow_lt_pow_right (by decide) c1)) (by omega)
        rw [hpo, show nrT T - (pc s + 1) = nrT T - pc s - 1 by omega] at this
        have e : (nrT T - pc s) * ltsN (nrT T - pc s - 1) = (nrT T - pc s - 1) * ltsN (nrT T - pc s - 1) + ltsN (nrT T - pc s - 1) := by
          rw [← Nat.succ_mul, show (nrT T - pc s - 1).succ = nrT T - pc s by omega]
        show gnV T dy h wt (s ||| 2 ^ x) x + (if wt x then ltsN (nrT T - pc s - 1) else 0) ≤ _
        have : (if wt x then ltsN (nrT T - pc s - 1) else 0) ≤ ltsN (nrT T - pc s - 1) := by
          cases wt x
          · exact Nat.zero_le _
          · exact Nat.le_refl _
        omega)
      rw [smx_pc] at hle
      have hsh := LT_sh (nrT T - pc s) (by omega) (pc (chN T dy h s w)) (by omega) hc1 (by omega)
      refine Nat.le_trans (Nat.mul_le_mul_right _ hle) (Nat.le_of_eq ?_)
      rw [← hsh]
      simp only [Nat.mul_comm, Nat.mul_left_comm, Nat.mul_assoc]
theorem jF_sum (c : Nat) (th : Nat → Nat) : ∀ n, (jF c th (fun u v => u + v) n).getD 0 = smx c th n
  | 0 => rfl
  | n + 1 => by
    have ih := jF_sum c th n
    rw [jF_step, smx_s, ← ih]
    by_cases hb : c.testBit n = true
    · rw [if_pos hb, if_pos hb]
      cases jF c th (fun u v => u + v) n with
      | none => show th n = 0 + th n; rw [Nat.zero_add]
      | some v => rfl
    · rw [if_neg hb, if_neg hb]
theorem jF_sum_le2 {c : Nat} {th : Nat → Nat} {M : Nat} (hM : ∀ x, c.testBit x = true → th x ≤ M) (n v : Nat) (hv : jF c th (fun u v => u + v) n = some v) : v ≤ n * M := by
  refine jF_inv (P := fun n v => v ≤ n * M) (fun x hx n hn => ?_) (fun x u hx hu => ?_) (fun n v hv => ?_) n v hv
  · have := hM x hx
    have : 1 * M ≤ n * M := Nat.mul_le_mul_right M (by omega)
    show th x ≤ n * M
    omega
  · have := hM x hx
    have e : (x + 1) * M = x * M + M := Nat.succ_mul x M
    have hu : u ≤ x * M := hu
    show u + th x ≤ (x + 1) * M
    omega
  · have e : (n + 1) * M = n * M + M := Nat.succ_mul n M
    have hv : v ≤ n * M := hv
    show v ≤ (n + 1) * M
    omega
theorem x_unread {T : TD} {I : zk_I} {s : Nat} (hT : wfT T) (hr : repC T I 3) (hs : s < 2 ^ nrT T) : f_X3_unread I (nI s) = nI (nrT T - pc s) := by
  have hnr := hT.1
  have hpw := pow_le8 hnr
  have h0 : pc 0 = 0 := pc0
  have := pc_dis hnr hs (Nat.two_pow_pos (nrT T)) (fun i _ => Nat.zero_testBit i)
  unfold f_X3_unread
  rw [zlt, pc_bits s (by omega), hr.1, nI_sub (by omega)]
theorem pc_le_n {n s : Nat} (hn : n ≤ 8) (hs : s < 2 ^ n) : pc s ≤ n := by
  have := pc_dis hn hs (Nat.two_pow_pos n) (fun i _ => Nat.zero_testBit i)
  omega
theorem i2l8 : ∀ r, r ≤ 8 → (nI r).toInt64 = lN r := by decide +kernel
theorem lN_nz {v : Nat} (hv : v < 2 ^ 62) (h : v ≠ 0) : ¬ lN v = (0 : Int64) := fun q => h (lN_inj (b := 0) hv (by decide) q)
theorem znl {v : Nat} (hv : v < 2 ^ 62) (h : v ≠ 0) : zk_nzl (lN v) = true := by
  unfold zk_nzl
  rw [decide_eq_false (lN_nz hv h)]
  rfl
theorem x_share {T : TD} {I : zk_I} {s c : Nat} (hT : wfT T) (hr : repC T I 3) (hs : s < 2 ^ nrT T) (hp : 1 ≤ pc s) (hc : 1 ≤ c) (hcu : c + pc s ≤ nrT T) : f_X3_shareOfLot I (nI s) (nI c) = some (lN (shN (nrT T - pc s) c)) := by
  have hnr := hT.1
  obtain ⟨l1, l2⟩ := LT_pos (nrT T - pc s - 1) (by omega)
  obtain ⟨k1, k2⟩ := LT_pos (nrT T - pc s) (by omega)
  have hmul : ltsN (nrT T - pc s - 1) * c ≤ 217728000 * 8 := Nat.mul_le_mul l2 (by omega)
  have hm1 : 1 * 1 ≤ ltsN (nrT T - pc s - 1) * c := Nat.mul_le_mul l1 hc
  have e1 : nI (nrT T - pc s) - (1 : Int32) = nI (nrT T - pc s - 1) := by rw [xlit 1, nI_sub (by omega)]
  unfold f_X3_shareOfLot
  rw [x_unread hT hr hs, zlt, e1, x_lots _ (by omega), zbd1, i2l8 c (by omega), lN_mul, if_neg (fun q => lN_nz (by omega) (by omega) (cmp0.mp q)), zlt, x_lots _ (by omega), zbd1, zck (znl (by omega) (by omega)), pk_lDiv (by omega) (by omega) (by omega)]
  rfl
theorem x_msG {T : TD} {dy h w0 : Nat} {I : zk_I} {J : zk_J} {a1 : Int32} {tb s w : Nat} {wt : Nat → Bool} (hT : wfT T) (hB : begC T dy h w0 I) (hs : s < 2 ^ nrT T) (hsub : s &&& h = h) (hw : w < nrT T) (hsw : s.testBit w = true) (h67 : a1 = (6 : Int32) ∨ a1 = (7 : Int32)) (hth : ∀ x, x < nrT T → (chN T dy h s w).testBit x = true → f_X3_throughOne I a1 (J tb (8 * (s ||| 2 ^ x) + x)) (nI s) (nI x) = some (lN (gnV T dy h wt (s ||| 2 ^ x) x + (if wt x then ltsN (nrT T - pc s - 1) else 0)))) : f_X3_measureOf I J a1 tb (nI s) (nI w) = some (lN (gnV T dy h wt s w)) := by
  have hnr := hT.1
  have hpw := pow_le8 hnr
  have hc := chN_lt hT dy h s w
  have hp1 : 1 ≤ pc s := pc_pos _ (by omega) _ (show w < 8 by omega) hsw
  have h14 : ¬ a1 = (1 : Int32) ∧ ¬ a1 = (4 : Int32) := by rcases h67 with h1 | h1 <;> subst h1 <;> decide
  have hcl := ch_le hT (dy := dy) (h := h) (w := w) hs
  have hbits : ∀ i, (chN T dy h s w).testBit i = true → i < nrT T := fun i q => (chN_bit hT q).1
  have hbd : ∀ x, (chN T dy h s w).testBit x = true → gnV T dy h wt (s ||| 2 ^ x) x + (if wt x then ltsN (nrT T - pc s - 1) else 0) ≤ 8 * 217728000 := by
    intro x hx
    obtain ⟨c1, c2⟩ := chN_bit hT hx
    have hpo := pc_or s (by omega) x (by omega) c2
    have hso : s ||| 2 ^ x < 2 ^ nrT T := Nat.or_lt_two_pow hs (Nat.pow_lt_pow_right (by decide) c1)
    have h1 := gnV_le hT dy h wt _ (s ||| 2 ^ x) x (Nat.le_refl _) hso (by omega)
    have h2 := pc_le_n hnr hso
    obtain ⟨l1, l2⟩ := LT_pos (nrT T - pc (s ||| 2 ^ x)) (by omega)
    obtain ⟨k1, k2⟩ := LT_pos (nrT T - pc s - 1) (by omega)
    have h3 : (nrT T - pc (s ||| 2 ^ x)) * ltsN (nrT T - pc (s ||| 2 ^ x)) ≤ 7 * 217728000 := Nat.mul_le_mul (by omega) l2
    have h4 : (if wt x then ltsN (nrT T - pc s - 1) else 0) ≤ 217728000 := by
      cases wt x
      · exact Nat.zero_le _
      · exact k2
    omega
  have hjb : ∀ n v, n ≤ nrT T → jF (chN T dy h s w) (fun x => gnV T dy h wt (s ||| 2 ^ x) x + (if wt x then ltsN (nrT T - pc s - 1) else 0)) (fun u v => u + v) n = some v → v ≤ n * (8 * 217728000) := by
    intro n v hn hv
    exact jF_sum_le2 hbd n v hv
  have hjn : ∀ u v : Nat, f_X3_join a1 (lN u) (lN v) = lN (u + v) := by
    intro u v
    rcases h67 with h1 | h1 <;> subst h1
    · show lN u + lN v = _
      rw [lN_add]
    · show lN u + lN v = _
      rw [lN_add]
  unfold f_X3_measureOf
  rw [zjp1, zjp0, if_neg h14.1, if_neg h14.2]
  dsimp only
  rw [zjp1, if_pos rfl, x_choices hT hB hs hsub hw, zbd1]
  dsimp only
  rw [gnV_rec hT (by omega)]
  by_cases h0 : chN T dy h s w = 0
  · rw [h0, if_pos (show nI 0 = (0 : Int32) from rfl), if_neg h14.1, smx_z, Nat.zero_mul]
    rfl
  · have hz : ¬ nI (chN T dy h s w) = (0 : Int32) := nz0 (by omega) h0
    have hc1 := pc_nz _ hc h0
    rw [if_neg hz, x_ms65 (th := fun x => gnV T dy h wt (s ||| 2 ^ x) x + (if wt x then ltsN (nrT T - pc s - 1) else 0)) (jn := fun u v => u + v) hT hB.1 (by omega) hc hth (fun n v hn hv => Nat.lt_of_le_of_lt (Nat.le_trans (hjb n v hn hv) (Nat.mul_le_mul_right _ (show n ≤ 8 by omega))) (by decide)) (fun x u _ _ _ => hjn u _)]
    have hif : ∀ (A B : Option Int64), (if a1 = (6 : Int32) then A else if a1 = (7 : Int32) then A else B) = A := by
      intro A B
      rcases h67 with h1 | h1
      · rw [if_pos h1]
      · by_cases h2 : a1 = (6 : Int32)
        · rw [if_pos h2]
        · rw [if_neg h2, if_pos h1]
    rw [zjp1, zjp0, hif]
    dsimp only
    rw [if_neg n10, zlt, pc_bits _ hc, x_share hT hB.1 hs hp1 hc1 hcl, zbd1]
    obtain ⟨x, hx8, hx⟩ := bit_ex _ hc h0
    obtain ⟨v, hv⟩ := jF_some (th := fun x => gnV T dy h wt (s ||| 2 ^ x) x + (if wt x then ltsN (nrT T - pc s - 1) else 0)) (jn := fun u v => u + v) (hbits x hx) hx
    have hsum := jF_sum (chN T dy h s w) (fun x => gnV T dy h wt (s ||| 2 ^ x) x + (if wt x then ltsN (nrT T - pc s - 1) else 0)) 8
    rw [jF_out8 hT.1 hbits, hv] at hsum
    have hsum : v = smx (chN T dy h s w) (fun x => gnV T dy h wt (s ||| 2 ^ x) x + (if wt x then ltsN (nrT T - pc s - 1) else 0)) 8 := hsum
    rw [hv, ← hsum]
    show some (lN v * lN (shN (nrT T - pc s) (pc (chN T dy h s w)))) = _
    rw [lN_mul]
theorem ms_mean {T : TD} {dy h w0 : Nat} {I : zk_I} {J : zk_J} {tb : Nat} (hT : wfT T) (hB : begC T dy h w0 I) : msOK T h (fun s w => lN (gnV T dy h (fun _ => true) s w)) I J 6 tb := by
  intro J' s w hs hsub hw hsw ho hf
  have hnr := hT.1
  have hpw := pow_le8 hnr
  have hp1 : 1 ≤ pc s := pc_pos _ (by omega) _ (show w < 8 by omega) hsw
  refine x_msG hT hB hs hsub hw hsw (Or.inl rfl) (fun x hx hb => ?_)
  have hcl := ch_le hT (dy := dy) (h := h) (w := w) hs
  have hc1 := pc_pos _ (chN_lt hT dy h s w) x (by omega) hb
  have e1 : nI (nrT T - pc s) - (1 : Int32) = nI (nrT T - pc s - 1) := by rw [xlit 1, nI_sub (by omega)]
  rw [flD_behind hT hf hs hsub hb]
  show zk_lt (f_X3_unread I (nI s)) (fun (r4 : Int32) => zk_bd1 (f_X3_lotsOf (r4 - (1 : Int32))) (fun (r6 : Int64) => some (lN (gnV T dy h (fun _ => true) (s ||| 2 ^ x) x) + r6))) = _
  rw [x_unread hT hB.1 hs, zlt, e1, x_lots _ (by omega), zbd1, lN_add, if_pos rfl]
theorem gn_zero {T : TD} (hT : wfT T) (dy h r : Nat) : ∀ m s w, 8 - pc s ≤ m → s < 256 → s.testBit r = true → gnV T dy h (fun x => decide (x = r)) s w = 0 := by
  have hnr := hT.1
  intro m
  induction m with
  | zero =>
    intro s w hm hs hr
    have h8 := pc_le s
    have h0 : chN T dy h s w = 0 := by
      apply Classical.byContradiction
      intro hn
      obtain ⟨x, hx8, hx⟩ := bit_ex _ (chN_lt hT dy h s w) hn
      have := pc_or s hs x hx8 (chN_bit hT hx).2
      have := pc_le (s ||| 2 ^ x)
      omega
    rw [gnV_rec hT hs, h0, smx_z, Nat.zero_mul]
  | succ m ih =>
    intro s w hm hs hr
    rw [gnV_rec hT hs]
    have : smx (chN T dy h s w) (fun x => gnV T dy h (fun x => decide (x = r)) (s ||| 2 ^ x) x + (if decide (x = r) then ltsN (nrT T - pc s - 1) else 0)) 8 = smx (chN T dy h s w) (fun _ => 0) 8 := smx_congr (fun x hx hb => by
      obtain ⟨c1, c2⟩ := chN_bit hT hb
      have hpo := pc_or s hs x hx c2
      rw [ih (s ||| 2 ^ x) x (by omega) (or_lt hs (p2_lt8 hx)) (by rw [Nat.testBit_or, hr, Bool.true_or])]
      have : ¬ x = r := fun q => by subst q; rw [hr] at c2; cases c2
      rw [decide_eq_false this, if_neg (by decide)])
    have h0 : ∀ n, smx (chN T dy h s w) (fun _ => 0) n = 0 := by
      intro n
      induction n with
      | zero => rfl
      | succ n ih2 => rw [smx_s, ih2]; split <;> rfl
    rw [this, h0, Nat.zero_mul]
theorem ms_odds {T : TD} {dy h w0 r : Nat} {I : zk_I} {J : zk_J} {tb : Nat} (hT : wfT T) (hB : begC T dy h w0 I) (hr : r < nrT T) (h63 : I 63 0 = nI r) : msOK T h (fun s w => lN (gnV T dy h (fun x => decide (x = r)) s w)) I J 7 tb := by
  intro J' s w hs hsub hw hsw ho hf
  have hnr := hT.1
  have hpw := pow_le8 hnr
  have hp1 : 1 ≤ pc s := pc_pos _ (by omega) _ (show w < 8 by omega) hsw
  refine x_msG hT hB hs hsub hw hsw (Or.inr rfl) (fun x hx hb => ?_)
  have hcl := ch_le hT (dy := dy) (h := h) (w := w) hs
  have hc1 := pc_pos _ (chN_lt hT dy h s w) x (by omega) hb
  have e1 : nI (nrT T - pc s) - (1 : Int32) = nI (nrT T - pc s - 1) := by rw [xlit 1, nI_sub (by omega)]
  rw [flD_behind hT hf hs hsub hb]
  show (if nI x = I 63 0 then (zk_lt (f_X3_unread I (nI s)) (fun (r9 : Int32) => zk_bd1 (f_X3_lotsOf (r9 - (1 : Int32))) (fun (r11 : Int64) => some r11))) else (some (lN (gnV T dy h (fun x => decide (x = r)) (s ||| 2 ^ x) x)))) = _
  rw [h63]
  by_cases he : x = r
  · subst he
    rw [if_pos rfl, x_unread hT hB.1 hs, zlt, e1, x_lots _ (by omega), zbd1, gn_zero hT dy h x 8 _ _ (by omega) (or_lt (by omega) (p2_lt8 (by omega))) (or_in _ _), decide_eq_true rfl, if_pos rfl, Nat.zero_add]
  · rw [if_neg (fun q => he (xl_inj (by omega) (by omega) q)), decide_eq_false he, if_neg (by decide), Nat.add_zero]

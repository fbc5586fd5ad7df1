/-! sums, and numbers that are handed on from place to place -/
def updN (a : Nat → Nat) (j v : Nat) : Nat → Nat := fun p => if p = j then v else a p
def nxP (k x : Nat) : Nat := 8 * (k / 8 ||| 2 ^ x) + x
def pshA (M k d : Nat) (a : Nat → Nat) (n : Nat) : Nat → Nat := foR (fun x (b : Nat → Nat) => if M.testBit x then updN b (nxP k x) (b (nxP k x) + d) else b) a n
def fwA (M c : Nat → Nat) (a0 : Nat → Nat) : Nat → Nat → Nat
  | 0 => a0
  | k + 1 => pshA (M k) k (fwA M c a0 k k * c k) (fwA M c a0 k) 8
def smx (M : Nat) (f : Nat → Nat) (n : Nat) : Nat := foR (fun x a => if M.testBit x then a + f x else a) 0 n
theorem smx_s (M : Nat) (f : Nat → Nat) (n : Nat) : smx M f (n + 1) = if M.testBit n then smx M f n + f n else smx M f n := rfl
theorem smx_congr {M : Nat} {f g : Nat → Nat} : ∀ {n : Nat}, (∀ x, x < n → M.testBit x = true → f x = g x) → smx M f n = smx M g n
  | 0, _ => rfl
  | n + 1, h => by
    rw [smx_s, smx_s, smx_congr (n := n) (fun x hx => h x (by omega))]
    by_cases hb : M.testBit n = true
    · rw [if_pos hb, if_pos hb, h n (by omega) hb]
    · rw [if_neg hb, if_neg hb]
theorem sm_congr {f g : Nat → Nat} : ∀ {n : Nat}, (∀ x, x < n → f x = g x) → sm f n = sm g n
  | 0, _ => rfl
  | n + 1, h => by
    rw [sm, sm, sm_congr (n := n) (fun x hx => h x (by omega)), h n (by omega)]
theorem sm_diff {f g : Nat → Nat} {k : Nat} (h : ∀ p, p ≠ k → f p = g p) : ∀ {n : Nat}, k < n → sm f n + g k = sm g n + f k
  | 0, hk => absurd hk (Nat.not_lt_zero _)
  | n + 1, hk => by
    rw [sm, sm]
    by_cases he : k = n
    · subst he
      have : sm f k = sm g k := sm_congr (fun x hx => h x (by omega))
      omega
    · have ih := sm_diff h (n := n) (by omega)
      have := h n (fun q => he q.symm)
      omega
theorem sm_le {f : Nat → Nat} : ∀ {n p : Nat}, p < n → f p ≤ sm f n
  | 0, _, hp => absurd hp (Nat.not_lt_zero _)
  | n + 1, p, hp => by
    rw [sm]
    by_cases he : p = n
    · subst he; omega
    · have := sm_le (f := f) (n := n) (p := p) (by omega)
      omega
theorem sm_one {v0 p0 : Nat} {w : Nat → Nat} : ∀ {n : Nat}, p0 < n → sm (fun p => (if p = p0 then v0 else 0) * w p) n = v0 * w p0
  | 0, h => absurd h (Nat.not_lt_zero _)
  | n + 1, h => by
    rw [sm]
    by_cases he : p0 = n
    · subst he
      have : sm (fun p => (if p = p0 then v0 else 0) * w p) p0 = sm (fun _ => 0) p0 := sm_congr (fun x hx => by rw [if_neg (by omega), Nat.zero_mul])
      have h0 : ∀ m, sm (fun _ => 0) m = 0 := by
        intro m
        induction m with
        | zero => rfl
        | succ m ih => rw [sm, ih]
      rw [this, h0, if_pos rfl, Nat.zero_add]
    · rw [sm_one (n := n) (by omega), if_neg (by omega), Nat.zero_mul, Nat.add_zero]
theorem sm_upd {a w : Nat → Nat} {j d n : Nat} (hj : j < n) : sm (fun p => updN a j (a j + d) p * w p) n = sm (fun p => a p * w p) n + d * w j := by
  have h := sm_diff (f := fun p => updN a j (a j + d) p * w p) (g := fun p => a p * w p) (k := j) (fun p hp => by
    show updN a j (a j + d) p * w p = a p * w p
    unfold updN
    rw [if_neg hp]) hj
  have e : updN a j (a j + d) j * w j = a j * w j + d * w j := by
    unfold updN
    rw [if_pos rfl, Nat.add_mul]
  have h : sm (fun p => updN a j (a j + d) p * w p) n + a j * w j = sm (fun p => a p * w p) n + updN a j (a j + d) j * w j := h
  rw [e] at h
  omega
theorem psh_sm {M k d N : Nat} {a w : Nat → Nat} : ∀ {n : Nat}, (∀ x, x < n → M.testBit x = true → nxP k x < N) → sm (fun p => pshA M k d a n p * w p) N = sm (fun p => a p * w p) N + d * smx M (fun x => w (nxP k x)) n
  | 0, _ => rfl
  | n + 1, h => by
    have ih := psh_sm (d := d) (a := a) (w := w) (n := n) (fun x hx => h x (by omega))
    have hst : pshA M k d a (n + 1) = if M.testBit n then updN (pshA M k d a n) (nxP k n) (pshA M k d a n (nxP k n) + d) else pshA M k d a n := rfl
    rw [hst, smx_s]
    by_cases hb : M.testBit n = true
    · rw [if_pos hb, if_pos hb, sm_upd (h n (by omega) hb), ih, Nat.mul_add]
      omega
    · rw [if_neg hb, if_neg hb, ih]
theorem psh_same {M k d p : Nat} {a : Nat → Nat} : ∀ {n : Nat}, (∀ x, x < n → M.testBit x = true → nxP k x ≠ p) → pshA M k d a n p = a p
  | 0, _ => rfl
  | n + 1, h => by
    have ih := psh_same (d := d) (a := a) (n := n) (fun x hx => h x (by omega))
    have hst : pshA M k d a (n + 1) = if M.testBit n then updN (pshA M k d a n) (nxP k n) (pshA M k d a n (nxP k n) + d) else pshA M k d a n := rfl
    rw [hst]
    by_cases hb : M.testBit n = true
    · rw [if_pos hb]
      unfold updN
      rw [if_neg (Ne.symm (h n (by omega) hb))]
      exact ih
    · rw [if_neg hb]; exact ih
def goM (M : Nat → Nat) : Prop := ∀ k, k < 2048 → ∀ x, (M k).testBit x = true → k < nxP k x ∧ nxP k x < 2048
theorem fw_stay {M c a0 : Nat → Nat} (hM : goM M) {k p : Nat} (hk : k < 2048) (hp : p ≤ k) : fwA M c a0 (k + 1) p = fwA M c a0 k p := by
  rw [fwA]
  exact psh_same (fun x _ hb => by have := (hM k hk x hb).1; omega)
theorem fw_stay' {M c a0 : Nat → Nat} (hM : goM M) {p : Nat} : ∀ k, p ≤ k → k ≤ 2048 → fwA M c a0 k p = fwA M c a0 p p := by
  intro k
  induction k with
  | zero => intro h _; rw [show p = 0 by omega]
  | succ k ih =>
    intro h1 h2
    by_cases he : p = k + 1
    · rw [he]
    · rw [fw_stay hM (by omega) (by omega)]
      exact ih (by omega) (by omega)
/-- what is kept -/
theorem fw_pot {M c a0 V W e : Nat → Nat} (hM : goM M) (hV : ∀ k, k < 2048 → fwA M c a0 k k ≠ 0 → V k = e k + c k * smx (M k) (fun x => W (nxP k x) + V (nxP k x)) 8) : ∀ k, k ≤ 2048 → sm (fun p => fwA M c a0 k p * (W p + if k ≤ p then V p else e p)) 2048 = sm (fun p => a0 p * (W p + V p)) 2048 := by
  intro k
  induction k with
  | zero =>
    intro _
    exact sm_congr (fun p _ => by rw [if_pos (Nat.zero_le _)]; rfl)
  | succ k ih =>
    intro hk
    rw [← ih (by omega)]
    have h1 := psh_sm (M := M k) (k := k) (d := fwA M c a0 k k * c k) (N := 2048) (a := fwA M c a0 k) (w := fun p => W p + if k + 1 ≤ p then V p else e p) (n := 8) (fun x _ hb => (hM k (by omega) x hb).2)
    have h2 : smx (M k) (fun x => W (nxP k x) + if k + 1 ≤ nxP k x then V (nxP k x) else e (nxP k x)) 8 = smx (M k) (fun x => W (nxP k x) + V (nxP k x)) 8 := smx_congr (fun x _ hb => by
      rw [if_pos (show k + 1 ≤ nxP k x by have := (hM k (by omega) x hb).1; omega)])
    have h3 := sm_diff (f := fun p => fwA M c a0 k p * (W p + if k + 1 ≤ p then V p else e p)) (g := fun p => fwA M c a0 k p * (W p + if k ≤ p then V p else e p)) (k := k) (n := 2048) (fun p hp => by
      show fwA M c a0 k p * (W p + if k + 1 ≤ p then V p else e p) = fwA M c a0 k p * (W p + if k ≤ p then V p else e p)
      by_cases h : k ≤ p
      · rw [if_pos h, if_pos (show k + 1 ≤ p by omega)]
      · rw [if_neg h, if_neg (show ¬ k + 1 ≤ p by omega)]) (by omega)
    have h3 : sm (fun p => fwA M c a0 k p * (W p + if k + 1 ≤ p then V p else e p)) 2048 + fwA M c a0 k k * (W k + if k ≤ k then V k else e k) = sm (fun p => fwA M c a0 k p * (W p + if k ≤ p then V p else e p)) 2048 + fwA M c a0 k k * (W k + if k + 1 ≤ k then V k else e k) := h3
    rw [if_pos (Nat.le_refl k), if_neg (show ¬ k + 1 ≤ k by omega), Nat.mul_add, Nat.mul_add] at h3
    have h1 : sm (fun p => fwA M c a0 (k + 1) p * (W p + if k + 1 ≤ p then V p else e p)) 2048 = sm (fun p => fwA M c a0 k p * (W p + if k + 1 ≤ p then V p else e p)) 2048 + fwA M c a0 k k * c k * smx (M k) (fun x => W (nxP k x) + if k + 1 ≤ nxP k x then V (nxP k x) else e (nxP k x)) 8 := h1
    rw [h1, h2]
    by_cases h0 : fwA M c a0 k k = 0
    · have z : ∀ y, fwA M c a0 k k * y = 0 := fun y => by rw [h0, Nat.zero_mul]
      rw [z (W k), z (V k), z (e k)] at h3
      rw [z (c k), Nat.zero_mul]
      omega
    · have h4 := hV k (by omega) h0
      have h5 : fwA M c a0 k k * V k = fwA M c a0 k k * e k + fwA M c a0 k k * c k * smx (M k) (fun x => W (nxP k x) + V (nxP k x)) 8 := by
        rw [h4, Nat.mul_add, Nat.mul_assoc]
      omega
theorem fw_bd {M c V : Nat → Nat} {v0 p0 : Nat} (hM : goM M) (hp : p0 < 2048) (hV : ∀ k, k < 2048 → fwA M c (fun p => if p = p0 then v0 else 0) k k ≠ 0 → c k * smx (M k) (fun x => V (nxP k x)) 8 ≤ V k) : ∀ k p, k ≤ 2048 → p < 2048 → fwA M c (fun p => if p = p0 then v0 else 0) k p * V p ≤ v0 * V p0 := by
  have key : ∀ k, k ≤ 2048 → ∀ p, k ≤ p → p < 2048 → fwA M c (fun p => if p = p0 then v0 else 0) k p * V p ≤ v0 * V p0 := by
    intro k hk p h1 h2
    have h := fw_pot (M := M) (c := c) (a0 := fun p => if p = p0 then v0 else 0) (V := V) (W := fun _ => 0) (e := fun k => V k - c k * smx (M k) (fun x => V (nxP k x)) 8) hM (fun k hk h0 => by
      have := hV k hk h0
      simp only [Nat.zero_add]
      omega) k hk
    simp only [Nat.zero_add] at h
    rw [sm_one hp] at h
    have h3 := sm_le (f := fun p => fwA M c (fun p => if p = p0 then v0 else 0) k p * (if k ≤ p then V p else V p - c p * smx (M p) (fun x => V (nxP p x)) 8)) (n := 2048) (p := p) h2
    have h3 : fwA M c (fun p => if p = p0 then v0 else 0) k p * (if k ≤ p then V p else V p - c p * smx (M p) (fun x => V (nxP p x)) 8) ≤ sm (fun p => fwA M c (fun p => if p = p0 then v0 else 0) k p * (if k ≤ p then V p else V p - c p * smx (M p) (fun x => V (nxP p x)) 8)) 2048 := h3
    rw [if_pos h1, h] at h3
    exact h3
  intro k p hk hp2
  by_cases h : k ≤ p
  · exact key k hk p h hp2
  · rw [fw_stay' hM k (by omega) hk]
    exact key p (by omega) p (Nat.le_refl _) hp2
theorem psh_pos {M k d p : Nat} {a : Nat → Nat} : ∀ {n : Nat}, pshA M k d a n p ≠ 0 → a p ≠ 0 ∨ (d ≠ 0 ∧ ∃ x, M.testBit x = true ∧ nxP k x = p)
  | 0, h => Or.inl h
  | n + 1, h => by
    have hst : pshA M k d a (n + 1) = if M.testBit n then updN (pshA M k d a n) (nxP k n) (pshA M k d a n (nxP k n) + d) else pshA M k d a n := rfl
    rw [hst] at h
    by_cases hb : M.testBit n = true
    · rw [if_pos hb] at h
      unfold updN at h
      by_cases he : p = nxP k n
      · rw [if_pos he] at h
        by_cases hd : d = 0
        · exact psh_pos (n := n) (fun q => h (by rw [← he, q, hd]))
        · exact Or.inr ⟨hd, n, hb, he.symm⟩
      · rw [if_neg he] at h
        exact psh_pos h
    · rw [if_neg hb] at h
      exact psh_pos h
theorem fw_sup {M c a0 : Nat → Nat} {P : Nat → Prop} (h0 : ∀ p, a0 p ≠ 0 → P p) (hs : ∀ k x, k < 2048 → P k → (M k).testBit x = true → P (nxP k x)) : ∀ k p, k ≤ 2048 → fwA M c a0 k p ≠ 0 → P p := by
  intro k
  induction k with
  | zero => intro p _ h; exact h0 p h
  | succ k ih =>
    intro p hk h
    rw [fwA] at h
    rcases psh_pos h with h | ⟨hd, x, hx, he⟩
    · exact ih p (by omega) h
    · rw [← he]
      refine hs k x (by omega) (ih k (by omega) (fun q => hd ?_)) hx
      rw [q, Nat.zero_mul]

/-! numbers, bits, masks, loops: pure -/
theorem xlit (n : Nat) : (OfNat.ofNat n : Int32) = nI n := Int32.toBitVec_inj.mp rfl
theorem xl_inj {a b : Nat} (ha : a < 2 ^ 31) (hb : b < 2 ^ 31) (h : nI a = nI b) : a = b := (nI_eq ha hb).mp h
theorem xb_tb (a : Nat) : (nI a).toBitVec = BitVec.ofNat 32 a := rfl
theorem xb_and (a b : Nat) : nI a &&& nI b = nI (a &&& b) := by
  apply Int32.toBitVec_inj.mp
  rw [Int32.toBitVec_and, xb_tb, xb_tb, xb_tb]
  apply BitVec.eq_of_getLsbD_eq
  intro i hi
  simp [BitVec.getLsbD_ofNat, Nat.testBit_and, hi]
theorem xb_or (a b : Nat) : nI a ||| nI b = nI (a ||| b) := by
  apply Int32.toBitVec_inj.mp
  rw [Int32.toBitVec_or, xb_tb, xb_tb, xb_tb]
  apply BitVec.eq_of_getLsbD_eq
  intro i hi
  simp [BitVec.getLsbD_ofNat, Nat.testBit_or, hi]
theorem xb_xor (a b : Nat) : nI a ^^^ nI b = nI (a ^^^ b) := by
  apply Int32.toBitVec_inj.mp
  rw [Int32.toBitVec_xor, xb_tb, xb_tb, xb_tb]
  apply BitVec.eq_of_getLsbD_eq
  intro i hi
  simp [BitVec.getLsbD_ofNat, Nat.testBit_xor, hi]
theorem xb_shl1 : ∀ k, k < 31 → nI 1 <<< (nI k &&& nI 31) = nI (2 ^ k) := by decide +kernel
theorem xb_sm : ∀ n, n < 32 → ((nI n &&& nI 31).toBitVec.smod 32).toNat = n := by decide +kernel
theorem xb_shr {a k : Nat} (ha : a < 2 ^ 31) (hk : k < 32) : nI a >>> (nI k &&& nI 31) = nI (a / 2 ^ k) := pk_shrN ha _ k (xb_sm k hk)
theorem xb_bit {a k : Nat} (ha : a < 2 ^ 31) (hk : k < 32) : (nI a >>> (nI k &&& nI 31)) &&& nI 1 = nI (if a.testBit k then 1 else 0) := by
  rw [xb_shr ha hk, xb_and]
  congr 1
  rw [Nat.testBit_eq_decide_div_mod_eq, Nat.and_one_is_mod]
  have := Nat.mod_two_eq_zero_or_one (a / 2 ^ k)
  by_cases h : a / 2 ^ k % 2 = 1
  · simp [h]
  · have h0 : a / 2 ^ k % 2 = 0 := by omega
    simp [h0]
/-- a without b, of sets below 256 -/
def dif (a b : Nat) : Nat := a &&& (b ^^^ 255)
theorem xb_m1 : (-(nI 1)) = nI 4294967295 := by decide +kernel
theorem dif_bit {a b : Nat} (ha : a < 256) (i : Nat) : (dif a b).testBit i = (a.testBit i && !b.testBit i) := by
  unfold dif
  rw [Nat.testBit_and, Nat.testBit_xor]
  by_cases hi : i < 8
  · have : (255 : Nat).testBit i = true := by
      have : ∀ i, i < 8 → (255 : Nat).testBit i = true := by decide
      exact this i hi
    rw [this]
    cases a.testBit i <;> cases b.testBit i <;> rfl
  · have : a.testBit i = false := Nat.testBit_lt_two_pow (Nat.lt_of_lt_of_le ha (by
      have : 2 ^ 8 ≤ 2 ^ i := Nat.pow_le_pow_right (by decide) (by omega)
      simpa using this))
    rw [this]
    simp
theorem xb_dif {a b : Nat} (ha : a < 256) : nI a &&& (nI b ^^^ (-(nI 1))) = nI (dif a b) := by
  rw [xb_m1, xb_xor, xb_and]
  congr 1
  apply Nat.eq_of_testBit_eq
  intro i
  rw [dif_bit ha, Nat.testBit_and, Nat.testBit_xor]
  by_cases hi : i < 8
  · have : (4294967295 : Nat).testBit i = true := by
      have : ∀ i, i < 8 → (4294967295 : Nat).testBit i = true := by decide
      exact this i hi
    rw [this]
    cases a.testBit i <;> cases b.testBit i <;> rfl
  · have : a.testBit i = false := Nat.testBit_lt_two_pow (Nat.lt_of_lt_of_le ha (by
      have : 2 ^ 8 ≤ 2 ^ i := Nat.pow_le_pow_right (by decide) (by omega)
      simpa using this))
    rw [this]
    simp
theorem dif_lt {a b : Nat} (ha : a < 256) : dif a b < 256 := Nat.lt_of_le_of_lt Nat.and_le_left ha
theorem or_lt {a b : Nat} (ha : a < 256) (hb : b < 256) : a ||| b < 256 := Nat.or_lt_two_pow (n := 8) ha hb
theorem and_lt {a b : Nat} (ha : a < 256) : a &&& b < 256 := Nat.lt_of_le_of_lt Nat.and_le_left ha
/-- the set of those below n with p -/
def mk (p : Nat → Bool) : Nat → Nat
  | 0 => 0
  | n + 1 => mk p n ||| (if p n then 2 ^ n else 0)
theorem mk_lt (p : Nat → Bool) : ∀ n, mk p n < 2 ^ n
  | 0 => Nat.one_pos
  | n + 1 => by
    have h := mk_lt p n
    have h2 : 2 ^ n < 2 ^ (n + 1) := Nat.pow_lt_pow_right (by decide) (by omega)
    refine Nat.or_lt_two_pow (by omega) ?_
    split <;> omega
theorem mk_bit (p : Nat → Bool) : ∀ n i, (mk p n).testBit i = (decide (i < n) && p i)
  | 0, i => by simp [mk]
  | n + 1, i => by
    have ih := mk_bit p n i
    have key : (if p n then 2 ^ n else 0).testBit i = (decide (i = n) && p n) := by
      by_cases hp : p n
      · simp only [hp, if_true, Nat.testBit_two_pow, Bool.and_true]
        by_cases hi : n = i
        · simp [hi]
        · simp [hi, Ne.symm hi]
      · simp [hp]
    rw [mk, Nat.testBit_or, ih, key]
    by_cases h1 : i < n
    · have h2 : i < n + 1 := by omega
      have h3 : ¬ i = n := by omega
      simp [h1, h2, h3]
    · by_cases h3 : i = n
      · subst h3
        simp
      · have h2 : ¬ i < n + 1 := by omega
        simp [h1, h2, h3]
theorem mk_congr {p q : Nat → Bool} : ∀ {n : Nat}, (∀ i, i < n → p i = q i) → mk p n = mk q n
  | 0, _ => rfl
  | n + 1, h => by
    rw [mk, mk, mk_congr (fun i hi => h i (by omega)), h n (by omega)]
theorem mk_lt8 (p : Nat → Bool) {n : Nat} (h : n ≤ 8) : mk p n < 256 := Nat.lt_of_lt_of_le (mk_lt p n) (by
  have : 2 ^ n ≤ 2 ^ 8 := Nat.pow_le_pow_right (by decide) h
  simpa using this)
theorem bit_lt {s n i : Nat} (h : s < 2 ^ n) (hb : s.testBit i = true) : i < n := by
  apply Nat.lt_of_not_le
  intro hn
  rw [Nat.testBit_lt_two_pow (Nat.lt_of_lt_of_le h (Nat.pow_le_pow_right (by decide) hn))] at hb
  cases hb
theorem bit_lt8 {s i : Nat} (h : s < 256) (hb : s.testBit i = true) : i < 8 := bit_lt (n := 8) h hb
/-- how many -/
def pc (s : Nat) : Nat := (if s.testBit 0 then 1 else 0) + (if s.testBit 1 then 1 else 0) + (if s.testBit 2 then 1 else 0) + (if s.testBit 3 then 1 else 0) + (if s.testBit 4 then 1 else 0) + (if s.testBit 5 then 1 else 0) + (if s.testBit 6 then 1 else 0) + (if s.testBit 7 then 1 else 0)
theorem pc_bits : ∀ s, s < 256 → f_J6_bitCount_0f7a4 (nI s) = nI (pc s) := by decide +kernel
theorem pc_le (s : Nat) : pc s ≤ 8 := by
  unfold pc
  repeat' split
  all_goals omega
theorem zl_up {σ β : Type} (F : Nat → Nat → σ → β) (K : σ → β) (S : Nat → σ) (e : Nat) (hx : ∀ n, F (n + 1) e (S e) = K (S e)) (hs : ∀ n i, i < e → F (n + 1) i (S i) = F n (i + 1) (S (i + 1))) : ∀ n i, i ≤ e → e - i < n → F n i (S i) = K (S e) := by
  intro n
  induction n with
  | zero => intro i _ h; omega
  | succ n ih =>
    intro i hi hn
    by_cases h : i = e
    · subst h
      exact hx n
    · rw [hs n i (by omega)]
      exact ih (i + 1) (by omega) (by omega)
theorem zin {k n : Nat} (h : k < n) (hn : n < 2 ^ 31) : zk_in (nI k) n = true := by
  simp only [zk_in, Bool.and_eq_true, decide_eq_true_eq]
  refine ⟨nI_pos' (by omega), ?_⟩
  rw [nI_clamp (by omega)]
  exact Nat.ble_eq_true_of_le h
theorem zck {α : Type} {b : Bool} (h : b = true) (x : Option α) : zk_ck b x = x := by rw [h]; rfl
theorem pc_ones : ∀ s, s < 256 → f_X8_ones (nI s) = some (nI (pc s)) := by decide +kernel
theorem x_hasBit {s b : Nat} (hs : s < 2 ^ 31) (hb : b < 32) : f_X7_hasBit (nI s) (nI b) = nI (if s.testBit b then 1 else 0) := by
  unfold f_X7_hasBit
  simp only [xlit, xb_bit hs hb]
  cases s.testBit b
  · rfl
  · rfl
/-! the words of the functions, undone by proofs (never by computing: a loop's fuel must stay folded) -/
theorem zlt {α γ : Type} (e : α) (F : α → γ) : zk_lt e F = F e := Eq.trans (Eq.refl (zk_lt e F)) (Eq.refl (F e))
theorem zjp0 {γ : Type} (F : γ) (B : (γ) → γ) : zk_jp0 F B = B F := Eq.trans (Eq.refl (zk_jp0 F B)) (Eq.refl (B F))
theorem zjp1 {A0 γ : Type} (F : A0 → γ) (B : (A0 → γ) → γ) : zk_jp1 F B = B F := Eq.trans (Eq.refl (zk_jp1 F B)) (Eq.refl (B F))
theorem zjp2 {A0 A1 γ : Type} (F : A0 → A1 → γ) (B : (A0 → A1 → γ) → γ) : zk_jp2 F B = B F := Eq.trans (Eq.refl (zk_jp2 F B)) (Eq.refl (B F))
theorem zjp3 {A0 A1 A2 γ : Type} (F : A0 → A1 → A2 → γ) (B : (A0 → A1 → A2 → γ) → γ) : zk_jp3 F B = B F := Eq.trans (Eq.refl (zk_jp3 F B)) (Eq.refl (B F))
theorem zjp4 {A0 A1 A2 A3 γ : Type} (F : A0 → A1 → A2 → A3 → γ) (B : (A0 → A1 → A2 → A3 → γ) → γ) : zk_jp4 F B = B F := Eq.trans (Eq.refl (zk_jp4 F B)) (Eq.refl (B F))
theorem zjp5 {A0 A1 A2 A3 A4 γ : Type} (F : A0 → A1 → A2 → A3 → A4 → γ) (B : (A0 → A1 → A2 → A3 → A4 → γ) → γ) : zk_jp5 F B = B F := Eq.trans (Eq.refl (zk_jp5 F B)) (Eq.refl (B F))
theorem zjp6 {A0 A1 A2 A3 A4 A5 γ : Type} (F : A0 → A1 → A2 → A3 → A4 → A5 → γ) (B : (A0 → A1 → A2 → A3 → A4 → A5 → γ) → γ) : zk_jp6 F B = B F := Eq.trans (Eq.refl (zk_jp6 F B)) (Eq.refl (B F))
theorem zjp7 {A0 A1 A2 A3 A4 A5 A6 γ : Type} (F : A0 → A1 → A2 → A3 → A4 → A5 → A6 → γ) (B : (A0 → A1 → A2 → A3 → A4 → A5 → A6 → γ) → γ) : zk_jp7 F B = B F := Eq.trans (Eq.refl (zk_jp7 F B)) (Eq.refl (B F))
theorem zbd1 {A β : Type} (a : A) (F : A → Option β) : zk_bd1 (some a) F = F a := Eq.trans (Eq.refl (zk_bd1 (some a) F)) (Eq.refl (F a))
theorem zbd2 {A B β : Type} (a : A) (b : B) (F : A → B → Option β) : zk_bd2 (some (a, b)) F = F a b := Eq.trans (Eq.refl (zk_bd2 (some (a, b)) F)) (Eq.refl (F a b))
theorem zbd3 {A B C β : Type} (a : A) (b : B) (c : C) (F : A → B → C → Option β) : zk_bd3 (some (a, b, c)) F = F a b c := Eq.trans (Eq.refl (zk_bd3 (some (a, b, c)) F)) (Eq.refl (F a b c))

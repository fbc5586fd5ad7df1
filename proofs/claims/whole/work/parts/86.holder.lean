/-! forged, holder -/
def orM (set : Nat) (A : Nat → Nat) (n : Nat) : Nat := foR (fun k a => if set.testBit k then a else a ||| 2 ^ A k) 0 n
theorem orM_s (set : Nat) (A : Nat → Nat) (n : Nat) : orM set A (n + 1) = if set.testBit n then orM set A n else orM set A n ||| 2 ^ A n := rfl
theorem orM_lt {set : Nat} {A : Nat → Nat} : ∀ n, (∀ k, k < n → A k < 8) → orM set A n < 256
  | 0, _ => (by decide : 0 < 256)
  | n + 1, h => by
    have ih := orM_lt (set := set) (A := A) n (fun k hk => h k (by omega))
    rw [orM_s]
    cases set.testBit n
    · exact or_lt ih (p2_lt8 (h n (by omega)))
    · exact ih
theorem x_lln {I : zk_I} {sz set : Nat} {A B : Nat → Nat} (hsz : sz ≤ 8) (h72 : I 72 0 = nI sz) (hA : ∀ k, k < sz → A k < 8 ∧ I 73 k = nI (A k)) (hB : ∀ k, k < sz → B k < 8 ∧ I 74 k = nI (B k)) (hset : set < 256) : ∃ r, f_X4_leastLastNamed I (nI set) = some r ∧ LST (fun x => (dif (orM set B sz) (orM set A sz)).testBit x) 8 r := by
  have hlA := orM_lt (set := set) (A := A) sz (fun k hk => (hA k hk).1)
  have hlB := orM_lt (set := set) (A := B) sz (fun k hk => (hB k hk).1)
  unfold f_X4_leastLastNamed
  have key := zl_up (fun n i (s : Int32 × Int32) => l_X4_leastLastNamed_7 I (nI set) (fun (z12 : Int32) (z13 : Int32) => zk_bd1 (f_X7_leastOf (z13 &&& (z12 ^^^ (-1 : Int32)))) (fun (r15 : Int32) => some r15)) n s.1 s.2 (nI i)) (fun s => zk_bd1 (f_X7_leastOf (s.2 &&& (s.1 ^^^ (-1 : Int32)))) (fun (r15 : Int32) => some r15)) (fun i => (nI (orM set A i), nI (orM set B i))) sz (fun n => ?_) (fun n i hi => ?_) 3000 0 (by omega) (by omega)
  · have key' : l_X4_leastLastNamed_7 I (nI set) (fun (z12 : Int32) (z13 : Int32) => zk_bd1 (f_X7_leastOf (z13 &&& (z12 ^^^ (-1 : Int32)))) (fun (r15 : Int32) => some r15)) 3000 0 0 0 = zk_bd1 (f_X7_leastOf (nI (orM set B sz) &&& (nI (orM set A sz) ^^^ (-1 : Int32)))) (fun (r15 : Int32) => some r15) := key
    have e : nI (orM set B sz) &&& (nI (orM set A sz) ^^^ (-1 : Int32)) = nI (dif (orM set B sz) (orM set A sz)) := xb_dif hlB
    obtain ⟨r, r1, r2⟩ := x_leastOf (dif_lt (b := orM set A sz) hlB)
    refine ⟨r, ?_, r2⟩
    rw [key', e, r1, zbd1]
  · rw [l_X4_leastLastNamed_7, h72, if_pos (nI_le (Nat.le_refl _) (by omega))]
  · obtain ⟨a1, a2⟩ := hA i hi
    obtain ⟨b1, b2⟩ := hB i hi
    rw [l_X4_leastLastNamed_7, h72, if_neg (nI_ge hi (by omega)), zlt, x_hasBit (by omega) (by omega), zjp2, q01, nI_1, orM_s, orM_s]
    cases hb : set.testBit i
    · rw [if_neg (by decide), zck (zin (show i < 8 by omega) (by decide)), nI_clamp (by omega), a2, zlt, zck (zin (show i < 8 by omega) (by decide)), b2, zlt, sh1 a1, sh1 b1, xb_or, xb_or, if_neg (by decide), if_neg (by decide)]
    · rw [if_pos rfl, if_pos rfl, if_pos rfl]
theorem x8_ho12 {I : zk_I} {sz set : Nat} {A B : Nat → Nat} (hsz : sz ≤ 8) (h76 : I 76 10 = nI sz) (hA : ∀ k, k < sz → A k < 8) (hB : ∀ k, k < sz → B k < 8) (h84 : ∀ k, k < sz → I 84 k = nI (8 * A k + B k)) (hset : set < 256) (K : Int32 → Int32 → Option (Int32 × zk_I)) : l_X8_holder_12 I (nI set) K 3000 0 0 0 = K (nI (orM set B sz)) (nI (orM set A sz)) := by
  have key := zl_up (fun n i (s : Int32 × Int32) => l_X8_holder_12 I (nI set) K n s.1 s.2 (nI i)) (fun s => K s.1 s.2) (fun i => (nI (orM set B i), nI (orM set A i))) sz (fun n => ?_) (fun n i hi => ?_) 3000 0 (by omega) (by omega)
  · exact key
  · rw [l_X8_holder_12, h76, if_pos (nI_le (Nat.le_refl _) (by omega))]
  · have a1 := hA i hi
    have b1 := hB i hi
    have hdiv : nI (8 * A i + B i) / (8 : Int32) = nI (A i) := by
      rw [xlit 8, pk_div (by omega) (by decide) (by decide), show (8 * A i + B i) / 8 = A i by omega]
    have hrem : nI (8 * A i + B i) - nI (A i) * (8 : Int32) = nI (B i) := by
      rw [xlit 8, pk_mul, nI_sub (by omega), show 8 * A i + B i - A i * 8 = B i by omega]
    have hbit : ((nI set >>> (nI i &&& 31)) &&& (1 : Int32)) = nI (if set.testBit i then 1 else 0) := by
      rw [xlit 1, xlit 31, xb_bit (by omega) (by omega)]
    have z0 : ∀ a : Nat, nI a ||| (0 : Int32) = nI a := fun a => by rw [show (0 : Int32) = nI 0 from rfl, xb_or, Nat.or_zero]
    rw [l_X8_holder_12, h76, if_neg (nI_ge hi (by omega)), hbit, q01, orM_s, orM_s]
    cases hb : set.testBit i
    · rw [if_neg (by decide), zlt, zjp1, if_neg n10, zck (zin (show i < 8 by omega) (by decide)), nI_clamp (by omega), h84 i hi, hdiv, hrem]
      dsimp only
      rw [zjp1, if_neg n10, zck (zin (show i < 8 by omega) (by decide)), sh1 a1, sh1 b1]
      dsimp only
      rw [xb_or, xb_or, if_neg (by decide), if_neg (by decide), nI_1]
    · rw [if_pos rfl, zlt, zjp1, if_pos rfl]
      dsimp only
      rw [zjp1, if_pos rfl]
      dsimp only
      rw [z0, z0, if_pos rfl, if_pos rfl, nI_1]
theorem x8_ho98 {I : zk_I} {a b : Nat} (hb : b < 256) (K : Int32 → Option (Int32 × zk_I)) : ∃ r, l_X8_holder_98 I (nI b) (nI a) K 3000 (-1) 7 = K r ∧ LST (fun x => (dif b a).testBit x) 8 r := by
  have hl := dif_lt (b := a) hb
  refine dn_loop8 (fun n v y => l_X8_holder_98 I (nI b) (nI a) K n v y) K (fun x => (dif b a).testBit x) (fun n v => ?_) (fun n v k hk => ?_)
  · rw [l_X8_holder_98, if_pos (show nI 0 - 1 < (0 : Int32) by decide)]
  · have e : nI b &&& (nI a ^^^ (-1 : Int32)) = nI (dif b a) := xb_dif hb
    have hbit : ((nI (dif b a) >>> (nI k &&& 31)) &&& (1 : Int32)) = nI (if (dif b a).testBit k then 1 else 0) := by
      rw [xlit 1, xlit 31, xb_bit (by omega) (by omega)]
    rw [l_X8_holder_98, if_neg (nI_pos (by omega)), e, hbit, zlt]
    cases (dif b a).testBit k
    · rw [if_neg (show ¬ nI (if false = true then 1 else 0) = (1 : Int32) by decide), if_neg (by decide)]
    · rw [if_pos (show nI (if true = true then 1 else 0) = (1 : Int32) from rfl), if_pos rfl]
theorem rel75 {I I1 : zk_I} (h : ∀ c, c ≠ 75 → I1 c = I c) : relC I I1 ∧ keepM I I1 := ⟨⟨by rw [h 0 (by decide)], by rw [h 1 (by decide)], fun c hc => h c (by omega)⟩, fun c hc => h c (by omega)⟩
theorem rel93 {I I1 : zk_I} (h : ∀ c, c ≠ 93 → I1 c = I c) : relM I I1 ∧ keepC I I1 := ⟨⟨by rw [h 76 (by decide)], by rw [h 76 (by decide)], by rw [h 76 (by decide)], fun c hc => h c (by omega)⟩, fun c hc => h c (by omega)⟩
abbrev szS (S : ST) : Nat := (slS S).1
abbrev saS (S : ST) : Nat → Nat := (slS S).2.1
abbrev sbS (S : ST) : Nat → Nat := (slS S).2.2
def fpS (S : ST) : Nat → Bool := fitB (okN (tdS S) (saS S) (sbS S)) (saS S) (sbS S) (szS S)
theorem fS_c {S : ST} (hw : wfS S) {I : zk_I} (hI : invC S I) : ∃ r I1, f_X4_forgedSet I = some (nI r, I1) ∧ (∀ c, c ≠ 75 → I1 c = I c) ∧ BST (fpS S) (2 ^ szS S - 1) r := by
  obtain ⟨-, hT, -, -, -, h8, hs⟩ := hw
  obtain ⟨-, cT, -, -, -, c1, c2⟩ := hI
  exact x_forgedSet hT cT h8 c1 (fun k hk => ⟨(hs k hk).1, (c2 k hk).1⟩) (fun k hk => ⟨(hs k hk).2.1, (c2 k hk).2⟩)
theorem fS_m {S : ST} (hw : wfS S) {I : zk_I} (hI : invM S I) : ∃ r I1, f_X8_forgedOnes I = some (nI r, I1) ∧ (∀ c, c ≠ 93 → I1 c = I c) ∧ BST (fpS S) (2 ^ szS S - 1) r := by
  obtain ⟨-, hT, -, -, -, h8, hs⟩ := hw
  obtain ⟨-, mT, -, -, -, c1, c2⟩ := hI
  exact x8_forgedOnes hT mT h8 c1 (fun k hk => (hs k hk).1) (fun k hk => (hs k hk).2.1) (fun k hk => c2 k hk)
theorem BST_ex (P : Nat → Bool) (al : Nat) : ∃ r, BST P al r := by
  have key : ∀ n, n ≤ al → ∃ r, r ≤ al ∧ (P r = true ∨ r = al) ∧ ∀ s, s ≤ al → al ≤ s + n → (P s = true ∨ s = al) → pc r < pc s ∨ (pc r = pc s ∧ r ≤ s) := by
    intro n
    induction n with
    | zero =>
      intro _
      refine ⟨al, Nat.le_refl _, Or.inr rfl, fun s h1 h2 h3 => ?_⟩
      have : s = al := by omega
      subst this
      exact Or.inr ⟨rfl, Nat.le_refl _⟩
    | succ n ih =>
      intro hn
      obtain ⟨r, r1, r2, r3⟩ := ih (by omega)
      by_cases hc : P (al - (n + 1)) = true ∧ pc (al - (n + 1)) ≤ pc r
      · refine ⟨al - (n + 1), by omega, Or.inl hc.1, fun s h1 h2 h3 => ?_⟩
        by_cases he : s = al - (n + 1)
        · subst he; exact Or.inr ⟨rfl, Nat.le_refl _⟩
        · have := r3 s h1 (by omega) h3
          omega
      · refine ⟨r, r1, r2, fun s h1 h2 h3 => ?_⟩
        by_cases he : s = al - (n + 1)
        · subst he
          rcases h3 with h3 | h3
          · have : ¬ pc (al - (n + 1)) ≤ pc r := fun q => hc ⟨h3, q⟩
            omega
          · omega
        · exact r3 s h1 (by omega) h3
  obtain ⟨r, r1, r2, r3⟩ := key al (Nat.le_refl _)
  exact ⟨r, r1, r2, fun s h1 h2 => r3 s h1 (by omega) h2⟩
theorem o_forged {S : ST} (hw : wfS S) (a : Int32) : opS S (fun I => f_X7_forged I a) (fun I => f_X8_forged I a) := by
  have h8 : szS S ≤ 8 := hw.2.2.2.2.2.1
  have hpw := pow_le8 h8
  have h1p : 1 ≤ 2 ^ szS S := Nat.one_le_two_pow
  unfold f_X7_forged f_X8_forged
  rcases arg_cases a (n := 2) (by decide) with h2 | ⟨i, hi, rfl⟩
  · obtain ⟨n0, n1⟩ := bad01 h2
    refine opS.no hw (-3) (fun I hI => ?_) (fun I hI => ?_)
    · rw [zjp0, if_neg n0, if_neg n1]
    · rw [in01 h2, zlt, if_pos rfl]
  · obtain ⟨r, hr⟩ := BST_ex (fpS S) (2 ^ szS S - 1)
    have hr8 : r < 256 := by have := hr.1; omega
    refine ⟨S, nI (if i = 0 then pc r else r), hw, fun I hI => ?_, fun I hI => ?_⟩
    · obtain ⟨r', I1, a1, a2, a3⟩ := fS_c hw hI
      refine ⟨I1, ?_, hI.fr (rel75 a2).1, (rel75 a2).2⟩
      rw [a3.uniq hr] at a1
      have hi01 : i = 0 ∨ i = 1 := by omega
      dsimp only
      rcases hi01 with rfl | rfl
      · rw [zjp0, if_pos (show nI 0 = (0 : Int32) from rfl), a1, zbd2, if_pos (show nI 0 = (0 : Int32) from rfl), zlt, pc_bits r hr8, if_pos rfl]
      · rw [zjp0, if_neg (show ¬ nI 1 = (0 : Int32) by decide), if_pos (show nI 1 = (1 : Int32) from rfl), a1, zbd2, if_neg (show ¬ nI 1 = (0 : Int32) by decide), if_neg (show ¬ 1 = 0 by decide)]
    · obtain ⟨r', I1, a1, a2, a3⟩ := fS_m hw hI
      refine ⟨I1, ?_, hI.fr (rel93 a2).1, (rel93 a2).2⟩
      rw [a3.uniq hr] at a1
      have hi01 : i = 0 ∨ i = 1 := by omega
      dsimp only
      rw [in01' i hi, zlt, if_neg n10, a1, zbd2]
      rcases hi01 with rfl | rfl
      · rw [if_pos (show nI 0 = (0 : Int32) from rfl), pc_ones r hr8, zbd1, if_pos rfl]
      · rw [if_neg (show ¬ nI 1 = (0 : Int32) by decide), if_neg (show ¬ 1 = 0 by decide)]
theorem o_holder {S : ST} (hw : wfS S) : opS S (fun I => f_X7_holder I) (fun I => f_X8_holder I) := by
  have h8 : szS S ≤ 8 := hw.2.2.2.2.2.1
  have hnr : nrT (tdS S) ≤ 8 := hw.2.1.1
  have hs : ∀ k, k < szS S → saS S k < nrT (tdS S) ∧ sbS S k < nrT (tdS S) ∧ saS S k ≠ sbS S k := hw.2.2.2.2.2.2
  have hpw := pow_le8 h8
  have h1p : 1 ≤ 2 ^ szS S := Nat.one_le_two_pow
  obtain ⟨r, hr⟩ := BST_ex (fpS S) (2 ^ szS S - 1)
  have hr8 : r < 256 := by have := hr.1; omega
  obtain ⟨v, hv⟩ := LST_ex (fun x => (dif (orM r (sbS S) (szS S)) (orM r (saS S) (szS S))).testBit x) 8
  refine ⟨S, v, hw, fun I hI => ?_, fun I hI => ?_⟩
  · obtain ⟨r', I1, a1, a2, a3⟩ := fS_c hw hI
    have hI1 : invC S I1 := hI.fr (rel75 a2).1
    refine ⟨I1, ?_, hI1, (rel75 a2).2⟩
    rw [a3.uniq hr] at a1
    obtain ⟨c1, c2⟩ := hI1.2.2.2.2.2
    obtain ⟨u, u1, u2⟩ := x_lln (I := I1) (sz := szS S) (set := r) (A := saS S) (B := sbS S) h8 c1 (fun k hk => ⟨by have := (hs k hk).1; omega, (c2 k hk).1⟩) (fun k hk => ⟨by have := (hs k hk).2.1; omega, (c2 k hk).2⟩) hr8
    unfold f_X7_holder
    dsimp only
    rw [a1, zbd2, u1, zbd1, u2.uniq hv]
  · obtain ⟨r', I1, a1, a2, a3⟩ := fS_m hw hI
    have hI1 : invM S I1 := hI.fr (rel93 a2).1
    refine ⟨I1, ?_, hI1, (rel93 a2).2⟩
    rw [a3.uniq hr] at a1
    obtain ⟨c1, c2⟩ := hI1.2.2.2.2.2
    have hlB := orM_lt (set := r) (A := sbS S) (szS S) (fun k hk => by have := (hs k hk).2.1; omega)
    obtain ⟨u, u1, u2⟩ := x8_ho98 (I := I1) (a := orM r (saS S) (szS S)) hlB (fun (z22 : Int32) => some (z22, I1))
    unfold f_X8_holder
    dsimp only
    rw [a1, zbd2, x8_ho12 (I := I1) (sz := szS S) (set := r) (A := saS S) (B := sbS S) h8 c1 (fun k hk => by have := (hs k hk).1; omega) (fun k hk => by have := (hs k hk).2.1; omega) (fun k hk => c2 k hk) hr8]
    rw [u1, u2.uniq hv]

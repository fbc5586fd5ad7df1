/-! what texts have told, as numbers -/
abbrev TD : Type := Nat × Nat × (Nat → Nat) × (Nat → Nat) × (Nat → Nat) × (Nat → Nat) × (Nat → Nat)
abbrev nrT (T : TD) : Nat := T.1
abbrev nbT (T : TD) : Nat := T.2.1
abbrev kdT (T : TD) : Nat → Nat := T.2.2.1
abbrev rkT (T : TD) : Nat → Nat := T.2.2.2.1
abbrev fdT (T : TD) : Nat → Nat := T.2.2.2.2.1
abbrev mvT (T : TD) : Nat → Nat := T.2.2.2.2.2.1
abbrev frT (T : TD) : Nat → Nat := T.2.2.2.2.2.2
def wfT (T : TD) : Prop := nrT T ≤ 8 ∧ nbT T ≤ 4 ∧ (∀ r, r < nrT T → kdT T r ≤ 3 ∧ rkT T r ≤ 9 ∧ fdT T r < 256 ∧ mvT T r ≤ 99) ∧ ∀ b, b < nbT T → frT T b < nrT T
def repC (T : TD) (I : zk_I) (t : Nat) : Prop := I t 0 = nI (nrT T) ∧ I t 1 = nI (nbT T) ∧ (∀ r, r < nrT T → I (t + 1) r = nI (kdT T r) ∧ I (t + 2) r = nI (rkT T r) ∧ I (t + 3) r = nI (fdT T r) ∧ I (t + 4) r = nI (mvT T r)) ∧ ∀ b, b < nbT T → I (t + 5) b = nI (frT T b)
def repM (T : TD) (I : zk_I) (c : Nat) : Prop := I c 0 = nI (nrT T) ∧ I c 1 = nI (nbT T) ∧ (∀ r, r < nrT T → I c (2 + r) = nI (kdT T r) ∧ I c (10 + r) = nI (rkT T r) ∧ I c (18 + r) = nI (fdT T r) ∧ I c (26 + r) = nI (mvT T r)) ∧ ∀ b, b < nbT T → I c (34 + b) = nI (frT T b)
def likesT (T : TD) (w x : Nat) : Bool := decide (kdT T w = 2) || (!(fdT T w).testBit x && (decide (kdT T w ≠ 1) || decide (rkT T w ≤ rkT T x)) && (decide (kdT T w ≠ 3) || decide (rkT T x ≤ rkT T w)))
def hereT (T : TD) (day x : Nat) : Bool := decide (mvT T x = 99) || decide (day < mvT T x)
def likedT (T : TD) (w : Nat) : Nat := mk (fun x => decide (x ≠ w) && likesT T w x) (nrT T)
def hereM (T : TD) (day : Nat) : Nat := mk (hereT T day) (nrT T)
def mayT (T : TD) (w day : Nat) : Nat := mk (fun x => decide (x ≠ w) && likesT T w x && hereT T day x) (nrT T)
theorem may_eq (T : TD) (w day : Nat) : likedT T w &&& hereM T day = mayT T w day := by
  apply Nat.eq_of_testBit_eq
  intro i
  rw [Nat.testBit_and, likedT, hereM, mayT, mk_bit, mk_bit, mk_bit]
  cases decide (i < nrT T) <;> simp
theorem x_likes {T : TD} {I : zk_I} (hw : wfT T) (hr : repC T I 3) {w x : Nat} (hw8 : w < nrT T) (hx8 : x < nrT T) : f_X6_likes I 3 (nI w) (nI x) = some (nI (if likesT T w x then 1 else 0)) := by
  obtain ⟨h1, h2, h3, h4⟩ := hw
  obtain ⟨r1, r2, r3, r4⟩ := hr
  obtain ⟨a1, a2, a3, a4⟩ := h3 w hw8
  obtain ⟨b1, b2, b3, b4⟩ := h3 x hx8
  obtain ⟨c1, c2, c3, c4⟩ := r3 w hw8
  obtain ⟨d1, d2, d3, d4⟩ := r3 x hx8
  have iw : zk_in (nI w) 8 = true := zin (by omega) (by decide)
  have ix : zk_in (nI x) 8 = true := zin (by omega) (by decide)
  unfold f_X6_likes
  simp only [zk_lt, zk_jp0, iw, ix, zck, nI_clamp (show w < 2 ^ 31 by omega), nI_clamp (show x < 2 ^ 31 by omega), c1, c2, c3, d2, x_hasBit (show fdT T w < 2 ^ 31 by omega) (show x < 32 by omega), xlit, nI_eq (show kdT T w < 2 ^ 31 by omega) (show 1 < 2 ^ 31 by decide), nI_eq (show kdT T w < 2 ^ 31 by omega) (show 2 < 2 ^ 31 by decide), nI_eq (show kdT T w < 2 ^ 31 by omega) (show 3 < 2 ^ 31 by decide), nI_ltI (show rkT T x < 2 ^ 31 by omega) (show rkT T w < 2 ^ 31 by omega), nI_ltI (show rkT T w < 2 ^ 31 by omega) (show rkT T x < 2 ^ 31 by omega)]
  unfold likesT
  have hk : kdT T w = 0 ∨ kdT T w = 1 ∨ kdT T w = 2 ∨ kdT T w = 3 := by omega
  have e0 : ¬ nI 1 = nI 0 := by decide
  rcases hk with hk | hk | hk | hk
  · cases hb : (fdT T w).testBit x <;> simp [hk, hb, e0]
  · cases hb : (fdT T w).testBit x
    · by_cases hlt : rkT T x < rkT T w
      · have : ¬ rkT T w ≤ rkT T x := by omega
        simp [hk, hb, hlt, this]
      · have : rkT T w ≤ rkT T x := by omega
        simp [hk, hb, hlt, this]
    · simp [hk, hb, e0]
  · simp [hk]
  · cases hb : (fdT T w).testBit x
    · by_cases hlt : rkT T w < rkT T x
      · have : ¬ rkT T x ≤ rkT T w := by omega
        simp [hk, hb, hlt, this]
      · have : rkT T x ≤ rkT T w := by omega
        simp [hk, hb, hlt, this]
    · simp [hk, hb, e0]

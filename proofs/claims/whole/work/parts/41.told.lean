/-! what texts have told, as numbers -/
abbrev TD : Type := Nat × Nat × (Nat → Nat) × (Nat → Nat) × (Nat → Nat) × (Nat → Nat) × (Nat → Nat)
abbrev nrT (T : TD) : Nat := T.1
abbrev nbT (T : TD) : Nat := T.2.1
abbrev kdT (T : TD) : Nat → Nat := T.2.2.1
abbrev rkT (T : TD) : Nat → Nat := T.2.2.2.1
abbrev fdT (T : TD) : Nat → Nat := T.2.2.2.2.1
abbrev mvT (T : TD) : Nat → Nat := T.2.2.2.2.2.1
abbrev frT (T : TD) : Nat → Nat := T.2.2.2.2.2.2
def wfT (T : TD) : Prop := nrT T ≤ 8 ∧ nbT T ≤ 4 ∧ (∀ r, r < nrT T → kdT T r ≤ 3 ∧ rkT T r ≤ 9 ∧ fdT T r < 256 ∧ mvT T r ≤ 99) ∧ ∀ b, b < nbT T → frT T b < nrT T
def repC (T : TD) (I : zk_I) (t : Nat) : Prop := I t 0 = nI (nrT T) ∧ I t 1 = nI (nbT T) ∧ (∀ r, r < nrT T → I (t + 1) r = nI (kdT T r) ∧ I (t + 2) r = nI (rkT T r) ∧ I (t + 3) r = nI (fdT T r) ∧ I (t + 4) r = nI (mvT T r)) ∧ ∀ b, b < nbT T → I (t + 5) b = nI (frT T b)
def repM (T : TD) (I : zk_I) (c : Nat) : Prop := I c 0 = nI (nrT T) ∧ I c 1 = nI (nbT T) ∧ (∀ r, r < nrT T → I c (2 + r) = nI (kdT T r) ∧ I c (10 + r) = nI (rkT T r) ∧ I c (18 + r) = nI (fdT T r) ∧ I c (26 + r) = nI (mvT T r)) ∧ ∀ b, b < nbT T → I c (34 + b) = nI (frT T b)
def likesT (T : TD) (w x : Nat) : Bool := decide (kdT T w = 2) || (!(fdT T w).testBit x && (decide (kdT T w ≠ 1) || decide (rkT T w ≤ rkT T x)) && (decide (kdT T w ≠ 3) || decide (rkT T x ≤ rkT T w)))
def hereT (T : TD) (day x : Nat) : Bool := decide (mvT T x = 99) || decide (day < mvT T x)
def likedT (T : TD) (w : Nat) : Nat := mk (fun x => decide (x ≠ w) && likesT T w x) (nrT T)
def hereM (T : TD) (day : Nat) : Nat := mk (hereT T day) (nrT T)
def mayT (T : TD) (w day : Nat) : Nat := mk (fun x => decide (x ≠ w) && likesT T w x && hereT T day x) (nrT T)
theorem may_eq (T : TD) (w day : Nat) : likedT T w &&& hereM T day = mayT T w day := by
  apply Nat.eq_of_testBit_eq
  intro i
  rw [Nat.testBit_and, likedT, hereM, mayT, mk_bit, mk_bit, mk_bit]
  cases decide (i < nrT T) <;> simp
theorem x_likes {T : TD} {I : zk_I} (hw : wfT T) (hr : repC T I 3) {w x : Nat} (hw8 : w < nrT T) (hx8 : x < nrT T) : f_X6_likes I 3 (nI w) (nI x) = some (nI (if likesT T w x then 1 else 0)) := by
  obtain ⟨h1, h2, h3, h4⟩ := hw
  obtain ⟨r1, r2, r3, r4⟩ := hr
  obtain ⟨a1, a2, a3, a4⟩ := h3 w hw8
  obtain ⟨b1, b2, b3, b4⟩ := h3 x hx8
  obtain ⟨c1, c2, c3, c4⟩ := r3 w hw8
  obtain ⟨d1, d2, d3, d4⟩ := r3 x hx8
  have iw : zk_in (nI w) 8 = true := zin (by omega) (by decide)
  have ix : zk_in (nI x) 8 = true := zin (by omega) (by decide)
  unfold f_X6_likes
  simp only [zk_lt, zk_jp0, iw, ix, zck, nI_clamp (show w < 2 ^ 31 by omega), nI_clamp (show x < 2 ^ 31 by omega), c1, c2, c3, d2, x_hasBit (show fdT T w < 2 ^ 31 by omega) (show x < 32 by omega), xlit, nI_eq (show kdT T w < 2 ^ 31 by omega) (show 1 < 2 ^ 31 by decide), nI_eq (show kdT T w < 2 ^ 31 by omega) (show 2 < 2 ^ 31 by decide), nI_eq (show kdT T w < 2 ^ 31 by omega) (show 3 < 2 ^ 31 by decide), nI_ltI (show rkT T x < 2 ^ 31 by omega) (show rkT T w < 2 ^ 31 by omega), nI_ltI (show rkT T w < 2 ^ 31 by omega) (show rkT T x < 2 ^ 31 by omega)]
  unfold likesT
  have hk : kdT T w = 0 ∨ kdT T w = 1 ∨ kdT T w = 2 ∨ kdT T w = 3 := by omega
  have e0 : ¬ nI 1 = nI 0 := by decide
  rcases hk with hk | hk | hk | hk
  · cases hb : (fdT T w).testBit x <;> simp [hk, hb, e0]
  · cases hb : (fdT T w).testBit x
    · by_cases hlt : rkT T x < rkT T w
      · have : ¬ rkT T w ≤ rkT T x := by omega
        simp [hk, hb, hlt, this]
      · have : rkT T w ≤ rkT T x := by omega
        simp [hk, hb, hlt, this]
    · simp [hk, hb, e0]
  · simp [hk]
  · cases hb : (fdT T w).testBit x
    · by_cases hlt : rkT T w < rkT T x
      · have : ¬ rkT T x ≤ rkT T w := by omega
        simp [hk, hb, hlt, this]
      · have : rkT T x ≤ rkT T w := by omega
        simp [hk, hb, hlt, this]
    · simp [hk, hb, e0]
theorem nI_1add (i : Nat) : nI i + nI 1 = nI (i + 1) := nI_add i 1
theorem mk_succ (p : Nat → Bool) (n : Nat) : mk p (n + 1) = mk p n ||| (if p n then 2 ^ n else 0) := rfl
theorem nI_le_no {a b : Nat} (h : a < b) (hb : b < 2 ^ 31) : ¬ nI b ≤ nI a := nI_ge h hb
theorem x_liked {T : TD} {I : zk_I} (hw : wfT T) (hr : repC T I 3) {w : Nat} (hw8 : w < nrT T) : f_X6_liked I 3 (nI w) = some (nI (likedT T w)) := by
  unfold f_X6_liked likedT
  have hn := hw.1
  refine (zl_up (fun n i (s : Int32) => l_X6_liked_4 I 3 (nI w) (fun z9 => some z9) n s (nI i)) (fun s => some s) (fun i => nI (mk (fun x => decide (x ≠ w) && likesT T w x) i)) (nrT T) (fun n => ?_) (fun n i hi => ?_) 3000 0 (by omega) (by omega))
  · simp only [l_X6_liked_4, hr.1]
    rw [if_pos (nI_le (Nat.le_refl _) (by omega))]
  · simp only [l_X6_liked_4, hr.1]
    rw [if_neg (nI_ge hi (by omega))]
    simp only [zk_jp1, zk_lt, zk_bd1, x_likes hw hr hw8 hi, xlit, nI_1add, nI_eq (show i < 2 ^ 31 by omega) (show w < 2 ^ 31 by omega), mk_succ, Option.bind_some, xb_shl1 i (by omega), xb_or]
    by_cases h : i = w
    · simp [h]
    · cases hl : likesT T w i
      · simp [h, hl]
      · have e0 : ¬ nI 1 = nI 0 := by decide
        simp [h, hl, e0]
theorem x_still {T : TD} {I : zk_I} (hw : wfT T) (hr : repC T I 3) {day : Nat} (hd : day < 2 ^ 30) : f_X6_stillHere I 3 (nI day) = some (nI (hereM T day)) := by
  unfold f_X6_stillHere hereM
  have hn := hw.1
  refine (zl_up (fun n i (s : Int32) => l_X6_stillHere_4 I 3 (nI day) (fun z9 => some z9) n s (nI i)) (fun s => some s) (fun i => nI (mk (hereT T day) i)) (nrT T) (fun n => ?_) (fun n i hi => ?_) 3000 0 (by omega) (by omega))
  · simp only [l_X6_stillHere_4, hr.1]
    rw [if_pos (nI_le (Nat.le_refl _) (by omega))]
  · obtain ⟨-, -, -, m1⟩ := hr.2.2.1 i hi
    obtain ⟨-, -, -, m2⟩ := hw.2.2.1 i hi
    simp only [l_X6_stillHere_4, hr.1]
    rw [if_neg (nI_ge hi (by omega))]
    simp only [zk_jp1, zk_jp0, zk_lt, zck (zin (show i < 8 by omega) (by decide)), nI_clamp (show i < 2 ^ 31 by omega), m1, xlit, nI_1add, nI_eq (show mvT T i < 2 ^ 31 by omega) (show 99 < 2 ^ 31 by decide), nI_leI (show mvT T i < 2 ^ 31 by omega) (show day < 2 ^ 31 by omega), mk_succ, xb_shl1 i (by omega), xb_or]
    by_cases h : mvT T i = 99
    · simp [h, hereT]
    · by_cases h2 : mvT T i ≤ day
      · have h3 : ¬ day < mvT T i := by omega
        simp [h, h2, h3, hereT]
      · have h3 : day < mvT T i := by omega
        simp [h, h2, h3, hereT]
theorem x_namable {T : TD} {I : zk_I} (hw : wfT T) (hr : repC T I 3) {w day : Nat} (hw8 : w < nrT T) (hd : day < 2 ^ 30) : f_X6_namable I 3 (nI w) (nI day) = some (nI (mayT T w day)) := by
  unfold f_X6_namable
  simp only [zk_bd1, x_liked hw hr hw8, x_still hw hr hd, Option.bind_some, xb_and, may_eq]
theorem nI_sub_neg {a b : Nat} (ha : a < 2 ^ 30) (hb : b < 2 ^ 30) : nI a - nI b < nI 0 ↔ a < b := by
  rw [Int32.lt_iff_toInt_lt, pk_sub_toInt ha hb, nI_toInt (by decide)]
  omega
theorem nI_sub_pos {a b : Nat} (ha : a < 2 ^ 30) (hb : b < 2 ^ 30) : nI 0 < nI a - nI b ↔ b < a := by
  rw [Int32.lt_iff_toInt_lt, pk_sub_toInt ha hb, nI_toInt (by decide)]
  omega
theorem x8_named {T : TD} {I : zk_I} (hw : wfT T) (hr : repM T I 78) {w day : Nat} (hw8 : w < nrT T) (hd : day < 2 ^ 30) : f_X8_named I (nI w) (nI day) = some (nI (mayT T w day)) := by
  unfold f_X8_named mayT
  have hn := hw.1
  obtain ⟨w1, w2, w3, w4⟩ := hr.2.2.1 w hw8
  obtain ⟨u1, u2, u3, u4⟩ := hw.2.2.1 w hw8
  refine (zl_up (fun n i (s : Int32) => l_X8_named_5 I (nI w) (nI day) (fun z9 => some z9) n s (nI i)) (fun s => some s) (fun i => nI (mk (fun x => decide (x ≠ w) && likesT T w x && hereT T day x) i)) (nrT T) (fun n => ?_) (fun n i hi => ?_) 3000 0 (by omega) (by omega))
  · simp only [l_X8_named_5, hr.1]
    rw [if_pos (nI_le (Nat.le_refl _) (by omega))]
  · obtain ⟨v1, v2, v3, v4⟩ := hr.2.2.1 i hi
    obtain ⟨t1, t2, t3, t4⟩ := hw.2.2.1 i hi
    simp only [l_X8_named_5, hr.1]
    rw [if_neg (nI_ge hi (by omega))]
    simp only [xlit, nI_add, zck (zin (show 26 + i < 38 by omega) (by decide)), zck (zin (show 2 + w < 38 by omega) (by decide)), zck (zin (show 10 + i < 38 by omega) (by decide)), zck (zin (show 10 + w < 38 by omega) (by decide)), zck (zin (show 18 + w < 38 by omega) (by decide)), nI_clamp (show 26 + i < 2 ^ 31 by omega), nI_clamp (show 2 + w < 2 ^ 31 by omega), nI_clamp (show 10 + i < 2 ^ 31 by omega), nI_clamp (show 10 + w < 2 ^ 31 by omega), nI_clamp (show 18 + w < 2 ^ 31 by omega), v4, w1, v2, w2, w3, zk_lt, zk_jp1, zk_jp0, nI_eq (show kdT T w < 2 ^ 31 by omega) (show 1 < 2 ^ 31 by decide), nI_eq (show kdT T w < 2 ^ 31 by omega) (show 2 < 2 ^ 31 by decide), nI_eq (show kdT T w < 2 ^ 31 by omega) (show 3 < 2 ^ 31 by decide), nI_eq (show mvT T i < 2 ^ 31 by omega) (show 99 < 2 ^ 31 by decide), nI_leI (show mvT T i < 2 ^ 31 by omega) (show day < 2 ^ 31 by omega), nI_eq (show i < 2 ^ 31 by omega) (show w < 2 ^ 31 by omega), nI_sub_neg (show rkT T i < 2 ^ 30 by omega) (show rkT T w < 2 ^ 30 by omega), nI_sub_pos (show rkT T i < 2 ^ 30 by omega) (show rkT T w < 2 ^ 30 by omega), xb_bit (show fdT T w < 2 ^ 31 by omega) (show i < 32 by omega), xb_shl1 i (by omega), mk_succ, likesT, hereT]
    have hk : kdT T w = 0 ∨ kdT T w = 1 ∨ kdT T w = 2 ∨ kdT T w = 3 := by omega
    have e0 : ¬ nI 1 = nI 0 := by decide
    have z0 : ∀ a : Nat, nI a ||| nI 0 = nI a := fun a => by rw [xb_or, Nat.or_zero]
    by_cases h1 : i = w
    · simp [h1, z0]
    · by_cases h2 : mvT T i = 99
      · simp only [← Nat.not_le]
        cases hb : (fdT T w).testBit i <;> rcases hk with hk | hk | hk | hk <;> by_cases hq : rkT T i ≤ rkT T w <;> by_cases hq2 : rkT T w ≤ rkT T i <;> simp [h1, h2, hb, hk, hq, hq2, e0, z0, xb_or]
      · by_cases h3 : mvT T i ≤ day
        · have h4 : ¬ day < mvT T i := by omega
          simp [h1, h2, h3, h4, z0]
        · have h4 : day < mvT T i := by omega
          have h5 : decide (day < mvT T i) = true := by simp [h4]
          rw [h5]
          simp only [← Nat.not_le]
          cases hb : (fdT T w).testBit i <;> rcases hk with hk | hk | hk | hk <;> by_cases hq : rkT T i ≤ rkT T w <;> by_cases hq2 : rkT T w ≤ rkT T i <;> simp [h1, h2, h3, hb, hk, hq, hq2, e0, z0, xb_or]

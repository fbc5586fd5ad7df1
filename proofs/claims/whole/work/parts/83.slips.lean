/-! slips: which can be of one row -/
theorem q10 {α : Type} (b : Bool) (A B : α) : (if nI (if b then 0 else 1) = (0 : Int32) then A else B) = if b then A else B := by
  cases b
  · rw [if_neg (show ¬ nI (if false = true then 0 else 1) = (0 : Int32) by decide), if_neg (by decide)]
  · rw [if_pos (show nI (if true = true then 0 else 1) = (0 : Int32) from rfl), if_pos rfl]
def scn (ok : Nat → Bool) (A B : Nat → Nat) (set : Nat) : Nat → Option ((Nat → Int32) × Nat)
  | 0 => some (fun _ => -1, 0)
  | k + 1 => match scn ok A B set k with
    | none => none
    | some q => if set.testBit k = true then some q else if q.1 (A k) = -1 ∧ q.2.testBit (B k) = false ∧ ok k = true then some (upd q.1 (A k) (nI (B k)), q.2 ||| 2 ^ B k) else none
def vaN (a : Int32) : Prop := a = -1 ∨ ∃ x, x < 8 ∧ a = nI x
theorem scn_none {ok : Nat → Bool} {A B : Nat → Nat} {set k : Nat} (h : scn ok A B set k = none) : ∀ m, scn ok A B set (k + m) = none
  | 0 => h
  | m + 1 => by
    show scn ok A B set ((k + m) + 1) = none
    rw [scn, scn_none h m]
theorem scn_val {ok : Nat → Bool} {A B : Nat → Nat} {set : Nat} : ∀ {n : Nat}, (∀ k, k < n → B k < 8) → ∀ {q}, scn ok A B set n = some q → (∀ j, vaN (q.1 j)) ∧ q.2 < 256
  | 0, _, q, h => by
    have : q = (fun _ => -1, 0) := (Option.some.inj h).symm
    rw [this]
    exact ⟨fun _ => Or.inl rfl, (by decide : 0 < 256)⟩
  | n + 1, hB, q, h => by
    rw [scn] at h
    cases hs : scn ok A B set n with
    | none => rw [hs] at h; cases h
    | some p =>
      rw [hs] at h
      obtain ⟨i1, i2⟩ := scn_val (fun k hk => hB k (by omega)) hs
      dsimp only at h
      by_cases hb : set.testBit n = true
      · rw [if_pos hb] at h
        rw [← Option.some.inj h]
        exact ⟨i1, i2⟩
      · rw [if_neg hb] at h
        by_cases hc : p.1 (A n) = -1 ∧ p.2.testBit (B n) = false ∧ ok n = true
        · rw [if_pos hc] at h
          rw [← Option.some.inj h]
          refine ⟨fun j => ?_, or_lt i2 (p2_lt8 (hB n (by omega)))⟩
          show vaN (upd p.1 (A n) (nI (B n)) j)
          by_cases hj : j = A n
          · subst hj; rw [pk_us]; exact Or.inr ⟨_, hB n (by omega), rfl⟩
          · rw [pk_un hj]; exact i1 j
        · rw [if_neg hc] at h; cases h
theorem scn_congr {ok ok' : Nat → Bool} {A B : Nat → Nat} {set : Nat} : ∀ {n : Nat}, (∀ k, k < n → set.testBit k = false → ok k = ok' k) → scn ok A B set n = scn ok' A B set n
  | 0, _ => rfl
  | n + 1, h => by
    rw [scn, scn, scn_congr (n := n) (fun k hk => h k (by omega))]
    cases hb : set.testBit n
    · rw [h n (by omega) hb]
    · rfl
theorem scn_bad {ok : Nat → Bool} {A B : Nat → Nat} {set n k : Nat} (hk : k < n) (hb : set.testBit k = false) (ho : ok k = false) : scn ok A B set n = none := by
  have h1 : scn ok A B set (k + 1) = none := by
    rw [scn]
    cases scn ok A B set k with
    | none => rfl
    | some q =>
      dsimp only
      rw [if_neg (by rw [hb]; decide), if_neg (fun q => by rw [ho] at q; exact absurd q.2.2 (by decide))]
  have := scn_none h1 (n - (k + 1))
  rw [show k + 1 + (n - (k + 1)) = n by omega] at this
  exact this
/-- who follows for so many steps -/
def chs (nm : Nat → Int32) : Nat → Int32 → Int32
  | 0, a => a
  | k + 1, a => if a = -1 then a else chs nm k (nm a.toNatClampNeg)
def endB (nm : Nat → Int32) : Nat → Bool
  | 0 => true
  | n + 1 => endB nm n && decide (chs nm 8 (nI n) = -1)
theorem endB_false {nm : Nat → Int32} {k : Nat} (h : endB nm k = false) : ∀ m, endB nm (k + m) = false
  | 0 => h
  | m + 1 => by
    show endB nm ((k + m) + 1) = false
    rw [endB, endB_false h m, Bool.false_and]
def fitB (ok : Nat → Bool) (A B : Nat → Nat) (n set : Nat) : Bool := match scn ok A B set n with
  | none => false
  | some q => endB q.1 8
theorem va8 : ∀ x, x < 8 → ¬ nI x = (-1 : Int32) := by decide
theorem x_ring12 {I : zk_I} {nm : Nat → Int32} (hv : ∀ j, vaN (nm j)) (h75 : ∀ j, j < 8 → I 75 j = nm j) (p1 : Int32) (K : Int32 → Option Int32) : ∀ m k a n, k + m = 8 → m < n → vaN a → l_X4_hasRing_12 I p1 K n a (nI k) = K (chs nm m a) := by
  intro m
  induction m with
  | zero =>
    intro k a n hk hn ha
    obtain ⟨n, rfl⟩ : ∃ k, n = k + 1 := ⟨n - 1, by omega⟩
    have : k = 8 := by omega
    subst this
    rw [l_X4_hasRing_12, if_pos (show (8 : Int32) ≤ nI 8 by decide)]
    rfl
  | succ m ih =>
    intro k a n hk hn ha
    obtain ⟨n, rfl⟩ : ∃ k, n = k + 1 := ⟨n - 1, by omega⟩
    rw [l_X4_hasRing_12, if_neg (show ¬ (8 : Int32) ≤ nI k from nI_ge (b := 8) (by omega) (by decide)), chs]
    rcases ha with ha | ⟨x, hx, ha⟩
    · rw [if_pos ha, if_pos ha]
    · subst ha
      rw [if_neg (va8 x hx), if_neg (va8 x hx), zck (zin hx (by decide)), nI_clamp (by omega), zlt, h75 x hx, nI_1]
      exact ih (k + 1) _ n (by omega) (by omega) (hv x)
theorem x_ring2 {I : zk_I} {nm : Nat → Int32} (hv : ∀ j, vaN (nm j)) (h75 : ∀ j, j < 8 → I 75 j = nm j) : ∀ m i n, i + m = 8 → m < n → endB nm i = true → l_X4_hasRing_2 I (some 0) n (nI i) = some (nI (if endB nm 8 then 0 else 1)) := by
  intro m
  induction m with
  | zero =>
    intro i n hi hn he
    obtain ⟨n, rfl⟩ : ∃ k, n = k + 1 := ⟨n - 1, by omega⟩
    have : i = 8 := by omega
    subst this
    rw [l_X4_hasRing_2, if_pos (show (8 : Int32) ≤ nI 8 by decide), he]
    rfl
  | succ m ih =>
    intro i n hi hn he
    obtain ⟨n, rfl⟩ : ∃ k, n = k + 1 := ⟨n - 1, by omega⟩
    rw [l_X4_hasRing_2, if_neg (show ¬ (8 : Int32) ≤ nI i from nI_ge (b := 8) (by omega) (by decide)), show (0 : Int32) = nI 0 from rfl, x_ring12 hv h75 (nI i) _ 8 0 (nI i) 3000 rfl (by decide) (Or.inr ⟨i, by omega, rfl⟩)]
    by_cases hc : chs nm 8 (nI i) = -1
    · rw [if_pos hc, nI_1]
      exact ih (i + 1) n (by omega) (by omega) (by rw [endB, he, decide_eq_true hc]; rfl)
    · have : endB nm (i + 1) = false := by rw [endB, he, decide_eq_false hc]; rfl
      have h8 := endB_false this (8 - (i + 1))
      rw [show i + 1 + (8 - (i + 1)) = 8 by omega] at h8
      rw [if_neg hc, h8]
      rfl
theorem x_hasRing {I : zk_I} {nm : Nat → Int32} (hv : ∀ j, vaN (nm j)) (h75 : ∀ j, j < 8 → I 75 j = nm j) : f_X4_hasRing I = some (nI (if endB nm 8 then 0 else 1)) := x_ring2 hv h75 8 0 3000 rfl (by decide) rfl
/-- the followers laid into cell c -/
def fwI (I : zk_I) (c : Nat) (nm : Nat → Int32) : zk_I := zk_sc I c (fun j => if j < 8 then nm j else I c j)
theorem fw_n (I : zk_I) {c a : Nat} (nm : Nat → Int32) (h : a ≠ c) : fwI I c nm a = I a := zk_sc_n _ _ h
theorem fw_s (I : zk_I) (c : Nat) (nm : Nat → Int32) {j : Nat} (h : j < 8) : fwI I c nm c j = nm j := by
  unfold fwI
  rw [zk_sc_s, if_pos h]
theorem fw_up (I : zk_I) (c : Nat) (nm : Nat → Int32) {a : Nat} (h : a < 8) (v : Int32) : zk_sc (fwI I c nm) c (upd (fwI I c nm c) a v) = fwI I c (upd nm a v) := by
  unfold fwI
  rw [sc_sc, zk_sc_s]
  congr 1
  funext j
  by_cases hj : j = a
  · subst hj; rw [pk_us, if_pos h, pk_us]
  · rw [pk_un hj]
    by_cases h8 : j < 8
    · rw [if_pos h8, if_pos h8, pk_un hj]
    · rw [if_neg h8, if_neg h8]
theorem x_fillm {I : zk_I} {c an : Nat} (ha : an < 2 ^ 31) (hn : an < 2999) (v : Int32) : f_J7_fill_53178 I c an v = some (zk_sc I c (fun j => if j < an then v else I c j)) := by
  unfold f_J7_fill_53178
  have h0 : I = zk_sc I c (fun j => if j < 0 then v else I c j) := by
    funext a
    by_cases hc : a = c
    · subst hc
      rw [zk_sc_s]
      funext j
      rw [if_neg (by omega)]
    · rw [zk_sc_n _ _ hc]
  have key := zl_up (fun n i (s : zk_I) => l_J7_fill_53178_5 c an v (nI an) (fun (I4 : zk_I) => some I4) n (nI i) s) (fun s => some s) (fun i => zk_sc I c (fun j => if j < i then v else I c j)) an (fun n => ?_) (fun n i hi => ?_) 3000 0 (by omega) (by omega)
  · rw [← h0] at key
    exact key
  · simp only [l_J7_fill_53178_5]
    rw [if_pos (nI_le (Nat.le_refl _) ha)]
  · rw [l_J7_fill_53178_5, if_neg (nI_ge hi ha), zck (zin hi ha), nI_clamp (by omega), zlt, nI_1, sc_sc, zk_sc_s, up_if _ (fun _ => v) _ rfl]
theorem fw_0 (I : zk_I) (c : Nat) (v : Int32) : zk_sc I c (fun j => if j < 8 then v else I c j) = fwI I c (fun _ => v) := rfl
theorem x_fit12 {I : zk_I} {sz set : Nat} {A B : Nat → Nat} (hsz : sz ≤ 8) (h72 : I 72 0 = nI sz) (hA : ∀ k, k < sz → A k < 8 ∧ I 73 k = nI (A k)) (hB : ∀ k, k < sz → B k < 8 ∧ I 74 k = nI (B k)) (hset : set < 256) (K : zk_I → Option (Int32 × zk_I)) : ∀ m i n q, i + m = sz → m < n → scn (fun _ => true) A B set i = some q → (scn (fun _ => true) A B set sz = none → ∃ I1, l_X4_fitWithout_12 (nI set) K n (nI q.2) (nI i) (fwI I 75 q.1) = some (0, I1) ∧ ∀ c, c ≠ 75 → I1 c = I c) ∧ ∀ q', scn (fun _ => true) A B set sz = some q' → l_X4_fitWithout_12 (nI set) K n (nI q.2) (nI i) (fwI I 75 q.1) = K (fwI I 75 q'.1) := by
  intro m
  induction m with
  | zero =>
    intro i n q hi hn hq
    obtain ⟨n, rfl⟩ : ∃ k, n = k + 1 := ⟨n - 1, by omega⟩
    have : i = sz := by omega
    subst this
    refine ⟨fun h => (by rw [hq] at h; cases h), fun q' h => ?_⟩
    rw [hq] at h
    rw [← Option.some.inj h, l_X4_fitWithout_12, fw_n _ _ (by decide), h72, if_pos (nI_le (Nat.le_refl _) (by omega))]
  | succ m ih =>
    intro i n q hi hn hq
    obtain ⟨n, rfl⟩ : ∃ k, n = k + 1 := ⟨n - 1, by omega⟩
    obtain ⟨hv, hby⟩ := scn_val (fun k hk => (hB k (by omega)).1) hq
    obtain ⟨a1, a2⟩ := hA i (by omega)
    obtain ⟨b1, b2⟩ := hB i (by omega)
    have hst : scn (fun _ => true) A B set (i + 1) = if set.testBit i = true then some q else if q.1 (A i) = -1 ∧ q.2.testBit (B i) = false ∧ true = true then some (upd q.1 (A i) (nI (B i)), q.2 ||| 2 ^ B i) else none := by
      rw [scn, hq]
    rw [l_X4_fitWithout_12, fw_n _ _ (by decide), h72, if_neg (nI_ge (by omega) (by omega)), zlt, x_hasBit (by omega) (by omega)]
    have bad : scn (fun _ => true) A B set (i + 1) = none → (scn (fun _ => true) A B set sz = none → ∃ I1, some ((0 : Int32), fwI I 75 q.1) = some (0, I1) ∧ ∀ c, c ≠ 75 → I1 c = I c) ∧ ∀ q', scn (fun _ => true) A B set sz = some q' → some ((0 : Int32), fwI I 75 q.1) = K (fwI I 75 q'.1) := by
      intro hn1
      have h2 := scn_none hn1 m
      rw [show i + 1 + m = sz by omega] at h2
      refine ⟨fun _ => ⟨_, rfl, fun c hc => fw_n _ _ hc⟩, fun q' h => ?_⟩
      rw [h2] at h
      cases h
    rw [zjp2, q01, nI_1]
    cases hb : set.testBit i
    · rw [if_neg (by decide)]
      rw [hb, if_neg (by decide)] at hst
      rw [zck (zin (show i < 8 by omega) (by decide)), nI_clamp (show i < 2 ^ 31 by omega), fw_n _ _ (show 73 ≠ 75 by decide), a2, zck (zin a1 (by decide)), nI_clamp (show A i < 2 ^ 31 by omega), fw_s _ _ _ a1]
      by_cases h1 : q.1 (A i) = -1
      · rw [if_pos h1, zck (zin (show i < 8 by omega) (by decide)), fw_n _ _ (show 74 ≠ 75 by decide), b2, x_hasBit (by omega) (by omega), zlt, q01]
        cases hby2 : q.2.testBit (B i)
        · rw [if_pos ⟨h1, hby2, rfl⟩] at hst
          rw [if_neg (by decide), zck (zin (show i < 8 by omega) (by decide)), zck (zin (show i < 8 by omega) (by decide)), zck (zin a1 (by decide)), zlt, fw_up _ _ _ a1, zck (zin (show i < 8 by omega) (by decide)), zlt, fw_n _ _ (show 74 ≠ 75 by decide), b2, sh1 b1, xb_or]
          exact ih (i + 1) n _ (by omega) (by omega) hst
        · rw [if_pos rfl]
          exact bad (by rw [hst, if_neg (fun q => by rw [hby2] at q; exact absurd q.2.1 (by decide))])
      · rw [if_neg h1]
        exact bad (by rw [hst, if_neg (fun q => h1 q.1)])
    · rw [if_pos rfl]
      rw [hb, if_pos rfl] at hst
      exact ih (i + 1) n q (by omega) (by omega) hst
theorem x_fit {I : zk_I} {sz set : Nat} {A B : Nat → Nat} (hsz : sz ≤ 8) (h72 : I 72 0 = nI sz) (hA : ∀ k, k < sz → A k < 8 ∧ I 73 k = nI (A k)) (hB : ∀ k, k < sz → B k < 8 ∧ I 74 k = nI (B k)) (hset : set < 256) : ∃ I1, f_X4_fitWithout I (nI set) = some (nI (if fitB (fun _ => true) A B sz set then 1 else 0), I1) ∧ ∀ c, c ≠ 75 → I1 c = I c := by
  unfold f_X4_fitWithout
  rw [x_fillm (by decide) (by decide), zbd1, fw_0]
  obtain ⟨h1, h2⟩ := x_fit12 (I := I) hsz h72 hA hB hset (fun (I23 : zk_I) => zk_bd1 (f_X4_hasRing I23) (fun (r25 : Int32) => (if r25 = 0 then (some ((1 : Int32), I23)) else (some ((0 : Int32), I23))))) sz 0 3000 (fun _ => -1, 0) (by omega) (by omega) rfl
  unfold fitB
  cases hs : scn (fun _ => true) A B set sz with
  | none =>
    obtain ⟨I1, e1, e2⟩ := h1 hs
    exact ⟨I1, e1, e2⟩
  | some q =>
    refine ⟨fwI I 75 q.1, (h2 q hs).trans ?_, fun c hc => fw_n _ _ hc⟩
    obtain ⟨hv, hby⟩ := scn_val (fun k hk => (hB k hk).1) hs
    rw [x_hasRing hv (fun j hj => fw_s _ _ _ hj), zbd1]
    dsimp only
    rw [q10]
    by_cases he : endB q.1 8 = true
    · rw [if_pos he, if_pos he]; rfl
    · rw [if_neg he, if_neg he]; rfl

/-! the reference's tokens -/
theorem x8_at {x : TX} {I : zk_I} (hx : wfX x) (hm : tM x I) {i : Nat} (hi : i ≤ x.1) : f_X8_letterAt I (nI i) = some (if i < x.1 then nI (x.2 i) else -1) := by
  have hL := hx.1
  unfold f_X8_letterAt
  rw [hm.1]
  by_cases h : i < x.1
  · rw [if_neg (nI_ge h (by omega)), if_pos h, zck (zin (show i < 160 by omega) (by decide)), nI_clamp (show i < 2 ^ 31 by omega), hm.2 i h]
  · rw [if_pos (nI_le (by omega) (by omega)), if_neg h]
def s13 (I : zk_I) (i : Nat) : zk_I := zk_sc I 76 (upd (I 76) 13 (nI i))
theorem s13_id {I : zk_I} {i : Nat} (h : I 76 13 = nI i) : I = s13 I i := by
  unfold s13
  funext c
  by_cases hc : c = 76
  · subst hc
    rw [zk_sc_s]
    funext j
    by_cases hj : j = 13
    · subst hj; rw [pk_us]; exact h
    · rw [pk_un hj]
  · rw [zk_sc_n _ _ hc]
theorem s13_13 (I : zk_I) (i : Nat) : s13 I i 76 13 = nI i := by unfold s13; rw [zk_sc_s, pk_us]
theorem s13_o (I : zk_I) (i : Nat) {j : Nat} (h : j ≠ 13) : s13 I i 76 j = I 76 j := by unfold s13; rw [zk_sc_s, pk_un h]
theorem s13_c (I : zk_I) (i : Nat) {c : Nat} (h : c ≠ 76) : s13 I i c = I c := by unfold s13; rw [zk_sc_n _ _ h]
theorem s13_s (I : zk_I) (i j : Nat) : zk_sc (s13 I i) 76 (upd (s13 I i 76) 13 (nI j)) = s13 I j := by
  unfold s13
  rw [sc_sc, zk_sc_s]
  congr 1
  funext q
  by_cases hq : q = 13
  · subst hq; rw [pk_us, pk_us]
  · rw [pk_un hq, pk_un hq, pk_un hq]
theorem tM_13 {x : TX} {I : zk_I} (h : tM x I) (i : Nat) : tM x (s13 I i) := h.fr (s13_o I i (by decide)) (s13_c I i (by decide))
theorem x8_skip {x : TX} {I : zk_I} (hx : wfX x) (hm : tM x I) {e : Nat} (he : e ≤ x.1) (h13 : I 76 13 = nI e) (K : zk_I → Option zk_I) : l_X8_token_0 K 3000 I = K (s13 I (tS x e)) := by
  have hL := hx.1
  have key := sk_loop (fun n (_ : Nat) (s : zk_I) => l_X8_token_0 K n s) (fun _ s => K s) (fun i => s13 I i) (pS x) x.1 pS_lt (fun n i hi hp => ?_) (fun n i hp => ?_) 160 3000 e he (by omega) (by omega)
  · rw [← s13_id h13] at key
    exact key
  · simp only [l_X8_token_0, s13_13, x8_at hx (tM_13 hm i) hi, zbd1]
    by_cases hlt : i < x.1
    · rw [if_pos hlt]
      have hne : ¬ nI (x.2 i) = (32 : Int32) := fun q => by
        have := xl_inj (b := 32) (by have := hx.2 i hlt; omega) (by decide) q
        simp [pS, hlt, this] at hp
      rw [if_neg hne]
    · rw [if_neg hlt, if_neg (by decide)]
  · have hlt := pS_lt i hp
    have h32 : x.2 i = 32 := by simp [pS] at hp; exact hp.2
    simp only [l_X8_token_0, s13_13, x8_at hx (tM_13 hm i) (Nat.le_of_lt hlt), zbd1]
    rw [if_pos hlt, h32, if_pos (show nI 32 = (32 : Int32) by decide)]
    simp only [zlt, nI_1, s13_s]
theorem x8_run1 {x : TX} {I : zk_I} (hx : wfX x) (hm : tM x I) {e : Nat} (he : e ≤ x.1) (h13 : I 76 13 = nI e) (h11 : I 76 11 = nI 1) (K : zk_I → Option zk_I) : l_X8_token_83 K 3000 I = K (s13 I (sk (pK x 1) 160 e)) := by
  have hL := hx.1
  have h11' : ∀ i, s13 I i 76 11 = (1 : Int32) := fun i => by rw [s13_o I i (by decide), h11]; rfl
  have key := sk_loop (fun n (_ : Nat) (s : zk_I) => l_X8_token_83 K n s) (fun _ s => K s) (fun i => s13 I i) (pK x 1) x.1 pK_lt (fun n i hi hp => ?_) (fun n i hp => ?_) 160 3000 e he (by omega) (by omega)
  · rw [← s13_id h13] at key
    exact key
  · simp only [l_X8_token_83, h11', if_true, s13_13, x8_at hx (tM_13 hm i) hi, zbd1]
    by_cases hlt : i < x.1
    · have hne : ¬ sqV (x.2 i) = 1 := fun q => by simp [pK, hlt, q] at hp
      rw [if_pos hlt, x8_isLetter _ (hx.2 i hlt), zbd1, if_neg hne, if_pos (show nI 0 = (0 : Int32) from rfl)]
    · rw [if_neg hlt, x8_isLetter_m, zbd1, if_pos rfl]
  · have hlt := pK_lt i hp
    have hs : sqV (x.2 i) = 1 := by simp [pK] at hp; exact hp.2
    simp only [l_X8_token_83, h11', if_true, s13_13, x8_at hx (tM_13 hm i) (Nat.le_of_lt hlt), zbd1]
    rw [if_pos hlt, x8_isLetter _ (hx.2 i hlt), zbd1, if_pos hs, if_neg (show ¬ nI 1 = (0 : Int32) by decide)]
    simp only [zlt, nI_1, s13_s]
def vl (x : TX) (p i : Nat) : Nat := if i = p then 0 else if i = p + 1 then x.2 p - 48 else if i = p + 2 then 10 * (x.2 p - 48) + (x.2 (p + 1) - 48) else 100
def s14 (I : zk_I) (x : TX) (p i : Nat) : zk_I := zk_sc I 76 (fun j => if j = 13 then nI i else if j = 14 then nI (vl x p i) else I 76 j)
theorem s14_13 (I : zk_I) (x : TX) (p i : Nat) : s14 I x p i 76 13 = nI i := by unfold s14; rw [zk_sc_s, if_pos rfl]
theorem s14_14 (I : zk_I) (x : TX) (p i : Nat) : s14 I x p i 76 14 = nI (vl x p i) := by unfold s14; rw [zk_sc_s, if_neg (by decide), if_pos rfl]
theorem s14_o (I : zk_I) (x : TX) (p i : Nat) {j : Nat} (h : j ≠ 13) (h' : j ≠ 14) : s14 I x p i 76 j = I 76 j := by unfold s14; rw [zk_sc_s, if_neg h, if_neg h']
theorem s14_c (I : zk_I) (x : TX) (p i : Nat) {c : Nat} (h : c ≠ 76) : s14 I x p i c = I c := by unfold s14; rw [zk_sc_n _ _ h]
theorem tM_14 {x : TX} {I : zk_I} (h : tM x I) (y : TX) (p i : Nat) : tM x (s14 I y p i) := h.fr (s14_o I y p i (by decide) (by decide)) (s14_c I y p i (by decide))
theorem sq2 {v : Nat} (h : sqV v = 2) : 48 ≤ v ∧ v ≤ 57 := by
  unfold sqV at h
  split at h
  · cases h
  · split at h
    · assumption
    · cases h
theorem x8_run2 {x : TX} {I : zk_I} (hx : wfX x) (hm : tM x I) {p : Nat} (he : p ≤ x.1) (h13 : I 76 13 = nI p) (h12 : I 76 12 = nI p) (h11 : I 76 11 = nI 2) (h14 : I 76 14 = nI 0) (K : zk_I → Option zk_I) : l_X8_token_118 K 3000 I = K (s14 I x p (sk (pK x 2) 160 p)) := by
  have hL := hx.1
  have h11' : ∀ i, s14 I x p i 76 11 = (2 : Int32) := fun i => by rw [s14_o I x p i (by decide) (by decide), h11]; rfl
  have h12' : ∀ i, s14 I x p i 76 12 = nI p := fun i => by rw [s14_o I x p i (by decide) (by decide), h12]
  have h0 : I = s14 I x p p := by
    unfold s14
    funext c
    by_cases hc : c = 76
    · subst hc
      rw [zk_sc_s]
      funext j
      by_cases hj : j = 13
      · subst hj; rw [if_pos rfl]; exact h13
      · rw [if_neg hj]
        by_cases hj4 : j = 14
        · subst hj4; rw [if_pos rfl, h14]; unfold vl; rw [if_pos rfl]
        · rw [if_neg hj4]
    · rw [zk_sc_n _ _ hc]
  have key := sk_loop (fun n (i : Nat) (s : zk_I) => if p ≤ i then l_X8_token_118 K n s else K s) (fun i s => K s) (fun i => s14 I x p i) (fun i => decide (p ≤ i) && pK x 2 i) x.1 (fun i h => by simp at h; exact pK_lt i h.2) (fun n i hi hp => ?_) (fun n i hp => ?_) 160 3000 p he (by omega) (by omega)
  · rw [← h0, if_pos (Nat.le_refl _)] at key
    rw [key]
    have : ∀ m i, p ≤ i → sk (fun i => decide (p ≤ i) && pK x 2 i) m i = sk (pK x 2) m i := by
      intro m
      induction m with
      | zero => intro i _; rfl
      | succ m ih =>
        intro i hi
        unfold sk
        rw [ih (i + 1) (by omega)]
        simp [hi]
    rw [this 160 p (Nat.le_refl _)]
  · by_cases hpi : p ≤ i
    · have hp : pK x 2 i = false := by simpa [hpi] using hp
      rw [if_pos hpi]
      simp only [l_X8_token_118, h11', if_true, s14_13, x8_at hx (tM_14 hm x p i) hi, zbd1]
      by_cases hlt : i < x.1
      · have hne : ¬ sqV (x.2 i) = 2 := fun q => by simp [pK, hlt, q] at hp
        rw [if_pos hlt, x8_isDigit _ (hx.2 i hlt), zbd1, if_neg hne, if_pos (show nI 0 = (0 : Int32) from rfl)]
      · rw [if_neg hlt, x8_isDigit_m, zbd1, if_pos rfl]
    · rw [if_neg hpi]
  · have hpi : p ≤ i := by simp at hp; exact hp.1
    have hp : pK x 2 i = true := by simp at hp; exact hp.2
    have hlt := pK_lt i hp
    have hs : sqV (x.2 i) = 2 := by simp [pK] at hp; exact hp.2
    have hd := sq2 hs
    rw [if_pos hpi, if_pos (by omega)]
    simp only [l_X8_token_118, h11', if_true, s14_13, x8_at hx (tM_14 hm x p i) (Nat.le_of_lt hlt), zbd1]
    rw [if_pos hlt, x8_isDigit _ (hx.2 i hlt), zbd1, if_pos hs, if_neg (show ¬ nI 1 = (0 : Int32) by decide)]
    have fin : ∀ v, v = nI (vl x p (i + 1)) → zk_sc (zk_sc (s14 I x p i) 76 (upd (s14 I x p i 76) 14 v)) 76 (upd (upd (s14 I x p i 76) 14 v) 13 (nI i + 1)) = s14 I x p (i + 1) := by
      intro v hv
      rw [sc_sc, nI_1, hv]
      unfold s14
      rw [sc_sc, zk_sc_s]
      congr 1
      funext q
      by_cases hq : q = 13
      · subst hq; rw [pk_us, if_pos rfl]
      · rw [pk_un hq, if_neg hq]
        by_cases hq4 : q = 14
        · subst hq4; rw [pk_us, if_pos rfl]
        · rw [pk_un hq4, if_neg hq, if_neg hq4, if_neg hq4]
    simp only [h12', nI_sub hpi, zjp1, zlt, zk_sc_s, pk_un (show (13 : Nat) ≠ 14 by decide), s14_13, s14_14, zck (zin (show i < 160 by omega) (by decide)), nI_clamp (show i < 2 ^ 31 by omega), s14_c I x p i (show 77 ≠ 76 by decide), hm.2 i hlt]
    by_cases h2 : 2 ≤ i - p
    · have e2 : (2 : Int32) ≤ nI (i - p) := nI_le (a := 2) h2 (by omega)
      rw [if_pos e2]
      rw [fin 100 (by
        unfold vl
        rw [if_neg (by omega), if_neg (by omega), if_neg (by omega)]
        rfl)]
    · have e2 : ¬ (2 : Int32) ≤ nI (i - p) := nI_ge (b := 2) (by omega) (by decide)
      rw [if_neg e2]
      rw [fin ((10 : Int32) * nI (vl x p i) + nI (x.2 i) - 48) (by
        rw [xlit 10, xlit 48, pk_mul, nI_add, nI_sub (by omega)]
        congr 1
        unfold vl
        by_cases h0 : i = p
        · rw [if_pos h0, if_neg (by omega), if_pos (by omega), h0]; omega
        · have h1 : i = p + 1 := by omega
          rw [if_neg h0, if_pos h1, if_neg (by omega), if_neg (by omega), if_pos (by omega), h1]
          rw [h1] at hd
          omega)]
def atM (x : TX) (p e : Nat) (I : zk_I) : Prop := tM x I ∧ I 76 12 = nI p ∧ I 76 13 = nI e ∧ I 76 11 = nI (srt x p) ∧ (srt x p = 2 → I 76 14 = nI (vl x p e))
def tk3 (I34 : zk_I) : Option zk_I := if (I34 76 11) = (3 : Int32) then some (zk_sc I34 76 (upd (I34 76) 13 ((I34 76 13) + (1 : Int32)))) else some (zk_sc I34 76 (upd (I34 76) 13 ((I34 76 13) + (0 : Int32))))
def tk2 (I21 : zk_I) : Option zk_I := l_X8_token_118 tk3 3000 I21
def tk1 (I13 : zk_I) : Option zk_I := l_X8_token_83 tk2 3000 I13
def tk0 (I6 : zk_I) (v10 : Int32) : Option zk_I := tk1 (zk_sc (zk_sc I6 76 (upd (I6 76) 11 v10)) 76 (upd ((zk_sc I6 76 (upd (I6 76) 11 v10)) 76) 14 (0 : Int32)))
def tkb (I6 : zk_I) : Option zk_I := zk_bd1 (f_X8_letterAt I6 (I6 76 13)) (fun (r8 : Int32) => if 0 ≤ r8 then zk_bd1 (f_X8_isLetter r8) (fun (r39 : Int32) => if r39 = 0 then zk_bd1 (f_X8_isDigit r8) (fun (r42 : Int32) => if r42 = 0 then tk0 I6 3 else tk0 I6 2) else tk0 I6 1) else tk0 I6 0)
theorem x8_token_eq (I : zk_I) : f_X8_token I = l_X8_token_0 (fun I5 => tkb (zk_sc I5 76 (upd (I5 76) 12 (I5 76 13)))) 3000 I := by
  have hk3 : (fun I34 : zk_I => if (I34 76 11) = (3 : Int32) then some (zk_sc I34 76 (upd (I34 76) 13 ((I34 76 13) + (1 : Int32)))) else some (zk_sc I34 76 (upd (I34 76) 13 ((I34 76 13) + (0 : Int32))))) = tk3 := rfl
  have hk2 : (fun I21 : zk_I => l_X8_token_118 tk3 3000 I21) = tk2 := rfl
  have hk1 : ∀ I13, l_X8_token_83 tk2 3000 I13 = tk1 I13 := fun _ => rfl
  have hk0 : ∀ I6 v10, tk1 (zk_sc (zk_sc I6 76 (upd (I6 76) 11 v10)) 76 (upd ((zk_sc I6 76 (upd (I6 76) 11 v10)) 76) 14 (0 : Int32))) = tk0 I6 v10 := fun _ _ => rfl
  unfold f_X8_token
  simp only [zlt, zjp1, hk3, hk2, hk1, hk0, tkb]
def tI (I : zk_I) (p k : Nat) : zk_I := zk_sc I 76 (fun j => if j = 11 then nI k else if j = 12 ∨ j = 13 then nI p else if j = 14 then nI 0 else I 76 j)
theorem tk_tI (I : zk_I) (p k : Nat) : tk0 (zk_sc (s13 I p) 76 (upd (s13 I p 76) 12 (nI p))) (nI k) = tk1 (tI I p k) := by
  unfold tk0 tI s13
  simp only [sc_sc, zk_sc_s]
  congr 2
  funext j
  by_cases h14 : j = 14
  · subst h14; rw [pk_us, if_neg (by decide), if_neg (by decide), if_pos rfl]; rfl
  · rw [pk_un h14]
    by_cases h11 : j = 11
    · subst h11; rw [pk_us, if_pos rfl]
    · rw [pk_un h11, if_neg h11]
      by_cases h12 : j = 12
      · subst h12; rw [pk_us, if_pos (Or.inl rfl)]
      · rw [pk_un h12]
        by_cases h13 : j = 13
        · subst h13; rw [pk_us, if_pos (Or.inr rfl)]
        · rw [pk_un h13, if_neg (by omega), if_neg h14]
theorem tI_11 (I : zk_I) (p k : Nat) : tI I p k 76 11 = nI k := by unfold tI; rw [zk_sc_s, if_pos rfl]
theorem tI_12 (I : zk_I) (p k : Nat) : tI I p k 76 12 = nI p := by unfold tI; rw [zk_sc_s, if_neg (by decide), if_pos (Or.inl rfl)]
theorem tI_13 (I : zk_I) (p k : Nat) : tI I p k 76 13 = nI p := by unfold tI; rw [zk_sc_s, if_neg (by decide), if_pos (Or.inr rfl)]
theorem tI_14 (I : zk_I) (p k : Nat) : tI I p k 76 14 = nI 0 := by unfold tI; rw [zk_sc_s, if_neg (by decide), if_neg (by decide), if_pos rfl]
theorem tI_o (I : zk_I) (p k : Nat) {j : Nat} (h : j < 11) : tI I p k 76 j = I 76 j := by unfold tI; rw [zk_sc_s, if_neg (by omega), if_neg (by omega), if_neg (by omega)]
theorem tI_c (I : zk_I) (p k : Nat) {c : Nat} (h : c ≠ 76) : tI I p k c = I c := by unfold tI; rw [zk_sc_n _ _ h]
theorem x8_token {x : TX} {I : zk_I} (hx : wfX x) (hm : tM x I) {e : Nat} (he : e ≤ x.1) (h13 : I 76 13 = nI e) : ∃ I1, f_X8_token I = some I1 ∧ atM x (tS x e) (tE x (tS x e)) I1 ∧ (∀ c, c ≠ 76 → I1 c = I c) ∧ ∀ q, q < 11 → I1 76 q = I 76 q := by
  have hL := hx.1
  have hp := tS_le he
  rw [x8_token_eq, x8_skip hx hm he h13]
  generalize hP : tS x e = p at hp
  have hmt : ∀ k, tM x (tI I p k) := fun k => hm.fr (tI_o I p k (by decide)) (tI_c I p k (by decide))
  have no1 : ∀ k (J : zk_I) , k ≠ 1 → k < 4 → J 76 11 = nI k → tk1 J = tk2 J := fun k J h1 h2 h3 => by
    unfold tk1
    rw [show (3000 : Nat) = 2999 + 1 from rfl, l_X8_token_83, h3, if_neg]
    exact fun q => h1 (xl_inj (b := 1) (by omega) (by decide) q)
  have no2 : ∀ k (J : zk_I) , k ≠ 2 → k < 4 → J 76 11 = nI k → tk2 J = tk3 J := fun k J h1 h2 h3 => by
    unfold tk2
    rw [show (3000 : Nat) = 2999 + 1 from rfl, l_X8_token_118, h3, if_neg]
    exact fun q => h1 (xl_inj (b := 2) (by omega) (by decide) q)
  have no3 : ∀ k e (J : zk_I) , k ≠ 3 → k < 4 → J 76 11 = nI k → J 76 13 = nI e → tk3 J = some (s13 J e) := fun k e J h1 h2 h3 h4 => by
    unfold tk3 s13
    rw [h3, if_neg, h4, xlit 0, nI_add]
    · rfl
    · exact fun q => h1 (xl_inj (b := 3) (by omega) (by decide) q)
  have eb : tkb (zk_sc (s13 I p) 76 (upd (s13 I p 76) 12 (s13 I p 76 13))) = tk1 (tI I p (srt x p)) := by
    rw [s13_13]
    unfold tkb
    rw [show zk_sc (s13 I p) 76 (upd (s13 I p 76) 12 (nI p)) 76 13 = nI p from by rw [zk_sc_s, pk_un (by decide), s13_13]]
    rw [x8_at hx (I := zk_sc (s13 I p) 76 (upd (s13 I p 76) 12 (nI p))) ((tM_13 hm p).fr (by rw [zk_sc_s, pk_un (by decide)]) (zk_sc_n _ _ (by decide))) hp, zbd1]
    unfold srt
    by_cases hlt : p < x.1
    · have hv := hx.2 p hlt
      have h0 : ¬ nI (x.2 p) < (0 : Int32) := nI_pos (by omega)
      rw [if_pos hlt, if_pos hlt, if_pos (Int32.not_lt.mp h0), x8_isLetter _ hv, zbd1]
      by_cases h1 : sqV (x.2 p) = 1
      · rw [if_pos h1, if_neg (show ¬ nI 1 = (0 : Int32) by decide), h1, if_neg (by decide)]
        exact tk_tI I p 1
      · rw [if_neg h1, if_pos (show nI 0 = (0 : Int32) from rfl), x8_isDigit _ hv, zbd1]
        by_cases h2 : sqV (x.2 p) = 2
        · rw [if_pos h2, if_neg (show ¬ nI 1 = (0 : Int32) by decide), h2, if_neg (by decide)]
          exact tk_tI I p 2
        · have := sqV_lt (x.2 p)
          rw [if_neg h2, if_pos (show nI 0 = (0 : Int32) from rfl), if_pos (by omega)]
          exact tk_tI I p 3
    · rw [if_neg hlt, if_neg hlt, if_neg (by decide)]
      exact tk_tI I p 0
  rw [eb]
  have fin : ∀ k e (J : zk_I), (∀ c, c ≠ 76 → J c = I c) → (∀ q, q < 11 → J 76 q = I 76 q) → J 76 11 = nI k → J 76 12 = nI p → k = srt x p → e = tE x p → (k = 2 → J 76 14 = nI (vl x p e)) → ∃ I1, some (s13 J e) = some I1 ∧ atM x p (tE x p) I1 ∧ (∀ c, c ≠ 76 → I1 c = I c) ∧ ∀ q, q < 11 → I1 76 q = I 76 q := by
    intro k e J j1 j2 j3 j4 hk he j5
    subst hk he
    refine ⟨_, rfl, ⟨hm.fr ?_ ?_, ?_, s13_13 _ _, ?_, fun h => ?_⟩, fun c hc => ?_, fun q hq => ?_⟩
    · rw [s13_o _ _ (by decide), j2 1 (by decide)]
    · rw [s13_c _ _ (by decide), j1 77 (by decide)]
    · rw [s13_o _ _ (by decide), j4]
    · rw [s13_o _ _ (by decide), j3]
    · rw [s13_o _ _ (by decide), j5 h]
    · rw [s13_c _ _ hc, j1 c hc]
    · rw [s13_o _ _ (by omega), j2 q hq]
  have hs4 : srt x p < 4 := by
    unfold srt
    have := sqV_lt (x.2 p)
    split
    · split <;> omega
    · omega
  by_cases h1 : srt x p = 1
  · have hlt : p < x.1 := by
      unfold srt at h1
      by_cases h : p < x.1
      · exact h
      · rw [if_neg h] at h1; cases h1
    have hs : sqV (x.2 p) = 1 := by
      unfold srt at h1
      rw [if_pos hlt] at h1
      split at h1 <;> omega
    have ee : tE x p = sk (pK x 1) 160 p := by unfold tE; rw [if_pos hlt, hs, if_neg (by decide)]
    rw [h1]
    unfold tk1
    rw [x8_run1 hx (hmt 1) hp (tI_13 I p 1) (tI_11 I p 1), no2 1 _ (by decide) (by decide) (by rw [s13_o _ _ (by decide), tI_11]), no3 1 (sk (pK x 1) 160 p) _ (by decide) (by decide) (by rw [s13_o _ _ (by decide), tI_11]) (s13_13 _ _)]
    exact fin 1 _ _ (fun c hc => by rw [s13_c _ _ hc, tI_c _ _ _ hc]) (fun q hq => by rw [s13_o _ _ (by omega), tI_o _ _ _ hq]) (by rw [s13_o _ _ (by decide), tI_11]) (by rw [s13_o _ _ (by decide), tI_12]) h1.symm ee.symm (fun h => by cases h)
  · by_cases h2 : srt x p = 2
    · have hlt : p < x.1 := by
        unfold srt at h2
        by_cases h : p < x.1
        · exact h
        · rw [if_neg h] at h2; cases h2
      have hs : sqV (x.2 p) = 2 := by
        unfold srt at h2
        rw [if_pos hlt] at h2
        split at h2 <;> omega
      have ee : tE x p = sk (pK x 2) 160 p := by unfold tE; rw [if_pos hlt, hs, if_neg (by decide)]
      rw [h2, no1 2 _ (by decide) (by decide) (tI_11 I p 2)]
      unfold tk2
      rw [x8_run2 hx (hmt 2) hp (tI_13 I p 2) (tI_12 I p 2) (tI_11 I p 2) (tI_14 I p 2), no3 2 (sk (pK x 2) 160 p) _ (by decide) (by decide) (by rw [s14_o _ _ _ _ (by decide) (by decide), tI_11]) (s14_13 _ _ _ _)]
      exact fin 2 _ _ (fun c hc => by rw [s14_c _ _ _ _ hc, tI_c _ _ _ hc]) (fun q hq => by rw [s14_o _ _ _ _ (by omega) (by omega), tI_o _ _ _ hq]) (by rw [s14_o _ _ _ _ (by decide) (by decide), tI_11]) (by rw [s14_o _ _ _ _ (by decide) (by decide), tI_12]) h2.symm ee.symm (fun _ => by rw [s14_14])
    · rw [no1 _ _ h1 hs4 (tI_11 I p _), no2 _ _ h2 hs4 (tI_11 I p _)]
      by_cases h3 : srt x p = 3
      · have hlt : p < x.1 := by
          unfold srt at h3
          by_cases h : p < x.1
          · exact h
          · rw [if_neg h] at h3; cases h3
        have hs : sqV (x.2 p) = 0 := by
          have := sqV_lt (x.2 p)
          unfold srt at h3
          rw [if_pos hlt] at h3
          split at h3 <;> omega
        have ee : tE x p = p + 1 := by unfold tE; rw [if_pos hlt, if_pos hs]
        have e3 : tk3 (tI I p (srt x p)) = some (s13 (tI I p (srt x p)) (p + 1)) := by
          unfold tk3 s13
          rw [tI_11, h3, if_pos (show nI 3 = (3 : Int32) from rfl), tI_13, nI_1]
        rw [e3]
        exact fin 3 _ _ (fun c hc => tI_c _ _ _ hc) (fun q hq => tI_o _ _ _ hq) (by rw [tI_11, h3]) (tI_12 _ _ _) h3.symm ee.symm (fun h => by cases h)
      · have h0 : srt x p = 0 := by omega
        have hlt : ¬ p < x.1 := by
          intro h
          unfold srt at h0
          rw [if_pos h] at h0
          split at h0 <;> omega
        have ee : tE x p = p := by unfold tE; rw [if_neg hlt]
        rw [no3 _ p _ h3 hs4 (tI_11 I p _) (tI_13 I p _)]
        exact fin 0 _ _ (fun c hc => tI_c _ _ _ hc) (fun q hq => tI_o _ _ _ hq) (by rw [tI_11, h0]) (tI_12 _ _ _) h0.symm ee.symm (fun h => by cases h)

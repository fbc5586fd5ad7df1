/-! the text: tokens -/
def sk (p : Nat → Bool) : Nat → Nat → Nat
  | 0, i => i
  | n + 1, i => if p i then sk p n (i + 1) else i
theorem sk_loop {σ β : Type} (F : Nat → Nat → σ → β) (K : Nat → σ → β) (S : Nat → σ) (p : Nat → Bool) (M : Nat) (hb : ∀ i, p i = true → i < M) (hx : ∀ n i, i ≤ M → p i = false → F (n + 1) i (S i) = K i (S i)) (hs : ∀ n i, p i = true → F (n + 1) i (S i) = F n (i + 1) (S (i + 1))) : ∀ m n i, i ≤ M → M - i < n → M - i ≤ m → F n i (S i) = K (sk p m i) (S (sk p m i))
  | 0, n, i, hi, h1, h2 => by
    obtain ⟨n, rfl⟩ : ∃ k, n = k + 1 := ⟨n - 1, by omega⟩
    have hp : p i = false := by
      cases h : p i
      · rfl
      · have := hb i h; omega
    exact hx n i hi hp
  | m + 1, n, i, hi, h1, h2 => by
    obtain ⟨n, rfl⟩ : ∃ k, n = k + 1 := ⟨n - 1, by omega⟩
    unfold sk
    cases h : p i
    · exact hx n i hi h
    · have := hb i h
      rw [hs n i h]
      exact sk_loop F K S p M hb hx hs m n (i + 1) (by omega) (by omega) (by omega)
theorem sk_ge (p : Nat → Bool) : ∀ m i, i ≤ sk p m i
  | 0, i => Nat.le_refl _
  | m + 1, i => by
    unfold sk
    cases p i
    · exact Nat.le_refl _
    · have := sk_ge p m (i + 1)
      simp only [if_true]; omega
theorem sk_le {p : Nat → Bool} {M : Nat} (hb : ∀ i, p i = true → i < M) : ∀ m i, i ≤ M → sk p m i ≤ M
  | 0, i, h => h
  | m + 1, i, h => by
    unfold sk
    cases hp : p i
    · exact h
    · have := hb i hp
      simp only [if_true]
      exact sk_le hb m (i + 1) (by omega)
theorem sk_all {p : Nat → Bool} : ∀ m i j, i ≤ j → j < sk p m i → p j = true
  | 0, i, j, h1, h2 => absurd h2 (by unfold sk; omega)
  | m + 1, i, j, h1, h2 => by
    unfold sk at h2
    cases hp : p i
    · rw [hp] at h2; simp only [Bool.false_eq_true, if_false] at h2; omega
    · rw [hp] at h2
      simp only [if_true] at h2
      by_cases hij : j = i
      · rw [hij]; exact hp
      · exact sk_all m (i + 1) j (by omega) h2
theorem sk_ex {p : Nat → Bool} {M : Nat} (hb : ∀ i, p i = true → i < M) : ∀ m i, i ≤ M → M - i ≤ m → p (sk p m i) = false
  | 0, i, h1, h2 => by
    cases hp : p i
    · exact hp
    · have := hb i hp; omega
  | m + 1, i, h1, h2 => by
    unfold sk
    cases hp : p i
    · exact hp
    · have := hb i hp
      simp only [if_true]
      exact sk_ex hb m (i + 1) (by omega) (by omega)
abbrev TX : Type := Nat × (Nat → Nat)
def wfX (x : TX) : Prop := x.1 ≤ 160 ∧ ∀ j, j < x.1 → x.2 j < 256
def sqV (v : Nat) : Nat := if 97 ≤ v ∧ v ≤ 122 then 1 else if 48 ≤ v ∧ v ≤ 57 then 2 else 0
theorem x_sortOf : ∀ v, v < 256 → f_X5_sortOf (nI v) = nI (sqV v) := by decide +kernel
theorem x8_isLetter : ∀ v, v < 256 → f_X8_isLetter (nI v) = some (nI (if sqV v = 1 then 1 else 0)) := by decide +kernel
theorem x8_isDigit : ∀ v, v < 256 → f_X8_isDigit (nI v) = some (nI (if sqV v = 2 then 1 else 0)) := by decide +kernel
theorem x8_isLetter_m : f_X8_isLetter (-1) = some 0 := by decide +kernel
theorem x8_isDigit_m : f_X8_isDigit (-1) = some 0 := by decide +kernel
def pS (x : TX) (i : Nat) : Bool := decide (i < x.1) && decide (x.2 i = 32)
def pK (x : TX) (k i : Nat) : Bool := decide (i < x.1) && decide (sqV (x.2 i) = k)
theorem pS_lt {x : TX} (i : Nat) (h : pS x i = true) : i < x.1 := by simp [pS] at h; exact h.1
theorem pK_lt {x : TX} {k : Nat} (i : Nat) (h : pK x k i = true) : i < x.1 := by simp [pK] at h; exact h.1
def tS (x : TX) (e : Nat) : Nat := sk (pS x) 160 e
def srt (x : TX) (p : Nat) : Nat := if p < x.1 then (if sqV (x.2 p) = 0 then 3 else sqV (x.2 p)) else 0
def tE (x : TX) (p : Nat) : Nat := if p < x.1 then (if sqV (x.2 p) = 0 then p + 1 else sk (pK x (sqV (x.2 p))) 160 p) else p
theorem tS_le {x : TX} {e : Nat} (h : e ≤ x.1) : tS x e ≤ x.1 := sk_le pS_lt _ _ h
theorem tE_le {x : TX} {p : Nat} (h : p ≤ x.1) : tE x p ≤ x.1 := by
  unfold tE
  by_cases h1 : p < x.1
  · rw [if_pos h1]
    by_cases h2 : sqV (x.2 p) = 0
    · rw [if_pos h2]; exact h1
    · rw [if_neg h2]; exact sk_le pK_lt _ _ h
  · rw [if_neg h1]; exact h
theorem tE_ge {x : TX} {p : Nat} : p ≤ tE x p := by
  unfold tE
  by_cases h1 : p < x.1
  · rw [if_pos h1]
    by_cases h2 : sqV (x.2 p) = 0
    · rw [if_pos h2]; exact Nat.le_succ _
    · rw [if_neg h2]; exact sk_ge _ _ _
  · rw [if_neg h1]; exact Nat.le_refl _
/-- the class's place -/
def atC (x : TX) (p e : Nat) (I : zk_I) : Prop := tC x I ∧ I 1 2 = nI p ∧ I 1 3 = nI e
def setC (I : zk_I) (p e : Nat) : zk_I := zk_sc I 1 (fun j => if j = 2 then nI p else if j = 3 then nI e else I 1 j)
theorem x_skip {x : TX} {I : zk_I} (hx : wfX x) (hc : tC x I) {e : Nat} (he : e ≤ x.1) (a3 : Int32) (h2 : I 1 2 = nI e) (K : zk_I → Option zk_I) : l_X5_goToNextToken_8 K 3000 I = K (zk_sc I 1 (upd (I 1) 2 (nI (tS x e)))) := by
  have hL := hx.1
  have h0 : I = zk_sc I 1 (upd (I 1) 2 (nI e)) := by
    funext c
    by_cases h : c = 1
    · subst h
      rw [zk_sc_s]
      funext j
      by_cases hj : j = 2
      · subst hj; rw [pk_us]; exact h2
      · rw [pk_un hj]
    · rw [zk_sc_n _ _ h]
  have key := sk_loop (fun n (_ : Nat) (s : zk_I) => l_X5_goToNextToken_8 K n s) (fun _ s => K s) (fun i => zk_sc I 1 (upd (I 1) 2 (nI i))) (pS x) x.1 pS_lt (fun n i hi hp => ?_) (fun n i hp => ?_) 160 3000 e he (by omega) (by omega)
  · rw [← h0] at key
    exact key
  · simp only [l_X5_goToNextToken_8, zk_sc_s, pk_us, pk_un (show (1 : Nat) ≠ 2 by decide), hc.1]
    by_cases hlt : i < x.1
    · rw [if_neg (nI_ge hlt (by omega))]
      simp only [zck (zin (show i < 160 by omega) (by decide)), nI_clamp (show i < 2 ^ 31 by omega), zk_sc_n _ _ (show ¬ 2 = 1 by decide), hc.2 i hlt]
      have hne : ¬ nI (x.2 i) = (32 : Int32) := fun q => by
        have := xl_inj (b := 32) (by have := hx.2 i hlt; omega) (by decide) q
        simp [pS, hlt, this] at hp
      rw [if_neg hne]
    · rw [if_pos (nI_le (by omega) (by omega))]
  · have hlt := pS_lt i hp
    have h32 : x.2 i = 32 := by simp [pS] at hp; exact hp.2
    simp only [l_X5_goToNextToken_8, zk_sc_s, pk_us, pk_un (show (1 : Nat) ≠ 2 by decide), hc.1]
    rw [if_neg (nI_ge hlt (by omega))]
    simp only [zck (zin (show i < 160 by omega) (by decide)), nI_clamp (show i < 2 ^ 31 by omega), zk_sc_n _ _ (show ¬ 2 = 1 by decide), hc.2 i hlt, h32]
    rw [if_pos (show nI 32 = (32 : Int32) by decide)]
    simp only [zk_lt, sc_sc, nI_1]
    congr 2
    funext j
    by_cases hj : j = 2
    · subst hj; rw [pk_us, pk_us]
    · rw [pk_un hj, pk_un hj, pk_un hj]
theorem sk_more {p : Nat → Bool} {M : Nat} (hb : ∀ i, p i = true → i < M) : ∀ m i, M - i ≤ m → i ≤ M → sk p (m + 1) i = sk p m i
  | 0, i, h1, h2 => by
    have hp : p i = false := by
      cases h : p i
      · rfl
      · have := hb i h; omega
    unfold sk
    rw [hp]
    rfl
  | m + 1, i, h1, h2 => by
    rw [show sk p (m + 1 + 1) i = if p i then sk p (m + 1) (i + 1) else i from rfl, show sk p (m + 1) i = if p i then sk p m (i + 1) else i from rfl]
    cases h : p i
    · rfl
    · have := hb i h
      simp only [if_true]
      exact sk_more hb m (i + 1) (by omega) (by omega)
theorem sk_step {p : Nat → Bool} {M : Nat} (hb : ∀ i, p i = true → i < M) (hM : M ≤ 160) {i : Nat} (h : p i = true) : sk p 160 i = sk p 160 (i + 1) := by
  have hi := hb i h
  rw [sk_more hb 159 (i + 1) (by omega) (by omega), show sk p 160 i = if p i then sk p 159 (i + 1) else i from rfl, h]
  rfl
theorem x_run {x : TX} {I : zk_I} (hx : wfX x) (hc : tC x I) {k e : Nat} (hk : 0 < k) (hk2 : k < 3) (he : e ≤ x.1) (h3 : I 1 3 = nI e) (K : zk_I → Option zk_I) : l_X5_goToNextToken_89 (nI k) K 3000 I = K (zk_sc I 1 (upd (I 1) 3 (nI (sk (pK x k) 160 e)))) := by
  have hL := hx.1
  have hk0 : ¬ nI k = (0 : Int32) := fun q => absurd (xl_inj (b := 0) (by omega) (by decide) q) (by omega)
  have h0 : I = zk_sc I 1 (upd (I 1) 3 (nI e)) := by
    funext c
    by_cases h : c = 1
    · subst h
      rw [zk_sc_s]
      funext j
      by_cases hj : j = 3
      · subst hj; rw [pk_us]; exact h3
      · rw [pk_un hj]
    · rw [zk_sc_n _ _ h]
  have key := sk_loop (fun n (_ : Nat) (s : zk_I) => l_X5_goToNextToken_89 (nI k) K n s) (fun _ s => K s) (fun i => zk_sc I 1 (upd (I 1) 3 (nI i))) (pK x k) x.1 pK_lt (fun n i hi hp => ?_) (fun n i hp => ?_) 160 3000 e he (by omega) (by omega)
  · rw [← h0] at key
    exact key
  · simp only [l_X5_goToNextToken_89, zk_sc_s, pk_us, pk_un (show (1 : Nat) ≠ 3 by decide), hc.1]
    rw [if_neg hk0]
    by_cases hlt : i < x.1
    · rw [if_neg (nI_ge hlt (by omega))]
      have hv := hx.2 i hlt
      simp only [zck (zin (show i < 160 by omega) (by decide)), nI_clamp (show i < 2 ^ 31 by omega), zk_sc_n _ _ (show ¬ 2 = 1 by decide), hc.2 i hlt, x_sortOf _ hv, zk_lt]
      have hs3 : sqV (x.2 i) < 3 := by
        unfold sqV
        split
        · decide
        · split <;> decide
      have hne : ¬ nI (sqV (x.2 i)) = nI k := fun q => by
        have := xl_inj (by omega) (by omega) q
        simp [pK, hlt, this] at hp
      rw [if_neg hne]
    · rw [if_pos (nI_le (by omega) (by omega))]
  · have hlt := pK_lt i hp
    have hv := hx.2 i hlt
    have hs : sqV (x.2 i) = k := by simp [pK] at hp; exact hp.2
    simp only [l_X5_goToNextToken_89, zk_sc_s, pk_us, pk_un (show (1 : Nat) ≠ 3 by decide), hc.1]
    rw [if_neg hk0, if_neg (nI_ge hlt (by omega))]
    simp only [zck (zin (show i < 160 by omega) (by decide)), nI_clamp (show i < 2 ^ 31 by omega), zk_sc_n _ _ (show ¬ 2 = 1 by decide), hc.2 i hlt, x_sortOf _ hv, hs, zk_lt, if_true, sc_sc, nI_1]
    congr 2
    funext j
    by_cases hj : j = 3
    · subst hj; rw [pk_us, pk_us]
    · rw [pk_un hj, pk_un hj, pk_un hj]
theorem sqV_lt (v : Nat) : sqV v < 3 := by
  unfold sqV
  split
  · decide
  · split <;> decide
theorem x_next {x : TX} {I : zk_I} (hx : wfX x) (hc : tC x I) {e : Nat} (he : e ≤ x.1) (h3 : I 1 3 = nI e) : ∃ I1, f_X5_goToNextToken I = some I1 ∧ atC x (tS x e) (tE x (tS x e)) I1 ∧ ∀ c, c ≠ 1 → I1 c = I c := by
  have hL := hx.1
  have hp := tS_le he
  unfold f_X5_goToNextToken
  rw [zlt, h3]
  have hc1 : tC x (zk_sc I 1 (upd (I 1) 2 (nI e))) := hc.fr (by rw [zk_sc_s, pk_un (by decide)]) (zk_sc_n _ _ (by decide))
  rw [x_skip hx hc1 he 0 (by rw [zk_sc_s, pk_us]), sc_sc, zk_sc_s]
  simp only [zlt, zk_sc_s, sc_sc, pk_us, pk_un (show (1 : Nat) ≠ 2 by decide), pk_un (show (1 : Nat) ≠ 3 by decide), pk_un (show (2 : Nat) ≠ 3 by decide), hc.1]
  by_cases hlt : tS x e < x.1
  · rw [if_pos (nI_lt hlt (by omega))]
    have hv := hx.2 _ hlt
    simp only [zck (zin (show tS x e < 160 by omega) (by decide)), nI_clamp (show tS x e < 2 ^ 31 by omega), zk_sc_n _ _ (show ¬ 2 = 1 by decide), hc.2 _ hlt, x_sortOf _ hv, nI_1]
    have hs3 := sqV_lt (x.2 (tS x e))
    by_cases h0 : sqV (x.2 (tS x e)) = 0
    · refine ⟨_, by rw [h0, show (3000 : Nat) = 2999 + 1 from rfl, l_X5_goToNextToken_89, if_pos (show nI 0 = (0 : Int32) from rfl)], ⟨hc.fr ?_ ?_, ?_, ?_⟩, fun c hc => zk_sc_n _ _ hc⟩
      · rw [zk_sc_s, pk_un (by decide), pk_un (by decide), pk_un (by decide), pk_un (by decide)]
      · exact zk_sc_n _ _ (by decide)
      · rw [zk_sc_s, pk_un (by decide), pk_un (by decide), pk_us]
      · rw [zk_sc_s, pk_us]
        unfold tE
        rw [if_pos hlt, if_pos h0]
    · have hcc : tC x (zk_sc I 1 (upd (upd (upd (upd (I 1) 2 (nI e)) 2 (nI (tS x e))) 3 (nI (tS x e))) 3 (nI (tS x e + 1)))) := hc.fr (by rw [zk_sc_s, pk_un (by decide), pk_un (by decide), pk_un (by decide), pk_un (by decide)]) (zk_sc_n _ _ (by decide))
      refine ⟨_, by rw [x_run hx hcc (by omega) hs3 (show tS x e + 1 ≤ x.1 by omega) (by rw [zk_sc_s, pk_us])], ⟨hc.fr ?_ ?_, ?_, ?_⟩, fun c hc => by rw [zk_sc_n _ _ hc, zk_sc_n _ _ hc]⟩
      · rw [zk_sc_s, pk_un (by decide), zk_sc_s, pk_un (by decide), pk_un (by decide), pk_un (by decide), pk_un (by decide)]
      · rw [zk_sc_n _ _ (by decide), zk_sc_n _ _ (by decide)]
      · rw [zk_sc_s, pk_un (by decide), zk_sc_s, pk_un (by decide), pk_un (by decide), pk_us]
      · rw [zk_sc_s, pk_us]
        unfold tE
        rw [if_pos hlt, if_neg h0]
        refine congrArg nI (sk_step pK_lt hL ?_).symm
        simp [pK, hlt]
  · rw [if_neg (nI_nlt (by omega) (by omega))]
    refine ⟨_, rfl, ⟨hc.fr ?_ ?_, ?_, ?_⟩, fun c hc => zk_sc_n _ _ hc⟩
    · rw [zk_sc_s, pk_un (by decide), pk_un (by decide), pk_un (by decide)]
    · exact zk_sc_n _ _ (by decide)
    · rw [zk_sc_s, pk_un (by decide), pk_us]
    · rw [zk_sc_s, pk_us]
      unfold tE
      rw [if_neg hlt]

/-! words and numbers of the text -/
def wdl : List (List Nat) := [[112, 108, 97, 105, 110], [102, 108, 97, 116, 116, 101, 114, 101, 114], [98, 108, 105, 110, 100], [115, 117, 108, 107, 101, 114], [102, 101, 117, 100], [109, 111, 118, 101], [98, 111, 111, 107], [112, 101, 97, 99, 101], [108, 105, 98, 114, 97, 114, 121], [59]]
def wl (k : Nat) : Nat := (wdl.getD k []).length
def wc (k i : Nat) : Nat := (wdl.getD k []).getD i 0
def isW (x : TX) (p e k : Nat) : Bool := decide (e - p = wl k) && decide (∀ i, i < wl k → x.2 (p + i) = wc k i)
theorem w_sln : ∀ k, k < 10 → zk_sln k = nI (wl k) := by decide +kernel
theorem w_sl : ∀ k, k < 10 → zk_sl.getD k 0 = wl k := by decide +kernel
theorem w_len : ∀ k, k < 10 → 1 ≤ wl k ∧ wl k ≤ 9 := by decide +kernel
theorem w_sch : ∀ k, k < 10 → ∀ i, i < wl k → zk_sch k (nI i) = nI (wc k i) := by decide +kernel
theorem w_let : ∀ k, k < 9 → ∀ i, i < wl k → sqV (wc k i) = 1 ∧ wc k i ≠ 0 := by decide +kernel
theorem w_pad : ∀ k, k < 9 → ∀ i, i < 9 → wl k ≤ i → wc k i = 0 := by decide +kernel
theorem w_lt : ∀ k, k < 10 → ∀ i, i < 9 → wc k i < 256 := by decide +kernel
theorem w_ne : ∀ k, k < 10 → ∀ j, j < 10 → k ≠ j → wl k = wl j → ∃ i, i < wl k ∧ wc k i ≠ wc j i := by decide +kernel
theorem isW_ne {x : TX} {p e k j : Nat} (hk : k < 10) (hj : j < 10) (h : isW x p e k = true) (hne : k ≠ j) : isW x p e j = false := by
  cases hb : isW x p e j
  · rfl
  · simp only [isW, Bool.and_eq_true, decide_eq_true_eq] at h hb
    obtain ⟨i, h1, h2⟩ := w_ne k hk j hj hne (h.1.symm.trans hb.1)
    exact absurd ((h.2 i h1).symm.trans (hb.2 i (by rw [← hb.1, h.1]; exact h1))) h2
theorem x_tokenIs {x : TX} {p e k : Nat} {I : zk_I} (hx : wfX x) (hc : atC x p e I) (he : e ≤ x.1) (hp : p ≤ e) (hk : k < 10) : f_X5_tokenIs I k = some (nI (if isW x p e k then 1 else 0)) := by
  obtain ⟨ht, h2, h3⟩ := hc
  have hL := hx.1
  have hwl := w_len k hk
  unfold f_X5_tokenIs
  rw [h2, h3, nI_sub hp, w_sln k hk]
  by_cases hl : e - p = wl k
  · rw [hl, if_pos rfl]
    have key := sk_loop (fun n i (_ : Unit) => l_X5_tokenIs_20 I k (some 1) n (nI i)) (fun i _ => if wl k ≤ i then some 1 else some 0) (fun _ => ()) (fun i => decide (i < wl k) && decide (x.2 (p + i) = wc k i)) (wl k) (fun i h => by simp at h; exact h.1) (fun n i hi hq => ?_) (fun n i hq => ?_) 160 3000 0 (by omega) (by omega) (by omega)
    · refine Eq.trans key ?_
      have hle := sk_le (p := fun i => decide (i < wl k) && decide (x.2 (p + i) = wc k i)) (M := wl k) (fun i h => by simp at h; exact h.1) 160 0 (by omega)
      have hall := sk_all (p := fun i => decide (i < wl k) && decide (x.2 (p + i) = wc k i)) 160 0
      have hex := sk_ex (p := fun i => decide (i < wl k) && decide (x.2 (p + i) = wc k i)) (M := wl k) (fun i h => by simp at h; exact h.1) 160 0 (by omega) (by omega)
      generalize sk (fun i => decide (i < wl k) && decide (x.2 (p + i) = wc k i)) 160 0 = q at hle hall hex
      by_cases hq : wl k ≤ q
      · have : isW x p e k = true := by
          simp only [isW, Bool.and_eq_true, decide_eq_true_eq]
          refine ⟨hl, fun i hi => ?_⟩
          have := hall i (Nat.zero_le _) (by omega)
          simp at this
          exact this.2
        rw [if_pos hq, this]
        rfl
      · have : isW x p e k = false := by
          cases hb : isW x p e k
          · rfl
          · simp only [isW, Bool.and_eq_true, decide_eq_true_eq] at hb
            have h1 := hb.2 q (by omega)
            simp [h1] at hex
            omega
        rw [if_neg hq, this]
        rfl
    · simp only [l_X5_tokenIs_20, w_sln k hk]
      by_cases hlt : i < wl k
      · rw [if_neg (nI_ge hlt (by omega)), if_neg (show ¬ wl k ≤ i by omega), h2, nI_add, zck (zin (show p + i < 160 by omega) (by decide)), zck (by rw [w_sl k hk]; exact zin hlt (by omega)), nI_clamp (show p + i < 2 ^ 31 by omega), ht.2 (p + i) (by omega), w_sch k hk i hlt, if_neg]
        intro q
        have hv := hx.2 (p + i) (by omega)
        have hw := w_lt k hk i (by omega)
        have := xl_inj (by omega) (by omega) q
        simp [hlt, this] at hq
      · rw [if_pos (nI_le (by omega) (by omega)), if_pos (by omega)]
    · have hq : i < wl k ∧ x.2 (p + i) = wc k i := by simpa using hq
      obtain ⟨hlt, hq⟩ := hq
      simp only [l_X5_tokenIs_20, w_sln k hk]
      rw [if_neg (nI_ge hlt (by omega)), h2, nI_add, zck (zin (show p + i < 160 by omega) (by decide)), zck (by rw [w_sl k hk]; exact zin hlt (by omega)), nI_clamp (show p + i < 2 ^ 31 by omega), ht.2 (p + i) (by omega), w_sch k hk i hlt, hq, if_pos rfl, nI_1]
  · have hne : ¬ nI (e - p) = nI (wl k) := fun q => hl (xl_inj (by omega) (by omega) q)
    have : isW x p e k = false := by simp [isW, hl]
    rw [if_neg hne, this]
    rfl
theorem due9 (c : Nat → Nat) {i : Nat} (hi : i < 9) : (if nI i = 0 then nI (c 0) else (if nI i = (1 : Int32) then nI (c 1) else (if nI i = (2 : Int32) then nI (c 2) else (if nI i = (3 : Int32) then nI (c 3) else (if nI i = (4 : Int32) then nI (c 4) else (if nI i = (5 : Int32) then nI (c 5) else (if nI i = (6 : Int32) then nI (c 6) else (if nI i = (7 : Int32) then nI (c 7) else nI (c 8))))))))) = nI (c i) := by
  have : i = 0 ∨ i = 1 ∨ i = 2 ∨ i = 3 ∨ i = 4 ∨ i = 5 ∨ i = 6 ∨ i = 7 ∨ i = 8 := by omega
  rcases this with h | h | h | h | h | h | h | h | h <;> subst h <;> rfl
theorem x8_isWord {x : TX} {p e k : Nat} {I : zk_I} (hx : wfX x) (hm : atM x p e I) (hpx : p ≤ x.1) (hee : e = tE x p) (hk : k < 9) : f_X8_isWord I (nI (wc k 0)) (nI (wc k 1)) (nI (wc k 2)) (nI (wc k 3)) (nI (wc k 4)) (nI (wc k 5)) (nI (wc k 6)) (nI (wc k 7)) (nI (wc k 8)) = some (nI (if isW x p e k then 1 else 0)) := by
  obtain ⟨ht, h12, h13, h11, h14⟩ := hm
  have hL := hx.1
  have hwl := w_len k (by omega)
  have he : e ≤ x.1 := by rw [hee]; exact tE_le hpx
  have hp : p ≤ e := by rw [hee]; exact tE_ge
  have hs4 : srt x p < 4 := by
    unfold srt
    have := sqV_lt (x.2 p)
    split
    · split <;> omega
    · omega
  have run0 : ∀ (K : Int32 → Option Int32) n i, l_X8_isWord_32 I (nI (wc k 0)) (nI (wc k 1)) (nI (wc k 2)) (nI (wc k 3)) (nI (wc k 4)) (nI (wc k 5)) (nI (wc k 6)) (nI (wc k 7)) (nI (wc k 8)) K (n + 1) 0 i = K 0 := by
    intro K n i
    simp only [l_X8_isWord_32, if_true]
    split <;> rfl
  unfold f_X8_isWord
  rw [zjp1, zjp0, h11, h12, h13, nI_sub hp]
  have isw : isW x p e k = true → srt x p = 1 ∧ e - p < 10 := by
    intro h
    simp only [isW, Bool.and_eq_true, decide_eq_true_eq] at h
    have h0 := h.2 0 (by omega)
    rw [Nat.add_zero] at h0
    have hlt : p < x.1 := by
      by_cases h1 : p < x.1
      · exact h1
      · exfalso
        have : tE x p = p := by unfold tE; rw [if_neg h1]
        omega
    refine ⟨?_, by omega⟩
    unfold srt
    rw [if_pos hlt, h0, (w_let k hk 0 (by omega)).1]
    rfl
  by_cases h1 : srt x p = 1
  · rw [h1, if_pos (show nI 1 = (1 : Int32) from rfl)]
    by_cases h10 : e - p < 10
    · have hn10 : ¬ (10 : Int32) ≤ nI (e - p) := nI_ge (b := 10) h10 (by decide)
      rw [if_neg hn10]
      have hall1 : ∀ i, p ≤ i → i < e → x.2 i ≠ 0 := by
        intro i hi1 hi2
        have hlt : p < x.1 := by omega
        have hs : sqV (x.2 p) = 1 := by
          unfold srt at h1
          rw [if_pos hlt] at h1
          split at h1 <;> omega
        have ee : e = sk (pK x 1) 160 p := by rw [hee]; unfold tE; rw [if_pos hlt, hs, if_neg (by decide)]
        have := sk_all (p := pK x 1) 160 p i hi1 (by omega)
        simp only [pK, Bool.and_eq_true, decide_eq_true_eq] at this
        intro h0
        rw [h0] at this
        exact absurd this.2 (by decide)
      have key := sk_loop (fun n i (_ : Unit) => l_X8_isWord_32 I (nI (wc k 0)) (nI (wc k 1)) (nI (wc k 2)) (nI (wc k 3)) (nI (wc k 4)) (nI (wc k 5)) (nI (wc k 6)) (nI (wc k 7)) (nI (wc k 8)) (fun (z22 : Int32) => zk_ck (zk_01 z22) (some z22)) (n + 1) 1 (nI i)) (fun i _ => if 9 ≤ i then some 1 else some 0) (fun _ => ()) (fun i => decide (i < 9) && (if p + i < e then decide (x.2 (p + i) = wc k i) else decide (wc k i = 0))) 9 (fun i h => by simp at h; exact h.1) (fun n i hi hq => ?_) (fun n i hq => ?_) 160 2999 0 (by omega) (by omega) (by omega)
      · refine Eq.trans key ?_
        have hle := sk_le (p := fun i => decide (i < 9) && (if p + i < e then decide (x.2 (p + i) = wc k i) else decide (wc k i = 0))) (M := 9) (fun i h => by simp at h; exact h.1) 160 0 (by omega)
        have hall := sk_all (p := fun i => decide (i < 9) && (if p + i < e then decide (x.2 (p + i) = wc k i) else decide (wc k i = 0))) 160 0
        have hex := sk_ex (p := fun i => decide (i < 9) && (if p + i < e then decide (x.2 (p + i) = wc k i) else decide (wc k i = 0))) (M := 9) (fun i h => by simp at h; exact h.1) 160 0 (by omega) (by omega)
        generalize sk (fun i => decide (i < 9) && (if p + i < e then decide (x.2 (p + i) = wc k i) else decide (wc k i = 0))) 160 0 = q at hle hall hex
        by_cases hq : 9 ≤ q
        · have hm : ∀ i, i < 9 → if p + i < e then x.2 (p + i) = wc k i else wc k i = 0 := by
            intro i hi
            have := hall i (Nat.zero_le _) (by omega)
            simp only [Bool.and_eq_true, decide_eq_true_eq] at this
            have := this.2
            by_cases hpe : p + i < e
            · rw [if_pos hpe] at this ⊢; simpa using this
            · rw [if_neg hpe] at this ⊢; simpa using this
          have hlen : e - p = wl k := by
            have g1 : wl k ≤ e - p := by
              have := hm (wl k - 1) (by omega)
              by_cases hpe : p + (wl k - 1) < e
              · omega
              · rw [if_neg hpe] at this
                exact absurd this (w_let k hk (wl k - 1) (by omega)).2
            by_cases g2 : wl k < e - p
            · exfalso
              have := hm (wl k) (by omega)
              rw [if_pos (by omega), w_pad k hk (wl k) (by omega) (Nat.le_refl _)] at this
              exact hall1 _ (by omega) (by omega) this
            · omega
          have : isW x p e k = true := by
            simp only [isW, Bool.and_eq_true, decide_eq_true_eq]
            refine ⟨hlen, fun i hi => ?_⟩
            have := hm i (by omega)
            rw [if_pos (by omega)] at this
            exact this
          rw [if_pos hq, this]
          rfl
        · have : isW x p e k = false := by
            cases hb : isW x p e k
            · rfl
            · exfalso
              simp only [isW, Bool.and_eq_true, decide_eq_true_eq] at hb
              have hq9 : q < 9 := by omega
              by_cases hpe : p + q < e
              · have h1 := hb.2 q (by omega)
                simp [h1, hq9, hpe] at hex
              · have h1 := w_pad k hk q hq9 (by omega)
                simp [h1, hq9, hpe] at hex
          rw [if_neg hq, this]
          rfl
      · rw [show n + 1 + 1 = (n + 1) + 1 from rfl, l_X8_isWord_32]
        by_cases hlt : i < 9
        · have c9 : ¬ (9 : Int32) ≤ nI i := nI_ge (b := 9) hlt (by decide)
          rw [if_neg c9, if_neg n10, zlt, zjp1, due9 (wc k) hlt, h12, h13, nI_add, if_neg (show ¬ 9 ≤ i by omega)]
          have hw := w_lt k (by omega) i hlt
          by_cases hpe : p + i < e
          · rw [if_neg (nI_ge hpe (by omega)), zck (zin (show p + i < 160 by omega) (by decide)), nI_clamp (show p + i < 2 ^ 31 by omega), ht.2 (p + i) (by omega), if_neg]
            · exact run0 _ _ _
            · intro q
              have hv := hx.2 (p + i) (by omega)
              have := xl_inj (by omega) (by omega) q
              simp [hlt, this, hpe] at hq
          · rw [if_pos (nI_le (by omega) (by omega)), if_neg]
            · exact run0 _ _ _
            · intro q
              have := xl_inj (b := 0) (by omega) (by omega) q
              simp [hlt, this, hpe] at hq
        · have c9 : (9 : Int32) ≤ nI i := nI_le (a := 9) (by omega) (by omega)
          rw [if_pos c9, if_pos (by omega)]
          rfl
      · have hq : i < 9 ∧ (if p + i < e then decide (x.2 (p + i) = wc k i) else decide (wc k i = 0)) = true := by simpa using hq
        obtain ⟨hlt, hq⟩ := hq
        have c9 : ¬ (9 : Int32) ≤ nI i := nI_ge (b := 9) hlt (by decide)
        rw [show n + 1 + 1 = (n + 1) + 1 from rfl, l_X8_isWord_32]
        rw [if_neg c9, if_neg n10, zlt, zjp1, due9 (wc k) hlt, h12, h13, nI_add]
        by_cases hpe : p + i < e
        · rw [if_pos hpe, decide_eq_true_eq] at hq
          rw [if_neg (nI_ge hpe (by omega)), zck (zin (show p + i < 160 by omega) (by decide)), nI_clamp (show p + i < 2 ^ 31 by omega), ht.2 (p + i) (by omega), hq, if_pos rfl, nI_1]
        · rw [if_neg hpe, decide_eq_true_eq] at hq
          rw [if_pos (nI_le (by omega) (by omega)), hq, if_pos (show nI 0 = (0 : Int32) from rfl), nI_1]
    · have hn10 : (10 : Int32) ≤ nI (e - p) := nI_le (a := 10) (by omega) (by omega)
      have : isW x p e k = false := by
        cases hb : isW x p e k
        · rfl
        · exact absurd (isw hb).2 h10
      rw [if_pos hn10]
      refine Eq.trans (run0 _ 2999 0) ?_
      rw [this]
      rfl
  · have hne : ¬ nI (srt x p) = (1 : Int32) := fun q => h1 (xl_inj (b := 1) (by omega) (by decide) q)
    have : isW x p e k = false := by
      cases hb : isW x p e k
      · rfl
      · exact absurd (isw hb).1 h1
    rw [if_neg hne]
    refine Eq.trans (run0 _ 2999 0) ?_
    rw [this]
    rfl

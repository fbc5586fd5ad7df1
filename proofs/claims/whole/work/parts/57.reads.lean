/-! all clauses -/
def frC9 (I I1 : zk_I) : Prop := (∀ c, c ≠ 1 → ¬ (9 ≤ c ∧ c ≤ 15) → I1 c = I c) ∧ I1 1 1 = I 1 1
theorem frC9.tr {I I1 I2 : zk_I} (h : frC9 I I1) (g : frC9 I1 I2) : frC9 I I2 := ⟨fun c h1 h2 => (g.1 c h1 h2).trans (h.1 c h1 h2), g.2.trans h.2⟩
theorem frC.to9 {I I1 : zk_I} (h : frC I I1) : frC9 I I1 := ⟨fun c h1 h2 => h.1 c h1 (by omega), h.2⟩
theorem frC9.sc {I : zk_I} (f : Nat → Int32) : frC9 I (zk_sc I 9 f) := ⟨fun a _ ha => zk_sc_n I f (fun q => ha (by omega)), by rw [zk_sc_n I f (by omega)]⟩
theorem semi {x : TX} {p : Nat} (hp : p < x.1) : isW x p (tE x p) 9 = decide (x.2 p = 59) := by
  by_cases h : x.2 p = 59
  · have hs : sqV (x.2 p) = 0 := by rw [h]; decide
    have : tE x p = p + 1 := by unfold tE; rw [if_pos hp, if_pos hs]
    rw [decide_eq_true h]
    simp only [isW, Bool.and_eq_true, decide_eq_true_eq]
    refine ⟨by rw [this, show wl 9 = 1 from rfl]; omega, fun i hi => ?_⟩
    have : i = 0 := by have : wl 9 = 1 := rfl; omega
    subst this
    exact h
  · rw [decide_eq_false h]
    cases hb : isW x p (tE x p) 9
    · rfl
    · simp only [isW, Bool.and_eq_true, decide_eq_true_eq] at hb
      exact absurd (hb.2 0 (by decide)) h
theorem semi3 {x : TX} {p : Nat} (hp : p < x.1) (h : x.2 p = 59) : srt x p = 3 := by
  unfold srt
  rw [if_pos hp, h]
  rfl
def kM1 (z24 : Int32) (I25 : zk_I) : Option (Int32 × zk_I) := some (z24, I25)
def rdF (x : TX) (T : TD) (e0 i s : Nat) (K : zk_I → Option (Int32 × zk_I)) : Prop :=
  (∀ I n, 14 - i < n → atC x (tS x e0) (tE x (tS x e0)) I → repC T I 10 → I 9 1 = nI i → ∃ I1, l_X0_firstFault_22 K n (nI i) I = some (nI s, I1) ∧ frC9 I I1) ∧
  ∀ I n, 15 - i < n → tM x I → I 76 13 = nI e0 → repM T I 79 → ∃ I1, l_X8_reads_35 kM1 n (nI i) 1 I = some (-1, I1) ∧ frM I I1 ∧ I1 76 12 = nI s
def rdO (x : TX) (T : TD) (e0 i : Nat) (T' : TD) (c : Nat) (K : zk_I → Option (Int32 × zk_I)) : Prop :=
  (∀ I n, 14 - i < n → atC x (tS x e0) (tE x (tS x e0)) I → repC T I 10 → I 9 1 = nI i → ∃ I1, l_X0_firstFault_22 K n (nI i) I = some (-1, I1) ∧ frC9 I I1 ∧ I1 9 1 = nI c ∧ repC T' I1 10) ∧
  ∀ I n, 15 - i < n → tM x I → I 76 13 = nI e0 → repM T I 79 → ∃ I1, l_X8_reads_35 kM1 n (nI i) 1 I = some (nI c, I1) ∧ frM I I1 ∧ repM T' I1 79
theorem rd_step {x : TX} (hx : wfX x) (K : zk_I → Option (Int32 × zk_I)) (i : Nat) (hi : i < 14) (ih : ∀ (T' : TD) (q : Nat), ¬ (i + 1 = 14) → wfT T' → q ≤ x.1 → (∃ s, s ≤ x.1 ∧ rdF x T' q (i + 1) s K) ∨ ∃ T'' c, wfT T'' ∧ c ≤ 14 ∧ rdO x T' q (i + 1) T'' c K) (T : TD) (e0 : Nat) (hT : wfT T) (he0 : e0 ≤ x.1) : (∃ s, s ≤ x.1 ∧ rdF x T e0 i s K) ∨ ∃ T' c, wfT T' ∧ c ≤ 14 ∧ rdO x T e0 i T' c K := by
  have hL := hx.1
  have hp := tS_le he0
  have c14 : ¬ (14 : Int32) ≤ nI i := nI_ge (b := 14) hi (by decide)
  have hs4 : ∀ p, srt x p < 4 := fun p => by
    unfold srt
    have := sqV_lt (x.2 p)
    split
    · split <;> omega
    · omega
  rcases cl_clause hx hT hp rfl with ⟨q, hq, hC, hM⟩ | ⟨T', q, hq, hT', hC, hM⟩
  · refine Or.inl ⟨q, hq, fun I n hn hc hr h9 => ?_, fun I n hn hm h13 hr => ?_⟩
    · obtain ⟨n, rfl⟩ : ∃ k, n = k + 1 := ⟨n - 1, by omega⟩
      obtain ⟨I1, a1, a2, a3⟩ := hC I hc hr
      refine ⟨I1, ?_, a2.to9⟩
      rw [l_X0_firstFault_22, if_neg c14, show f_X0_doClause I = _ from a1, zbd2, if_pos rfl, a3]
    · obtain ⟨n, rfl⟩ : ∃ k, n = k + 1 := ⟨n - 1, by omega⟩
      obtain ⟨I9, b1, b2, b3, b4⟩ := tok2 hx hm hr he0 h13
      obtain ⟨I1, a1, a2, a3⟩ := hM I9 b2 b4
      refine ⟨I1, ?_, b3.tr a2, a3⟩
      rw [l_X8_reads_35, if_neg n10, b1, zbd1, show f_X8_readsClause I9 = _ from a1, zbd2, if_pos rfl]
  · have hp1 := tS_le hq
    have he1 := tE_le hp1
    have hpe1 : tS x q ≤ tE x (tS x q) := tE_ge
    -- how both begin
    have C0 : ∀ I n, atC x (tS x e0) (tE x (tS x e0)) I → repC T I 10 → I 9 1 = nI i → ∃ I2, l_X0_firstFault_22 K (n + 1) (nI i) I = (if f_X5_isAtEnd I2 = 0 then zk_bd1 (f_X5_tokenIs I2 9) (fun (r16 : Int32) => if r16 = 0 then some ((I2 1 2), I2) else (if (I2 9 1) = (14 : Int32) then some ((I2 1 2), I2) else zk_bd1 (f_X5_goToNextToken I2) (fun (I21 : zk_I) => l_X0_firstFault_22 K n (nI i + (1 : Int32)) I21))) else some ((-1 : Int32), I2)) ∧ frC9 I I2 ∧ atC x (tS x q) (tE x (tS x q)) I2 ∧ repC T' I2 10 ∧ I2 9 1 = nI (i + 1) := by
      intro I n hc hr h9
      obtain ⟨I1, a1, a2, a3, a4⟩ := hC I hc hr
      refine ⟨zk_sc I1 9 (upd (I1 9) 1 (nI (i + 1))), ?_, a2.to9.tr (frC9.sc _), ⟨a3.1.fr ?_ ?_, ?_, ?_⟩, a4.fr ?_, ?_⟩
      · rw [l_X0_firstFault_22, if_neg c14, show f_X0_doClause I = _ from a1, zbd2, if_neg n10, zlt, zlt, a2.1 9 (by decide) (by decide), h9, nI_1]
        simp only [zjp0]
      · rw [zk_sc_n _ _ (by decide)]
      · rw [zk_sc_n _ _ (by decide)]
      · rw [zk_sc_n _ _ (by decide)]; exact a3.2.1
      · rw [zk_sc_n _ _ (by decide)]; exact a3.2.2
      · intro c h1 h2; exact zk_sc_n _ _ (by omega)
      · rw [zk_sc_s, pk_us]
    have M0 : ∀ I n, tM x I → I 76 13 = nI e0 → repM T I 79 → ∃ I2, l_X8_reads_35 kM1 (n + 1) (nI i) 1 I = (if (if (I2 76 11) = 0 then (0 : Int32) else (1 : Int32)) = 0 then l_X8_reads_35 kM1 n (nI i + (1 : Int32)) (if (I2 76 11) = 0 then (0 : Int32) else (1 : Int32)) I2 else (if (I2 76 11) = (3 : Int32) then zk_ck (zk_in (I2 76 12) 160) (if (I2 77 (I2 76 12).toNatClampNeg) = (59 : Int32) then (if (nI i + (1 : Int32)) = (14 : Int32) then some ((-1 : Int32), I2) else l_X8_reads_35 kM1 n (nI i + (1 : Int32)) (if (I2 76 11) = 0 then (0 : Int32) else (1 : Int32)) I2) else some ((-1 : Int32), I2)) else some ((-1 : Int32), I2))) ∧ frM I I2 ∧ atM x (tS x q) (tE x (tS x q)) I2 ∧ repM T' I2 79 := by
      intro I n hm h13 hr
      obtain ⟨I9, b1, b2, b3, b4⟩ := tok2 hx hm hr he0 h13
      obtain ⟨I1, a1, a2, a3, a4⟩ := hM I9 b2 b4
      obtain ⟨I2, d1, d2, d3, d4⟩ := tok2 hx (b2.1.frm a2) a4 hq a3
      refine ⟨I2, ?_, (b3.tr a2).tr d3, d2, d4⟩
      rw [l_X8_reads_35, if_neg n10, b1, zbd1, show f_X8_readsClause I9 = _ from a1, zbd2, if_neg n10, d1, zbd1, zlt]
    by_cases hend : tS x q < x.1
    · have hsr : ¬ srt x (tS x q) = 0 := by
        unfold srt
        rw [if_pos hend]
        have := sqV_lt (x.2 (tS x q))
        split <;> omega
      have hCe : ∀ I2, atC x (tS x q) (tE x (tS x q)) I2 → f_X5_isAtEnd I2 = 0 := fun I2 h => by
        unfold f_X5_isAtEnd
        rw [h.2.1, h.1.1, if_pos (nI_lt hend (by omega))]
      have hMe : ∀ I2, atM x (tS x q) (tE x (tS x q)) I2 → ¬ I2 76 11 = (0 : Int32) := fun I2 h => by
        rw [h.2.2.2.1]
        have := hs4 (tS x q)
        exact fun r => hsr (xl_inj (b := 0) (by omega) (by decide) r)
      by_cases h59 : x.2 (tS x q) = 59
      · by_cases h14 : i + 1 = 14
        · -- a ; behind the last clause that there is room for
          refine Or.inl ⟨tS x q, hp1, fun I n hn hc hr h9 => ?_, fun I n hn hm h13 hr => ?_⟩
          · obtain ⟨n, rfl⟩ : ∃ k, n = k + 1 := ⟨n - 1, by omega⟩
            obtain ⟨I2, a1, a2, a3, a4, a5⟩ := C0 I n hc hr h9
            refine ⟨I2, ?_, a2⟩
            rw [a1, if_pos (hCe I2 a3), x_tokenIs hx a3 he1 hpe1 (by decide), zbd1, q01, semi hend, decide_eq_true h59, if_pos rfl, a5, h14, if_pos (show nI 14 = (14 : Int32) from rfl), a3.2.1]
          · obtain ⟨n, rfl⟩ : ∃ k, n = k + 1 := ⟨n - 1, by omega⟩
            obtain ⟨I2, a1, a2, a3, a4⟩ := M0 I n hm h13 hr
            refine ⟨I2, ?_, a2, a3.2.1⟩
            have e3 : I2 76 11 = (3 : Int32) := by rw [a3.2.2.2.1, semi3 hend h59]; rfl
            have et : nI (x.2 (tS x q)) = (59 : Int32) := by rw [h59]; rfl
            have e14 : nI i + (1 : Int32) = (14 : Int32) := by rw [nI_1, h14]; rfl
            rw [a1, if_neg (hMe I2 a3), if_neg n10, if_pos e3, a3.2.1, zck (zin (show tS x q < 160 by omega) (by decide)), nI_clamp (show tS x q < 2 ^ 31 by omega), a3.1.2 _ hend, if_pos et, if_pos e14]
        · have hn14 : ¬ nI (i + 1) = (14 : Int32) := fun r => h14 (xl_inj (b := 14) (by omega) (by decide) r)
          have goC : ∀ I n, atC x (tS x e0) (tE x (tS x e0)) I → repC T I 10 → I 9 1 = nI i → ∃ I3, l_X0_firstFault_22 K (n + 1) (nI i) I = l_X0_firstFault_22 K n (nI (i + 1)) I3 ∧ frC9 I I3 ∧ atC x (tS x (tE x (tS x q))) (tE x (tS x (tE x (tS x q)))) I3 ∧ repC T' I3 10 ∧ I3 9 1 = nI (i + 1) := by
            intro I n hc hr h9
            obtain ⟨I2, a1, a2, a3, a4, a5⟩ := C0 I n hc hr h9
            obtain ⟨I3, b1, b2, b3⟩ := x_next hx a3.1 he1 a3.2.2
            refine ⟨I3, ?_, a2.tr (frC.of1 b3 a3.1 b2.1).to9, b2, a4.fr (fun c h1 h2 => b3 c (by omega)), by rw [b3 9 (by decide)]; exact a5⟩
            rw [a1, if_pos (hCe I2 a3), x_tokenIs hx a3 he1 hpe1 (by decide), zbd1, q01, semi hend, decide_eq_true h59, if_pos rfl, a5, if_neg hn14, b1, zbd1, nI_1]
          have goM : ∀ I n, tM x I → I 76 13 = nI e0 → repM T I 79 → ∃ I2, l_X8_reads_35 kM1 (n + 1) (nI i) 1 I = l_X8_reads_35 kM1 n (nI (i + 1)) 1 I2 ∧ frM I I2 ∧ tM x I2 ∧ I2 76 13 = nI (tE x (tS x q)) ∧ repM T' I2 79 := by
            intro I n hm h13 hr
            obtain ⟨I2, a1, a2, a3, a4⟩ := M0 I n hm h13 hr
            refine ⟨I2, ?_, a2, a3.1, a3.2.2.1, a4⟩
            have e3 : I2 76 11 = (3 : Int32) := by rw [a3.2.2.2.1, semi3 hend h59]; rfl
            have et : nI (x.2 (tS x q)) = (59 : Int32) := by rw [h59]; rfl
            have hn14' : ¬ nI i + (1 : Int32) = (14 : Int32) := by rw [nI_1]; exact hn14
            rw [a1, if_neg (hMe I2 a3), if_neg n10, if_pos e3, a3.2.1, zck (zin (show tS x q < 160 by omega) (by decide)), nI_clamp (show tS x q < 2 ^ 31 by omega), a3.1.2 _ hend, if_pos et, if_neg hn14', nI_1]
          rcases ih T' (tE x (tS x q)) h14 hT' he1 with ⟨s, hs, h1, h2⟩ | ⟨T2, c, hT2, hc14, h1, h2⟩
          · refine Or.inl ⟨s, hs, fun I n hn hc hr h9 => ?_, fun I n hn hm h13 hr => ?_⟩
            · obtain ⟨n, rfl⟩ : ∃ k, n = k + 1 := ⟨n - 1, by omega⟩
              obtain ⟨I3, a1, a2, a3, a4, a5⟩ := goC I n hc hr h9
              obtain ⟨I4, b1, b2⟩ := h1 I3 n (by omega) a3 a4 a5
              exact ⟨I4, a1.trans b1, a2.tr b2⟩
            · obtain ⟨n, rfl⟩ : ∃ k, n = k + 1 := ⟨n - 1, by omega⟩
              obtain ⟨I3, a1, a2, a3, a4, a5⟩ := goM I n hm h13 hr
              obtain ⟨I4, b1, b2, b3⟩ := h2 I3 n (by omega) a3 a4 a5
              exact ⟨I4, a1.trans b1, a2.tr b2, b3⟩
          · refine Or.inr ⟨T2, c, hT2, hc14, fun I n hn hc hr h9 => ?_, fun I n hn hm h13 hr => ?_⟩
            · obtain ⟨n, rfl⟩ : ∃ k, n = k + 1 := ⟨n - 1, by omega⟩
              obtain ⟨I3, a1, a2, a3, a4, a5⟩ := goC I n hc hr h9
              obtain ⟨I4, b1, b2, b3⟩ := h1 I3 n (by omega) a3 a4 a5
              exact ⟨I4, a1.trans b1, a2.tr b2, b3⟩
            · obtain ⟨n, rfl⟩ : ∃ k, n = k + 1 := ⟨n - 1, by omega⟩
              obtain ⟨I3, a1, a2, a3, a4, a5⟩ := goM I n hm h13 hr
              obtain ⟨I4, b1, b2, b3⟩ := h2 I3 n (by omega) a3 a4 a5
              exact ⟨I4, a1.trans b1, a2.tr b2, b3⟩
      · refine Or.inl ⟨tS x q, hp1, fun I n hn hc hr h9 => ?_, fun I n hn hm h13 hr => ?_⟩
        · obtain ⟨n, rfl⟩ : ∃ k, n = k + 1 := ⟨n - 1, by omega⟩
          obtain ⟨I2, a1, a2, a3, a4, a5⟩ := C0 I n hc hr h9
          refine ⟨I2, ?_, a2⟩
          rw [a1, if_pos (hCe I2 a3), x_tokenIs hx a3 he1 hpe1 (by decide), zbd1, q01, semi hend, decide_eq_false h59, if_neg (by decide), a3.2.1]
        · obtain ⟨n, rfl⟩ : ∃ k, n = k + 1 := ⟨n - 1, by omega⟩
          obtain ⟨I2, a1, a2, a3, a4⟩ := M0 I n hm h13 hr
          refine ⟨I2, ?_, a2, a3.2.1⟩
          have hv := hx.2 _ hend
          have et : ¬ nI (x.2 (tS x q)) = (59 : Int32) := fun r => h59 (xl_inj (b := 59) (by omega) (by decide) r)
          rw [a1, if_neg (hMe I2 a3), if_neg n10, a3.2.1, zck (zin (show tS x q < 160 by omega) (by decide)), nI_clamp (show tS x q < 2 ^ 31 by omega), a3.1.2 _ hend, if_neg et]
          split <;> rfl
    · refine Or.inr ⟨T', i + 1, hT', by omega, fun I n hn hc hr h9 => ?_, fun I n hn hm h13 hr => ?_⟩
      · obtain ⟨n, rfl⟩ : ∃ k, n = k + 1 := ⟨n - 1, by omega⟩
        obtain ⟨I2, a1, a2, a3, a4, a5⟩ := C0 I n hc hr h9
        refine ⟨I2, ?_, a2, a5, a4⟩
        have hCe : ¬ f_X5_isAtEnd I2 = 0 := by
          unfold f_X5_isAtEnd
          rw [a3.2.1, a3.1.1, if_neg (nI_nlt (by omega) (by omega))]
          decide
        rw [a1, if_neg hCe]
      · obtain ⟨n, rfl⟩ : ∃ k, n = k + 2 := ⟨n - 2, by omega⟩
        obtain ⟨I2, a1, a2, a3, a4⟩ := M0 I (n + 1) hm h13 hr
        refine ⟨I2, ?_, a2, a4⟩
        have e0' : I2 76 11 = (0 : Int32) := by
          rw [a3.2.2.2.1]
          unfold srt
          rw [if_neg hend]
          rfl
        rw [a1, if_pos e0', if_pos rfl, l_X8_reads_35, if_pos rfl, nI_1]
        rfl
theorem rd_all {x : TX} (hx : wfX x) (K : zk_I → Option (Int32 × zk_I)) : ∀ m i, i + m = 13 → ∀ (T : TD) (e0 : Nat), wfT T → e0 ≤ x.1 → (∃ s, s ≤ x.1 ∧ rdF x T e0 i s K) ∨ ∃ T' c, wfT T' ∧ c ≤ 14 ∧ rdO x T e0 i T' c K := by
  intro m
  induction m with
  | zero =>
    intro i hi T e0 hT he0
    have ih : ∀ (T' : TD) (q : Nat), ¬ (i + 1 = 14) → wfT T' → q ≤ x.1 → (∃ s, s ≤ x.1 ∧ rdF x T' q (i + 1) s K) ∨ ∃ T'' c, wfT T'' ∧ c ≤ 14 ∧ rdO x T' q (i + 1) T'' c K := fun _ _ h => absurd (by omega) h
    exact rd_step hx K i (by omega) ih T e0 hT he0
  | succ m ihm =>
    intro i hi T e0 hT he0
    exact rd_step hx K i (by omega) (fun T' q _ h1 h2 => ihm (i + 1) (by omega) T' q h1 h2) T e0 hT he0

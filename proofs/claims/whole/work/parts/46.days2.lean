/-! calls that change the days: day, name, undo, keep, back; slips -/
theorem pushP_wf {T : TD} {D : DD} {P : Nat × (Nat → DD)} (hp : P.1 ≤ 8 ∧ ∀ i, i < P.1 → wfD T (P.2 i)) (hD : wfD T D) : (pushP P D).1 ≤ 8 ∧ ∀ i, i < (pushP P D).1 → wfD T ((pushP P D).2 i) := by
  unfold pushP
  by_cases h : P.1 < 8
  · rw [if_pos h]
    refine ⟨h, fun i hi => ?_⟩
    have hi : i < P.1 + 1 := hi
    show wfD T (if i = P.1 then D else P.2 i)
    by_cases hin : i = P.1
    · rw [if_pos hin]; exact hD
    · rw [if_neg hin]; exact hp.2 i (by omega)
  · rw [if_neg h]
    refine ⟨Nat.le_refl _, fun i hi => ?_⟩
    have hi : i < 8 := hi
    show wfD T (if i = 7 then D else P.2 (i + 1))
    by_cases hin : i = 7
    · rw [if_pos hin]; exact hD
    · rw [if_neg hin]; exact hp.2 (i + 1) (by omega)
theorem nmD_congr {T : TD} {D D' : DD} : ∀ {n : Nat}, (∀ b, b < n → haD D b = haD D' b) → nmD T D n = nmD T D' n
  | 0, _ => rfl
  | n + 1, h => by
    unfold nmD
    rw [nmD_congr (n := n) (fun b hb => h b (by omega)), h n (by omega)]
theorem o_day {S : ST} (hw : wfS S) : opS S (fun I => f_X7_day I) (fun I => f_X8_day I) := by
  have hw0 := hw
  obtain ⟨wt, hT, hD, hP, hK, hS⟩ := hw
  have h9 : dyD (ddS S) ≤ 999 := hD.1
  by_cases hf : dyD (ddS S) = 999
  · refine opS.no hw0 (-5) (fun I hc => ?_) (fun I hm => ?_)
    · have e : ¬ I 16 0 < (999 : Int32) := by rw [hc.2.2.1.1, hf]; decide
      simp only [f_X7_day, if_neg e]
    · have e : I 80 0 = (999 : Int32) := by rw [hm.2.2.1.1, hf]; rfl
      simp only [f_X8_day, if_pos e]
  · refine ⟨(txS S, tdS S, (dyD (ddS S) + 1, hoD (ddS S), haD (ddS S), whD (ddS S)), pushP (paS S) (ddS S), kpS S, slS S), nI (dyD (ddS S) + 1), ⟨wt, hT, ⟨show dyD (ddS S) + 1 ≤ 999 by omega, fun b hb => ?_⟩, pushP_wf hP hD, hK, hS⟩, fun I hc => ?_, fun I hm => ?_⟩
    · obtain ⟨a1, a2, a3, a4⟩ := hD.2 b hb
      exact ⟨a1, a2, a3, Nat.le_succ_of_le a4⟩
    · obtain ⟨ct, cT, cD, cP, cK, cS⟩ := hc
      obtain ⟨I1, r1, r2, r3⟩ := x_remember hT hP.1 cD cP
      have e : I 16 0 < (999 : Int32) := by rw [cD.1]; exact nI_lt (b := 999) (by omega) (by decide)
      have e16 : I1 16 0 = nI (dyD (ddS S)) := by rw [r3 16 (by omega)]; exact cD.1
      have hrel : ∀ q, q ≠ 16 → zk_sc I1 16 (upd (I1 16) 0 (nI (dyD (ddS S) + 1))) q = I1 q := fun q h1 => zk_sc_n _ _ h1
      refine ⟨zk_sc I1 16 (upd (I1 16) 0 (nI (dyD (ddS S) + 1))), ?_, ⟨ct.fr ?_ ?_, cT.fr ?_, ⟨?_, ?_⟩, r2.fr ?_, cK.fr ?_ ?_, cS.fr ?_⟩, ?_⟩
      · simp only [f_X7_day, if_pos e, r1, zk_bd1, Option.bind_some, zk_lt, e16, nI_1, zk_sc_s, pk_us]
      · rw [hrel 1 (by decide), r3 1 (by omega)]
      · rw [hrel 2 (by decide), r3 2 (by omega)]
      · intro c h1 h2; rw [hrel c (by omega), r3 c (by omega)]
      · rw [zk_sc_s, pk_us]
      · intro b hb
        rw [hrel 17 (by decide), hrel 18 (by decide), hrel 19 (by decide), r3 17 (by omega), r3 18 (by omega), r3 19 (by omega)]
        exact cD.2 b hb
      · intro c h1 h2; rw [hrel c (by omega)]
      · rw [hrel 0 (by decide), r3 0 (by omega)]
      · intro c h1 h2; rw [hrel c (by omega), r3 c (by omega)]
      · intro c h1 h2; rw [hrel c (by omega), r3 c (by omega)]
      · intro c h1; rw [hrel c (by omega), r3 c (by omega)]
    · obtain ⟨mt, mT, mD, mP, mK, mS⟩ := hm
      obtain ⟨I1, r1, r2, r3, r4⟩ := x8_keeps hT hP.1 mD mP
      have e : ¬ I 80 0 = (999 : Int32) := by rw [mD.1]; exact fun q => hf (xl_inj (by omega) (by decide) (b := 999) q)
      have e16 : I1 80 0 = nI (dyD (ddS S)) := by rw [r3 80 (by omega) (by omega)]; exact mD.1
      have hrel : ∀ q, q ≠ 80 → zk_sc I1 80 (upd (I1 80) 0 (nI (dyD (ddS S) + 1))) q = I1 q := fun q h1 => zk_sc_n _ _ h1
      refine ⟨zk_sc I1 80 (upd (I1 80) 0 (nI (dyD (ddS S) + 1))), ?_, ⟨mt.fr ?_ ?_, mT.fr ?_, ⟨?_, ?_, ?_⟩, r2.fr ?_ ?_, mK.fr ?_ ?_, mS.fr ?_ ?_⟩, ?_⟩
      · simp only [f_X8_day, if_neg e, r1, zk_bd1, Option.bind_some, zk_lt, e16, nI_1, zk_sc_s, pk_us]
      · rw [hrel 76 (by decide), r4 1 (by omega)]
      · rw [hrel 77 (by decide), r3 77 (by omega) (by omega)]
      · rw [hrel 78 (by decide), r3 78 (by omega) (by omega)]
      · rw [zk_sc_s, pk_us]
      · rw [zk_sc_s, pk_un (by decide), r3 80 (by omega) (by omega)]
        refine mD.2.1.trans (congrArg nI (nmD_congr (fun b _ => rfl)))
      · intro b hb
        rw [zk_sc_s, pk_un (by omega), pk_un (by omega), pk_un (by omega), r3 80 (by omega) (by omega)]
        exact mD.2.2 b hb
      · rw [hrel 76 (by decide)]
      · rw [hrel 81 (by decide)]
      · rw [hrel 83 (by decide), r3 83 (by omega) (by omega)]
      · rw [hrel 82 (by decide), r3 82 (by omega) (by omega)]
      · rw [hrel 76 (by decide), r4 10 (by omega)]
      · rw [hrel 84 (by decide), r3 84 (by omega) (by omega)]
      · intro c h1; rw [hrel c (by omega), r3 c (by omega) (by omega)]
theorem pc_or : ∀ s, s < 256 → ∀ r, r < 8 → s.testBit r = false → pc (s ||| 2 ^ r) = pc s + 1 := by decide +kernel
theorem pc_pos : ∀ s, s < 256 → ∀ r, r < 8 → s.testBit r = true → 1 ≤ pc s := by decide +kernel
def passD (D : DD) (b r : Nat) : DD := (dyD D + 1, (fun q => if q = b then r else hoD D q), (fun q => if q = b then haD D b ||| 2 ^ r else haD D q), fun q => if q = b then dyD D else whD D q)
theorem passD_nm {T : TD} {D : DD} (hT : wfT T) (hD : wfD T D) {b r : Nat} (hr : r < nrT T) (hb : b < nbT T) (h : (haD D b).testBit r = false) : ∀ n, nmD T (passD D b r) n = nmD T D n + (if b < n then 1 else 0)
  | 0 => by simp [nmD]
  | n + 1 => by
    have ih := passD_nm hT hD hr hb h n
    have hT1 := hT.1
    unfold nmD
    rw [ih]
    have hl := had_lt hT hD hb
    obtain ⟨a1, a2, a3, a4⟩ := hD.2 b hb
    by_cases hn : n = b
    · subst hn
      have e : haD (passD D n r) n = haD D n ||| 2 ^ r := if_pos rfl
      have p1 := pc_or _ hl r (by omega) h
      have p2 := pc_pos _ hl _ (show hoD D n < 8 by omega) a3
      rw [e, p1, if_neg (Nat.lt_irrefl _), if_pos (Nat.lt_succ_self _)]
      omega
    · have e : haD (passD D b r) n = haD D n := if_neg hn
      rw [e]
      by_cases h1 : b < n
      · rw [if_pos h1, if_pos (by omega)]; omega
      · rw [if_neg h1, if_neg (by omega)]; omega
theorem passD_wf {T : TD} {D : DD} (hT : wfT T) (hD : wfD T D) {b r : Nat} (hr : r < nrT T) (hb : b < nbT T) (h9 : dyD D < 999) : wfD T (passD D b r) := by
  refine ⟨h9, fun q hq => ?_⟩
  obtain ⟨a1, a2, a3, a4⟩ := hD.2 q hq
  by_cases hqb : q = b
  · subst hqb
    have e1 : hoD (passD D q r) q = r := if_pos rfl
    have e2 : haD (passD D q r) q = haD D q ||| 2 ^ r := if_pos rfl
    have e3 : whD (passD D q r) q = dyD D := if_pos rfl
    rw [e1, e2, e3]
    refine ⟨hr, Nat.or_lt_two_pow a2 (Nat.pow_lt_pow_right (by decide) hr), ?_, Nat.le_succ _⟩
    rw [Nat.testBit_or, Nat.testBit_two_pow_self, Bool.or_true]
  · have e1 : hoD (passD D b r) q = hoD D q := if_neg hqb
    have e2 : haD (passD D b r) q = haD D q := if_neg hqb
    have e3 : whD (passD D b r) q = whD D q := if_neg hqb
    rw [e1, e2, e3]
    exact ⟨a1, a2, a3, Nat.le_succ_of_le a4⟩
theorem x_passOn {T : TD} {D : DD} {I : zk_I} (hT : wfT T) {b r : Nat} (hr : r < nrT T) (hb : b < nbT T) (hD : repDC T D I 16) : ∃ I1, f_X1_passOn I 16 (nI b) (nI r) = some I1 ∧ repDC T (passD D b r) I1 16 ∧ ∀ c, ¬ (16 ≤ c ∧ c ≤ 19) → I1 c = I c := by
  have hnb := hT.2.1
  have hnr := hT.1
  obtain ⟨d1, d2⟩ := hD
  unfold f_X1_passOn
  simp only [zck (zin (show b < 4 by omega) (by decide)), nI_clamp (show b < 2 ^ 31 by omega), zk_lt, xlit, xb_shl1 r (by omega)]
  refine ⟨_, rfl, ⟨?_, fun q hq => ⟨?_, ?_, ?_⟩⟩, fun c hc => ?_⟩
  · rw [zk_sc_s, pk_us, zk_sc_n _ _ (by decide), zk_sc_n _ _ (by decide), zk_sc_n _ _ (by decide), d1, nI_add]
    rfl
  · rw [zk_sc_n _ _ (by decide), zk_sc_n _ _ (by decide), zk_sc_n _ _ (by decide), zk_sc_s]
    by_cases hqb : q = b
    · subst hqb
      rw [pk_us]
      exact (congrArg nI (if_pos rfl)).symm
    · rw [pk_un hqb]
      exact (d2 q hq).1.trans (congrArg nI (if_neg hqb)).symm
  · rw [zk_sc_n _ _ (by decide), zk_sc_n _ _ (by decide), zk_sc_s, zk_sc_n _ _ (by decide)]
    by_cases hqb : q = b
    · subst hqb
      rw [pk_us, (d2 q hq).2.1, xb_or]
      exact (congrArg nI (if_pos rfl)).symm
    · rw [pk_un hqb]
      exact (d2 q hq).2.1.trans (congrArg nI (if_neg hqb)).symm
  · rw [zk_sc_n _ _ (by decide), zk_sc_s, zk_sc_n _ _ (by decide), zk_sc_n _ _ (by decide), zk_sc_n _ _ (by decide), zk_sc_n _ _ (by decide), d1]
    by_cases hqb : q = b
    · subst hqb
      rw [pk_us]
      exact (congrArg nI (if_pos rfl)).symm
    · rw [pk_un hqb]
      exact (d2 q hq).2.2.trans (congrArg nI (if_neg hqb)).symm
  · rw [zk_sc_n _ _ (by omega), zk_sc_n _ _ (by omega), zk_sc_n _ _ (by omega), zk_sc_n _ _ (by omega)]
theorem sc_sc (I : zk_I) (c : Nat) (f g : Nat → Int32) : zk_sc (zk_sc I c f) c g = zk_sc I c g := by
  funext q
  by_cases hq : q = c
  · subst hq; rw [zk_sc_s, zk_sc_s]
  · rw [zk_sc_n _ _ hq, zk_sc_n _ _ hq, zk_sc_n _ _ hq]
theorem o_name {S : ST} (hw : wfS S) (a b : Int32) : opS S (fun I => f_X7_name I a b) (fun I => f_X8_name I a b) := by
  have hw0 := hw
  obtain ⟨wt, hT, hD, hP, hK, hS⟩ := hw
  have hnb := hT.2.1
  have hnr := hT.1
  have h9 : dyD (ddS S) ≤ 999 := hD.1
  rcases arg_cases a (n := nbT S.2.1) (by omega) with ha | ⟨j, hj, rfl⟩
  · refine opS.no hw0 (-2) (fun I hc => ?_) (fun I hm => ?_)
    · simp only [f_X7_name, zk_lt, x_hasB0 hc.2.1 ha]
      rfl
    · simp only [f_X8_name, zk_bd1, x8_isB0 hT hm.2.1 ha]
      rfl
  · rcases arg_cases b (n := nrT S.2.1) (by omega) with hb | ⟨i, hi, rfl⟩
    · refine opS.no hw0 (-2) (fun I hc => ?_) (fun I hm => ?_)
      · simp only [f_X7_name, zk_lt, x_hasB1 hT hc.2.1 hj, x_hasR0 hc.2.1 hb, if_neg n10]
        rfl
      · simp only [f_X8_name, zk_bd1, x8_isB1 hT hm.2.1 hj, x8_isR0 hT hm.2.1 hb, Option.bind_some, if_neg n10]
        rfl
    · have hlt := nowN_lt hT S.2.2.1 j
      have C1 : ∀ I, invC S I → f_X7_name I (nI j) (nI i) = if nI (if (nowN S.2.1 S.2.2.1 j).testBit i then 1 else 0) = 0 then some ((-4 : Int32), I) else (if (I 16 0) < (999 : Int32) then zk_bd1 (f_X2_remember I) (fun (I14 : zk_I) => zk_bd1 (f_X1_passOn I14 16 (nI j) (nI i)) (fun (I16 : zk_I) => some (f_J6_bitCount_0f7a4 (I16 18 j), I16))) else some ((-5 : Int32), I)) := by
        intro I hc
        simp only [f_X7_name, zk_lt, x_hasB1 hT hc.2.1 hj, x_hasR1 hT hc.2.1 hi, if_neg n10, x_now hT hD hc.2.1 hc.2.2.1 hj, zbd1, x_hasBit (show nowN S.2.1 S.2.2.1 j < 2 ^ 31 by omega) (show i < 32 by omega), zck (zin (show j < 4 by omega) (by decide)), nI_clamp (show j < 2 ^ 31 by omega)]
      have M0 : ∀ I, invM S I → f_X8_name I (nI j) (nI i) = if nI (if (nowN S.2.1 S.2.2.1 j).testBit i then 1 else 0) = 0 then some ((-4 : Int32), I) else (if (I 80 0) = (999 : Int32) then some ((-5 : Int32), I) else zk_bd1 (f_X8_keeps I) (fun (I12 : zk_I) => zk_bd1 (f_X8_ones ((upd (upd (upd (upd (upd (I12 80) (2 + j) (nI i)) (6 + j) (upd (I12 80) (2 + j) (nI i) (6 + j) ||| nI (2 ^ i))) (10 + j) (I12 80 0)) 1 (I12 80 1 + 1)) 0 (I12 80 0 + 1)) (6 + j))) (fun r24 => some (r24, zk_sc I12 80 (upd (upd (upd (upd (upd (I12 80) (2 + j) (nI i)) (6 + j) (upd (I12 80) (2 + j) (nI i) (6 + j) ||| nI (2 ^ i))) (10 + j) (I12 80 0)) 1 (I12 80 1 + 1)) 0 (I12 80 0 + 1)))))) := by
        intro I hm
        have xl : ((1 : Int32) <<< (nI i &&& 31)) = nI (2 ^ i) := by rw [xlit 1, xlit 31, xb_shl1 i (by omega)]
        have xs : (nI (nowN S.2.1 S.2.2.1 j) >>> (nI i &&& 31)) &&& (1 : Int32) = nI (if (nowN S.2.1 S.2.2.1 j).testBit i then 1 else 0) := by rw [xlit 1, xlit 31, xb_bit (show nowN S.2.1 S.2.2.1 j < 2 ^ 31 by omega) (show i < 32 by omega)]
        have e2 : (2 : Int32) + nI j = nI (2 + j) := by rw [xlit 2, nI_add]
        have e6 : (6 : Int32) + nI j = nI (6 + j) := by rw [xlit 6, nI_add]
        have e10 : (10 : Int32) + nI j = nI (10 + j) := by rw [xlit 10, nI_add]
        simp only [f_X8_name, zk_lt, x8_isB1 hT hm.2.1 hj, x8_isR1 hT hm.2.1 hi, zbd1, if_neg n10, x8_now hT hD hm.2.1 hm.2.2.1 hj, xs, xl, e2, e6, e10, zck (zin (show 2 + j < 14 by omega) (by decide)), zck (zin (show 6 + j < 14 by omega) (by decide)), zck (zin (show 10 + j < 14 by omega) (by decide)), nI_clamp (show 2 + j < 2 ^ 31 by omega), nI_clamp (show 6 + j < 2 ^ 31 by omega), nI_clamp (show 10 + j < 2 ^ 31 by omega), zk_sc_s, sc_sc, pk_un (show (0 : Nat) ≠ 6 + j by omega), pk_un (show (0 : Nat) ≠ 2 + j by omega), pk_un (show (1 : Nat) ≠ 6 + j by omega), pk_un (show (1 : Nat) ≠ 2 + j by omega), pk_un (show (0 : Nat) ≠ 10 + j by omega), pk_un (show (1 : Nat) ≠ 10 + j by omega), pk_un (show (0 : Nat) ≠ 1 by omega)]
      cases hbit : (nowN S.2.1 S.2.2.1 j).testBit i
      · rw [hbit] at C1 M0
        refine opS.no hw0 (-4) (fun I hc => ?_) (fun I hm => ?_)
        · rw [C1 I hc]; rfl
        · rw [M0 I hm]; rfl
      · rw [hbit] at C1 M0
        have hz : ¬ nI (if true = true then 1 else 0) = (0 : Int32) := by decide
        have hnot : (haD (ddS S) j).testBit i = false := by
          have := hbit
          unfold nowN at this
          rw [dif_bit (mayT_lt hT _ _)] at this
          cases hh : (haD (ddS S) j).testBit i
          · rfl
          · rw [hh] at this; simp at this
        have hhl := had_lt hT hD hj
        by_cases hf : dyD (ddS S) = 999
        · refine opS.no hw0 (-5) (fun I hc => ?_) (fun I hm => ?_)
          · have e : ¬ I 16 0 < (999 : Int32) := by rw [hc.2.2.1.1, hf]; decide
            rw [C1 I hc, if_neg hz, if_neg e]
          · have e : I 80 0 = (999 : Int32) := by rw [hm.2.2.1.1, hf]; rfl
            rw [M0 I hm, if_neg hz, if_pos e]
        · have hpl : haD (ddS S) j ||| 2 ^ i < 256 := or_lt hhl (by
            have : 2 ^ i ≤ 2 ^ 7 := Nat.pow_le_pow_right (by decide) (by omega)
            omega)
          have eha : haD (passD (ddS S) j i) j = haD (ddS S) j ||| 2 ^ i := if_pos rfl
          refine ⟨(txS S, tdS S, passD (ddS S) j i, pushP (paS S) (ddS S), kpS S, slS S), nI (pc (haD (ddS S) j ||| 2 ^ i)), ⟨wt, hT, passD_wf hT hD hi hj (show dyD (ddS S) < 999 by omega), pushP_wf hP hD, hK, hS⟩, fun I hc => ?_, fun I hm => ?_⟩
          · have C2 := C1 I hc
            obtain ⟨ct, cT, cD, cP, cK, cS⟩ := hc
            obtain ⟨I1, r1, r2, r3⟩ := x_remember hT hP.1 cD cP
            have e : I 16 0 < (999 : Int32) := by rw [cD.1]; exact nI_lt (b := 999) (by omega) (by decide)
            obtain ⟨I2, s1, s2, s3⟩ := x_passOn hT hi hj (cD.fr (I1 := I1) (fun c h1 h2 => r3 c (by omega)))
            refine ⟨I2, ?_, ⟨ct.fr ?_ ?_, cT.fr ?_, s2, r2.fr ?_, cK.fr ?_ ?_, cS.fr ?_⟩, ?_⟩
            · show f_X7_name I (nI j) (nI i) = _
              rw [C2, if_neg hz, if_pos e, r1, zbd1, s1, zbd1, (s2.2 j hj).2.1, eha, pc_bits _ hpl]
            · rw [s3 1 (by omega), r3 1 (by omega)]
            · rw [s3 2 (by omega), r3 2 (by omega)]
            · intro c h1 h2; rw [s3 c (by omega), r3 c (by omega)]
            · intro c h1 h2; rw [s3 c (by omega)]
            · rw [s3 0 (by omega), r3 0 (by omega)]
            · intro c h1 h2; rw [s3 c (by omega), r3 c (by omega)]
            · intro c h1 h2; rw [s3 c (by omega), r3 c (by omega)]
            · intro c h1; rw [s3 c (by omega), r3 c (by omega)]
          · have C2 := M0 I hm
            obtain ⟨mt, mT, mD, mP, mK, mS⟩ := hm
            obtain ⟨I1, r1, r2, r3, r4⟩ := x8_keeps hT hP.1 mD mP
            have e : ¬ I 80 0 = (999 : Int32) := by rw [mD.1]; exact fun q => hf (xl_inj (by omega) (by decide) (b := 999) q)
            have e80 : I1 80 = I 80 := r3 80 (by omega) (by omega)
            have mD2 := mD.2.2
            simp only [Nat.zero_add] at mD2
            rw [if_neg hz, if_neg e, r1, zbd1, e80] at C2
            have eh : (upd (upd (upd (upd (upd (I 80) (2 + j) (nI i)) (6 + j) (upd (I 80) (2 + j) (nI i) (6 + j) ||| nI (2 ^ i))) (10 + j) (I 80 0)) 1 (I 80 1 + 1)) 0 (I 80 0 + 1)) (6 + j) = nI (haD (ddS S) j ||| 2 ^ i) := by
              rw [pk_un (by omega), pk_un (by omega), pk_un (by omega), pk_us, pk_un (by omega), (mD2 j hj).2.1, xb_or]
            rw [eh, pc_ones _ hpl, zbd1] at C2
            have hrel : ∀ f q, q ≠ 80 → zk_sc I1 80 f q = I1 q := fun f q h1 => zk_sc_n _ _ h1
            refine ⟨_, C2, ⟨mt.fr ?_ ?_, mT.fr ?_, ⟨?_, ?_, ?_⟩, r2.fr ?_ ?_, mK.fr ?_ ?_, mS.fr ?_ ?_⟩, ?_⟩
            · rw [hrel _ 76 (by decide), r4 1 (by omega)]
            · rw [hrel _ 77 (by decide), r3 77 (by omega) (by omega)]
            · rw [hrel _ 78 (by decide), r3 78 (by omega) (by omega)]
            · rw [zk_sc_s, pk_us, mD.1, nI_1]; rfl
            · rw [zk_sc_s, pk_un (by decide), pk_us]
              have hnm := passD_nm hT hD hi hj hnot (nbT (tdS S))
              rw [if_pos hj] at hnm
              have : I 80 1 = nI (nmD (tdS S) (ddS S) (nbT (tdS S))) := mD.2.1
              rw [this, nI_1]
              exact congrArg nI hnm.symm
            · intro q hq
              simp only [Nat.zero_add]
              have hq : q < nbT S.2.1 := hq
              rw [zk_sc_s, pk_un (show 2 + q ≠ 0 by omega), pk_un (show 2 + q ≠ 1 by omega), pk_un (show 2 + q ≠ 10 + j by omega), pk_un (show 2 + q ≠ 6 + j by omega), pk_un (show 6 + q ≠ 0 by omega), pk_un (show 6 + q ≠ 1 by omega), pk_un (show 6 + q ≠ 10 + j by omega), pk_un (show 10 + q ≠ 0 by omega), pk_un (show 10 + q ≠ 1 by omega)]
              by_cases hqb : q = j
              · subst hqb
                rw [pk_us, pk_us, pk_us, pk_un (show 6 + q ≠ 2 + q by omega), (mD2 q hq).2.1, xb_or, mD.1]
                exact ⟨(congrArg nI (if_pos rfl)).symm, (congrArg nI (if_pos rfl)).symm, (congrArg nI (if_pos rfl)).symm⟩
              · rw [pk_un (show 2 + q ≠ 2 + j by omega), pk_un (show 6 + q ≠ 6 + j by omega), pk_un (show 6 + q ≠ 2 + j by omega), pk_un (show 10 + q ≠ 10 + j by omega), pk_un (show 10 + q ≠ 6 + j by omega), pk_un (show 10 + q ≠ 2 + j by omega)]
                exact ⟨(mD2 q hq).1.trans (congrArg nI (if_neg hqb)).symm, (mD2 q hq).2.1.trans (congrArg nI (if_neg hqb)).symm, (mD2 q hq).2.2.trans (congrArg nI (if_neg hqb)).symm⟩
            · rw [hrel _ 76 (by decide)]
            · rw [hrel _ 81 (by decide)]
            · rw [hrel _ 83 (by decide), r3 83 (by omega) (by omega)]
            · rw [hrel _ 82 (by decide), r3 82 (by omega) (by omega)]
            · rw [hrel _ 76 (by decide), r4 10 (by omega)]
            · rw [hrel _ 84 (by decide), r3 84 (by omega) (by omega)]
            · intro c h1; rw [hrel _ c (by omega), r3 c (by omega) (by omega)]
/-! undo -/
theorem x8_undo_l {I : zk_I} {k : Nat} (hk : k < 8) (h6 : I 76 6 = nI k) (K : zk_I → Option (Int32 × zk_I)) : l_X8_undo_22 K 3000 0 I = K (zk_sc I 80 (fun j => if j < 14 then I 81 (14 * k + j) else I 80 j)) := by
  have h0 : I = zk_sc I 80 (fun j => if j < 0 then I 81 (14 * k + j) else I 80 j) := by
    funext c
    by_cases hc : c = 80
    · subst hc
      rw [zk_sc_s]
      funext j
      rw [if_neg (by omega)]
    · rw [zk_sc_n _ _ hc]
  have key := zl_up (fun n i (s : zk_I) => l_X8_undo_22 K n (nI i) s) K (fun i => zk_sc I 80 (fun j => if j < i then I 81 (14 * k + j) else I 80 j)) 14 (fun n => ?_) (fun n i hi => ?_) 3000 0 (by omega) (by omega)
  · rw [← h0] at key
    exact key
  · simp only [l_X8_undo_22, xlit]
    rw [if_pos (nI_le (a := 14) (Nat.le_refl _) (by decide))]
  · simp only [l_X8_undo_22, xlit]
    rw [if_neg (nI_ge (b := 14) hi (by decide))]
    simp only [zk_sc_n I _ (show ¬ 76 = 80 by decide), zk_sc_n I _ (show ¬ 81 = 80 by decide), h6, xlit, pk_mul, nI_add, zck (zin (show 14 * k + i < 112 by omega) (by decide)), zck (zin (show i < 14 by omega) (by decide)), nI_clamp (show 14 * k + i < 2 ^ 31 by omega), nI_clamp (show i < 2 ^ 31 by omega), zk_lt, zk_sc_s]
    congr 1
    funext c
    by_cases hc : c = 80
    · subst hc
      rw [zk_sc_s, zk_sc_s]
      funext j
      by_cases hj : j = i
      · subst hj
        rw [pk_us, if_pos (by omega)]
      · rw [pk_un hj]
        by_cases h1 : j < i
        · rw [if_pos h1, if_pos (by omega)]
        · rw [if_neg h1, if_neg (by omega)]
    · rw [zk_sc_n _ _ hc, zk_sc_n _ _ hc, zk_sc_n _ _ hc]
theorem repDM_get {T : TD} {D : DD} {I I1 : zk_I} {c c' o : Nat} (hnb : nbT T ≤ 4) (h : repDM T D I c o) (e : ∀ j, j < 14 → I1 c' j = I c (o + j)) : repDM T D I1 c' 0 := by
  refine ⟨?_, ?_, fun b hb => ?_⟩
  · rw [e 0 (by omega)]; exact h.1
  · rw [Nat.zero_add, e 1 (by omega)]; exact h.2.1
  · rw [Nat.zero_add, Nat.zero_add, Nat.zero_add, e _ (by omega), e _ (by omega), e _ (by omega)]
    exact h.2.2 b hb
theorem nI_sub {a b : Nat} (h : b ≤ a) : nI a - nI b = nI (a - b) := by
  have e : nI a = nI (a - b) + nI b := by rw [nI_add, Nat.sub_add_cancel h]
  rw [e, Int32.add_sub_cancel]
theorem nI_sub1 {n : Nat} (h : 0 < n) (hn : n < 2 ^ 30) : nI n - nI 1 = nI (n - 1) := nI_sub (by omega)
theorem o_undo {S : ST} (hw : wfS S) : opS S (fun I => f_X7_undo I) (fun I => f_X8_undo I) := by
  have hw0 := hw
  obtain ⟨wt, hT, hD, hP, hK, hS⟩ := hw
  have hnb := hT.2.1
  have hp8 : (paS S).1 ≤ 8 := hP.1
  by_cases hf : (paS S).1 = 0
  · refine opS.no hw0 (-4) (fun I hc => ?_) (fun I hm => ?_)
    · have e : I 20 0 = (0 : Int32) := by rw [hc.2.2.2.1.1, hf]; rfl
      simp only [f_X7_undo, if_pos e]
    · have e : I 76 6 = (0 : Int32) := by rw [hm.2.2.2.1.1, hf]; rfl
      simp only [f_X8_undo, if_pos e]
  · refine ⟨(txS S, tdS S, (paS S).2 ((paS S).1 - 1), ((paS S).1 - 1, (paS S).2), kpS S, slS S), nI ((paS S).1 - 1), ⟨wt, hT, hP.2 _ (show (paS S).1 - 1 < (paS S).1 by omega), ⟨show (paS S).1 - 1 ≤ 8 by omega, fun i hi => hP.2 i (show i < (paS S).1 from by have hi : i < (paS S).1 - 1 := hi; omega)⟩, hK, hS⟩, fun I hc => ?_, fun I hm => ?_⟩
    · obtain ⟨ct, cT, cD, ⟨p1, nx, p2, p3, p4⟩, cK, cS⟩ := hc
      have e : ¬ I 20 0 = (0 : Int32) := by rw [p1]; exact fun q => hf (xl_inj (by omega) (by decide) (b := 0) q)
      have em : nI nx + nI 8 - nI 1 - (nI nx + nI 8 - nI 1) / nI 8 * nI 8 = nI ((nx + 7) % 8) := by
        rw [nI_add, nI_sub1 (by omega) (by omega), nI_rem8 (by omega)]
        rfl
      have hm8 : (nx + 7) % 8 < 8 := Nat.mod_lt _ (by decide)
      have es : nI (paS S).1 - nI 1 = nI ((paS S).1 - 1) := nI_sub1 (by omega) (by omega)
      have p1' : I 20 0 = nI (paS S).1 := p1
      have eq : f_X7_undo I = (fun I5 : zk_I => some (I5 20 0, I5)) (f_X1_copyFrom (zk_sc I 20 (upd (upd (I 20) 1 (nI ((nx + 7) % 8))) 0 (nI ((paS S).1 - 1)))) 16 (22 + 4 * ((nx + 7) % 8))) := by
        unfold f_X7_undo f_X2_takeBack
        rw [if_neg e]
        simp only [xlit, p3, em, zk_lt, zk_sc_s, sc_sc, pk_un (show (0 : Nat) ≠ 1 by decide), pk_un (show (1 : Nat) ≠ 0 by decide), pk_us, p1', es, zck (zin hm8 (by decide)), nI_clamp (show (nx + 7) % 8 < 2 ^ 31 by omega), zbd1]
      have hs : repDC (tdS S) ((paS S).2 ((paS S).1 - 1)) (zk_sc I 20 (upd (upd (I 20) 1 (nI ((nx + 7) % 8))) 0 (nI ((paS S).1 - 1)))) (22 + 4 * ((nx + 7) % 8)) := by
        have := p4 ((paS S).1 - 1) (show (paS S).1 - 1 < (paS S).1 by omega)
        have e7 : (nx + 8 - (paS S).1 + ((paS S).1 - 1)) % 8 = (nx + 7) % 8 := by congr 1; omega
        have e7' : (nx + 8 - S.snd.snd.snd.fst.fst + ((paS S).1 - 1)) % 8 = (nx + 7) % 8 := e7
        rw [e7'] at this
        exact this.fr (fun c h1 h2 => zk_sc_n _ _ (by omega))
      obtain ⟨g1, g2⟩ := cpyD (t := 16) hnb (by omega) hs
      generalize f_X1_copyFrom (zk_sc I 20 (upd (upd (I 20) 1 (nI ((nx + 7) % 8))) 0 (nI ((paS S).1 - 1)))) 16 (22 + 4 * ((nx + 7) % 8)) = I5 at g1 g2 eq
      have f20 : I5 20 = upd (upd (I 20) 1 (nI ((nx + 7) % 8))) 0 (nI ((paS S).1 - 1)) := by rw [g2 20 (by omega), zk_sc_s]
      have f : ∀ c, ¬ (16 ≤ c ∧ c ≤ 20) → I5 c = I c := fun c hc => by rw [g2 c (by omega), zk_sc_n _ _ (by omega)]
      refine ⟨I5, eq.trans ?_, ⟨ct.fr ?_ ?_, cT.fr ?_, g1, ⟨?_, (nx + 7) % 8, hm8, ?_, ?_⟩, cK.fr ?_ ?_, cS.fr ?_⟩, ?_⟩
      · show some (I5 20 0, I5) = _
        rw [f20, pk_us]
      · rw [f 1 (by omega)]
      · rw [f 2 (by omega)]
      · intro c h1 h2; exact f c (by omega)
      · rw [f20, pk_us]
      · rw [f20, pk_un (by decide), pk_us]
      · intro i hi
        have hi : i < (paS S).1 - 1 := hi
        have := p4 i (show i < (paS S).1 by omega)
        have e7 : ((nx + 7) % 8 + 8 - ((paS S).1 - 1) + i) % 8 = (nx + 8 - (paS S).1 + i) % 8 := by omega
        show repDC (tdS S) ((paS S).2 i) I5 (22 + 4 * (((nx + 7) % 8 + 8 - ((paS S).1 - 1) + i) % 8))
        rw [e7]
        exact this.fr (fun c h1 h2 => f c (by omega))
      · rw [f 0 (by omega)]
      · intro c h1 h2; exact f c (by omega)
      · intro c h1 h2; exact f c (by omega)
      · intro c h1; exact f c (by omega)
    · obtain ⟨mt, mT, mD, ⟨p1, p2⟩, mK, mS⟩ := hm
      have p1' : I 76 6 = nI (paS S).1 := p1
      have e : ¬ I 76 6 = (0 : Int32) := by rw [p1]; exact fun q => hf (xl_inj (by omega) (by decide) (b := 0) q)
      have es : nI (paS S).1 - nI 1 = nI ((paS S).1 - 1) := nI_sub1 (by omega) (by omega)
      have h6 : (zk_sc I 76 (upd (I 76) 6 (nI ((paS S).1 - 1)))) 76 6 = nI ((paS S).1 - 1) := by rw [zk_sc_s, pk_us]
      have eq : f_X8_undo I = some (nI ((paS S).1 - 1), zk_sc (zk_sc I 76 (upd (I 76) 6 (nI ((paS S).1 - 1)))) 80 (fun j => if j < 14 then I 81 (14 * ((paS S).1 - 1) + j) else I 80 j)) := by
        unfold f_X8_undo
        rw [if_neg e, zlt, p1', xlit 1, es, xlit 0, ← xlit 0, x8_undo_l (by omega) h6]
        simp only [zk_sc_n _ _ (show ¬ 76 = 80 by decide), zk_sc_n _ _ (show ¬ 81 = 76 by decide), zk_sc_n _ _ (show ¬ 80 = 76 by decide), h6]
      refine ⟨_, eq, ⟨mt.fr ?_ ?_, mT.fr ?_, repDM_get hnb (p2 ((paS S).1 - 1) (show (paS S).1 - 1 < (paS S).1 by omega)) ?_, ⟨?_, ?_⟩, mK.fr ?_ ?_, mS.fr ?_ ?_⟩, ?_⟩
      · rw [zk_sc_n _ _ (by decide), zk_sc_s, pk_un (by decide)]
      · rw [zk_sc_n _ _ (by decide), zk_sc_n _ _ (by decide)]
      · rw [zk_sc_n _ _ (by decide), zk_sc_n _ _ (by decide)]
      · intro j hj
        rw [zk_sc_s, if_pos hj]
      · rw [zk_sc_n _ _ (by decide), zk_sc_s, pk_us]
      · intro i hi
        have hi : i < (paS S).1 - 1 := hi
        refine (p2 i (show i < (paS S).1 by omega)).fr ?_
        rw [zk_sc_n _ _ (by decide), zk_sc_n _ _ (by decide)]
      · rw [zk_sc_n _ _ (by decide), zk_sc_n _ _ (by decide)]
      · rw [zk_sc_n _ _ (by decide), zk_sc_n _ _ (by decide)]
      · rw [zk_sc_n _ _ (by decide), zk_sc_s, pk_un (by decide)]
      · rw [zk_sc_n _ _ (by decide), zk_sc_n _ _ (by decide)]
      · intro c h1
        rw [zk_sc_n _ _ (by omega), zk_sc_n _ _ (by omega)]

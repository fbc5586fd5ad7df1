/-! simple calls: class and reference answer alike -/
theorem n10 : ¬ (1 : Int32) = 0 := by decide
def nowN (T : TD) (D : DD) (b : Nat) : Nat := dif (mayT T (hoD D b) (dyD D)) (haD D b)
theorem mayT_lt {T : TD} (hw : wfT T) (w day : Nat) : mayT T w day < 256 := mk_lt8 _ hw.1
theorem nowN_lt {T : TD} (hw : wfT T) (D : DD) (b : Nat) : nowN T D b < 256 := dif_lt (mayT_lt hw _ _)
theorem had_lt {T : TD} {D : DD} (hw : wfT T) (hd : wfD T D) {b : Nat} (hb : b < nbT T) : haD D b < 256 := Nat.lt_of_lt_of_le (hd.2 b hb).2.1 (by
  have : 2 ^ nrT T ≤ 2 ^ 8 := Nat.pow_le_pow_right (by decide) hw.1
  simpa using this)
theorem x_now {T : TD} {D : DD} {I : zk_I} (hw : wfT T) (hd : wfD T D) (hr : repC T I 3) (hD : repDC T D I 16) {b : Nat} (hb : b < nbT T) : f_X7_namableNow I (nI b) = some (nI (nowN T D b)) := by
  have hn := hw.2.1
  have h999 := hd.1
  obtain ⟨d1, d2, -⟩ := hD.2 b hb
  obtain ⟨e1, -⟩ := hd.2 b hb
  unfold f_X7_namableNow nowN
  simp only [zck (zin (show b < 4 by omega) (by decide)), nI_clamp (show b < 2 ^ 31 by omega), d1, d2, hD.1, zk_bd1, x_namable hw hr e1 (show dyD D < 2 ^ 30 by omega), Option.bind_some, xlit, xb_dif (mayT_lt hw _ _)]
theorem x8_now {T : TD} {D : DD} {I : zk_I} (hw : wfT T) (hd : wfD T D) (hr : repM T I 78) (hD : repDM T D I 80 0) {b : Nat} (hb : b < nbT T) : f_X8_namedNow I (nI b) = some (nI (nowN T D b)) := by
  have hn := hw.2.1
  have h999 := hd.1
  obtain ⟨d1, d2, -⟩ := hD.2.2 b hb
  obtain ⟨e1, -⟩ := hd.2 b hb
  rw [Nat.zero_add] at d1 d2
  unfold f_X8_namedNow nowN
  simp only [xlit, nI_add, zck (zin (show 2 + b < 14 by omega) (by decide)), zck (zin (show 6 + b < 14 by omega) (by decide)), nI_clamp (show 2 + b < 2 ^ 31 by omega), nI_clamp (show 6 + b < 2 ^ 31 by omega), d1, d2, hD.1, zk_bd1, x8_named hw hr e1 (show dyD D < 2 ^ 30 by omega), Option.bind_some, xb_dif (mayT_lt hw _ _)]
theorem o_may {S : ST} {I : zk_I} (h : inv S I) (a b : Int32) : ∃ r, f_X7_may I a b = some r ∧ f_X8_may I a b = some r := by
  obtain ⟨⟨-, hT, hD, -⟩, ⟨-, cT, cD, -⟩, ⟨-, mT, mD, -⟩⟩ := h
  have hnb := hT.2.1
  have hnr := hT.1
  unfold f_X7_may f_X8_may
  simp only [zk_lt, zk_bd1, zk_jp0]
  rcases arg_cases a (n := nbT S.2.1) (by omega) with ha | ⟨j, hj, rfl⟩
  · rw [x_hasB0 cT ha, x8_isB0 hT mT ha]
    exact ⟨_, rfl, rfl⟩
  · rw [x_hasB1 hT cT hj, x8_isB1 hT mT hj]
    simp only [Option.bind_some, if_neg n10]
    rcases arg_cases b (n := nrT S.2.1) (by omega) with hb | ⟨i, hi, rfl⟩
    · rw [x_hasR0 cT hb, x8_isR0 hT mT hb]
      exact ⟨_, rfl, rfl⟩
    · rw [x_hasR1 hT cT hi, x8_isR1 hT mT hi, x_now hT hD cT cD hj, x8_now hT hD mT mD hj]
      simp only [Option.bind_some, if_neg n10]
      have hlt := nowN_lt hT S.2.2.1 j
      simp only [x_hasBit (show nowN S.2.1 S.2.2.1 j < 2 ^ 31 by omega) (show i < 32 by omega), xlit, xb_bit (show nowN S.2.1 S.2.2.1 j < 2 ^ 31 by omega) (show i < 32 by omega)]
      cases (nowN S.2.1 S.2.2.1 j).testBit i
      · exact ⟨_, rfl, rfl⟩
      · exact ⟨_, rfl, rfl⟩
/-- a call that may change the state -/
def opS (S : ST) (fC fM : zk_I → Option (Int32 × zk_I)) : Prop := ∃ S' r, wfS S' ∧ (∀ I, invC S I → ∃ I1, fC I = some (r, I1) ∧ invC S' I1 ∧ keepM I I1) ∧ ∀ I, invM S I → ∃ I2, fM I = some (r, I2) ∧ invM S' I2 ∧ keepC I I2
theorem opS.go {S : ST} {fC fM : zk_I → Option (Int32 × zk_I)} {I : zk_I} (h : opS S fC fM) (hi : inv S I) : ∃ S' r I1 I2, fC I = some (r, I1) ∧ fM I1 = some (r, I2) ∧ inv S' I2 := by
  obtain ⟨S', r, hw, hC, hM⟩ := h
  obtain ⟨I1, c1, c2, c3⟩ := hC I hi.2.1
  obtain ⟨I2, m1, m2, m3⟩ := hM I1 (hi.2.2.fr c3.rel)
  exact ⟨S', r, I1, I2, c1, m1, hw, c2.fr m3.rel, m2⟩
/-- it answers r and leaves all -/
theorem opS.no {S : ST} {fC fM : zk_I → Option (Int32 × zk_I)} (hw : wfS S) (r : Int32) (hC : ∀ I, invC S I → fC I = some (r, I)) (hM : ∀ I, invM S I → fM I = some (r, I)) : opS S fC fM :=
  ⟨S, r, hw, fun I hI => ⟨I, hC I hI, hI, keepM.rf⟩, fun I hI => ⟨I, hM I hI, hI, keepC.rf⟩⟩
/-! write, erase -/
theorem o_write {S : ST} (hw : wfS S) (a : Int32) : opS S (fun I => f_X7_write I a) (fun I => f_X8_write I a) := by
  have hw0 := hw
  obtain ⟨⟨t1, t2⟩, hw2⟩ := hw
  by_cases h0 : a < 0
  · refine opS.no hw0 (-3) (fun I hc => ?_) (fun I hm => ?_)
    · simp only [f_X7_write, if_pos h0]
    · simp only [f_X8_write, zk_lt, x8_in, if_pos (Or.inl h0 : a < 0 ∨ (255 : Int32) < a)]
      rfl
  · by_cases h1 : a ≤ 255
    · obtain ⟨j, hj, rfl⟩ : ∃ j : Nat, j ≤ 255 ∧ a = nI j := nI_of2 (M := 255) (n := 255) (by decide) h0 h1
      have hin : ¬ (nI j < 0 ∨ (255 : Int32) < nI j) := by
        rintro (q | q)
        · exact h0 q
        · exact absurd h1 (Int32.not_le.mpr q)
      have hch : ((nI j).toUInt32 % 65536).toInt32 = nI j := by
        rw [pk_char, pk_tn (by omega), Nat.mod_eq_of_lt (by omega)]
      have hnc : vp_nar .char (nI j) = nI j := by
        unfold vp_nar
        rw [(pk_charN (show j < 65536 by omega)).1]
      by_cases hf : S.1.1 = 160
      · have e1 : ¬ nI S.1.1 < (160 : Int32) := by rw [hf]; decide
        refine opS.no hw0 (-5) (fun I hc => ?_) (fun I hm => ?_)
        · simp only [f_X7_write, if_neg h0, if_pos h1, hch, f_X5_append, hc.1.1, if_neg e1]
          rfl
        · simp only [f_X8_write, zk_lt, x8_in, if_neg hin, if_neg n10, hm.1.1, hf]
          rfl
      · have e1 : nI S.1.1 < (160 : Int32) := nI_lt (b := 160) (by omega) (by decide)
        have e2 : ¬ nI S.1.1 = (160 : Int32) := fun q => hf (xl_inj (by omega) (by decide) (b := 160) q)
        have z : zk_in (nI S.1.1) 160 = true := zin (show S.1.1 < 160 by omega) (by decide)
        refine ⟨((S.1.1 + 1, fun q => if q = S.1.1 then j else S.1.2 q), S.2), nI (S.1.1 + 1), ⟨⟨show S.1.1 + 1 ≤ 160 by omega, fun q hq => ?_⟩, hw2⟩, fun I hc => ?_, fun I hm => ?_⟩
        · by_cases hqn : q = S.1.1
          · simp only [hqn, if_true]; omega
          · simp only [if_neg hqn]; exact t2 q (by simp only at hq; omega)
        · refine ⟨zk_sc (zk_sc I 2 (upd (I 2) S.1.1 (nI j))) 1 (upd (I 1) 1 (nI (S.1.1 + 1))), ?_, ?_, (keepM.sc _ (by decide)).tr (keepM.sc _ (by decide))⟩
          · simp only [f_X7_write, if_neg h0, if_pos h1, hch, f_X5_append, hc.1.1, if_pos e1, zck z, nI_clamp (show S.1.1 < 2 ^ 31 by omega), hnc, zk_lt, zk_bd2, Option.bind_some, if_neg n10, zk_sc_n I _ (show ¬ 1 = 2 by decide), zk_sc_s, pk_us, nI_1]
          · obtain ⟨⟨a1, a2⟩, b, c, d, k, s⟩ := hc
            have hrel : ∀ q, q ≠ 1 → q ≠ 2 → zk_sc (zk_sc I 2 (upd (I 2) S.1.1 (nI j))) 1 (upd (I 1) 1 (nI (S.1.1 + 1))) q = I q := fun q h1 h2 => by rw [zk_sc_n _ _ h1, zk_sc_n _ _ h2]
            refine ⟨⟨?_, fun q hq => ?_⟩, b.fr (fun c _ _ => hrel c (by omega) (by omega)), c.fr (fun c _ _ => hrel c (by omega) (by omega)), d.fr (fun c _ _ => hrel c (by omega) (by omega)), k.fr (by rw [hrel 0 (by decide) (by decide)]) (fun c _ _ => hrel c (by omega) (by omega)), s.fr (fun c _ _ => hrel c (by omega) (by omega))⟩
            · rw [zk_sc_s, pk_us]
            · rw [zk_sc_n _ _ (by decide), zk_sc_s]
              have hq : q < S.1.1 + 1 := hq
              by_cases hqn : q = S.1.1
              · rw [hqn, pk_us]
                exact (congrArg nI (if_pos rfl)).symm
              · rw [pk_un hqn]
                exact (a2 q (show q < S.1.1 by omega)).trans (congrArg nI (if_neg hqn)).symm
        · refine ⟨zk_sc (zk_sc I 77 (upd (I 77) S.1.1 (nI j))) 76 (upd (I 76) 1 (nI (S.1.1 + 1))), ?_, ?_, (keepC.sc _ (by decide)).tr (keepC.sc _ (by decide))⟩
          · simp only [f_X8_write, zk_lt, x8_in, if_neg hin, if_neg n10, hm.1.1, if_neg e2, zck z, nI_clamp (show S.1.1 < 2 ^ 31 by omega), zk_sc_n I _ (show ¬ 76 = 77 by decide), zk_sc_s, pk_us, nI_1]
          · obtain ⟨⟨a1, a2⟩, b, c, d, k, s⟩ := hm
            have hrel : ∀ q, q ≠ 76 → q ≠ 77 → zk_sc (zk_sc I 77 (upd (I 77) S.1.1 (nI j))) 76 (upd (I 76) 1 (nI (S.1.1 + 1))) q = I q := fun q h1 h2 => by rw [zk_sc_n _ _ h1, zk_sc_n _ _ h2]
            have h76 : ∀ q, q ≠ 1 → zk_sc (zk_sc I 77 (upd (I 77) S.1.1 (nI j))) 76 (upd (I 76) 1 (nI (S.1.1 + 1))) 76 q = I 76 q := fun q hq => by rw [zk_sc_s, pk_un hq]
            refine ⟨⟨?_, fun q hq => ?_⟩, b.fr (hrel _ (by omega) (by omega)), c.fr (hrel _ (by omega) (by omega)), d.fr (h76 6 (by decide)) (hrel _ (by omega) (by omega)), k.fr (hrel _ (by omega) (by omega)) (hrel _ (by omega) (by omega)), s.fr (h76 10 (by decide)) (hrel _ (by omega) (by omega))⟩
            · rw [zk_sc_s, pk_us]
            · rw [zk_sc_n _ _ (by decide), zk_sc_s]
              have hq : q < S.1.1 + 1 := hq
              by_cases hqn : q = S.1.1
              · rw [hqn, pk_us]
                exact (congrArg nI (if_pos rfl)).symm
              · rw [pk_un hqn]
                exact (a2 q (show q < S.1.1 by omega)).trans (congrArg nI (if_neg hqn)).symm
    · refine opS.no hw0 (-3) (fun I hc => ?_) (fun I hm => ?_)
      · simp only [f_X7_write, if_neg h0, if_neg h1]
      · simp only [f_X8_write, zk_lt, x8_in, if_pos (Or.inr (Int32.not_le.mp h1) : a < 0 ∨ (255 : Int32) < a)]
        rfl

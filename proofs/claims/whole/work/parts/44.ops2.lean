theorem o_erase {S : ST} (hw : wfS S) : opS S (fun I => f_X7_erase I) (fun I => f_X8_erase I) := by
  obtain ⟨⟨t1, t2⟩, hw2⟩ := hw
  refine ⟨((0, S.1.2), S.2), nI S.1.1, ⟨⟨Nat.zero_le _, fun j hj => absurd hj (Nat.not_lt_zero j)⟩, hw2⟩, fun I hc => ?_, fun I hm => ?_⟩
  · refine ⟨zk_sc I 1 (upd (I 1) 1 0), ?_, ?_, keepM.sc _ (by decide)⟩
    · simp only [f_X7_erase, f_X5_empty, zk_lt, hc.1.1]
    · obtain ⟨a, b, c, d, k, s⟩ := hc
      have hrel : ∀ q, q ≠ 1 → zk_sc I 1 (upd (I 1) 1 0) q = I q := fun q h1 => zk_sc_n _ _ h1
      refine ⟨⟨?_, fun q hq => absurd hq (Nat.not_lt_zero q)⟩, b.fr (fun c _ _ => hrel c (by omega)), c.fr (fun c _ _ => hrel c (by omega)), d.fr (fun c _ _ => hrel c (by omega)), k.fr (by rw [hrel 0 (by decide)]) (fun c _ _ => hrel c (by omega)), s.fr (fun c _ _ => hrel c (by omega))⟩
      rw [zk_sc_s, pk_us]
      rfl
  · refine ⟨zk_sc I 76 (upd (I 76) 1 0), ?_, ?_, keepC.sc _ (by decide)⟩
    · simp only [f_X8_erase, zk_lt, hm.1.1]
    · obtain ⟨a, b, c, d, k, s⟩ := hm
      have hrel : ∀ q, q ≠ 76 → zk_sc I 76 (upd (I 76) 1 0) q = I q := fun q h1 => zk_sc_n _ _ h1
      have h76 : ∀ q, q ≠ 1 → zk_sc I 76 (upd (I 76) 1 0) 76 q = I 76 q := fun q hq => by rw [zk_sc_s, pk_un hq]
      refine ⟨⟨?_, fun q hq => absurd hq (Nat.not_lt_zero q)⟩, b.fr (hrel _ (by omega)), c.fr (hrel _ (by omega)), d.fr (h76 6 (by decide)) (hrel _ (by omega)), k.fr (hrel _ (by omega)) (hrel _ (by omega)), s.fr (h76 10 (by decide)) (hrel _ (by omega))⟩
      rw [zk_sc_s, pk_us]
      rfl
/-! reader -/
theorem x_held {T : TD} {D : DD} {I : zk_I} (hw : wfT T) (hd : wfD T D) (hr : repC T I 3) (hD : repDC T D I 16) {r : Nat} (hr8 : r < nrT T) : f_X7_booksHeldBy I (nI r) = some (nI (mk (fun b => decide (hoD D b = r)) (nbT T))) := by
  have hnb := hw.2.1
  have hnr := hw.1
  unfold f_X7_booksHeldBy
  refine (zl_up (fun n i (s : Int32) => l_X7_booksHeldBy_4 I (nI r) (fun z9 => some z9) n s (nI i)) (fun s => some s) (fun i => nI (mk (fun b => decide (hoD D b = r)) i)) (nbT T) (fun n => ?_) (fun n i hi => ?_) 3000 0 (by omega) (by omega))
  · simp only [l_X7_booksHeldBy_4, hr.2.1]
    rw [if_pos (nI_le (Nat.le_refl _) (by omega))]
  · obtain ⟨d1, -, -⟩ := hD.2 i hi
    obtain ⟨e1, -⟩ := hd.2 i hi
    simp only [l_X7_booksHeldBy_4, hr.2.1]
    rw [if_neg (nI_ge hi (by omega))]
    simp only [zk_jp1, zk_lt, zck (zin (show i < 4 by omega) (by decide)), nI_clamp (show i < 2 ^ 31 by omega), d1, nI_eq (show hoD D i < 2 ^ 31 by omega) (show r < 2 ^ 31 by omega), xlit, nI_1add, mk_succ, xb_shl1 i (by omega), xb_or]
    by_cases h : hoD D i = r
    · simp [h]
    · simp [h]
theorem x_hadb {T : TD} {D : DD} {I : zk_I} (hw : wfT T) (hd : wfD T D) (hr : repC T I 3) (hD : repDC T D I 16) {r : Nat} (hr8 : r < nrT T) : f_X7_booksHadBy I (nI r) = some (nI (mk (fun b => (haD D b).testBit r) (nbT T))) := by
  have hnb := hw.2.1
  have hnr := hw.1
  unfold f_X7_booksHadBy
  refine (zl_up (fun n i (s : Int32) => l_X7_booksHadBy_4 I (nI r) (fun z9 => some z9) n s (nI i)) (fun s => some s) (fun i => nI (mk (fun b => (haD D b).testBit r) i)) (nbT T) (fun n => ?_) (fun n i hi => ?_) 3000 0 (by omega) (by omega))
  · simp only [l_X7_booksHadBy_4, hr.2.1]
    rw [if_pos (nI_le (Nat.le_refl _) (by omega))]
  · obtain ⟨-, d1, -⟩ := hD.2 i hi
    have e1 := had_lt hw hd hi
    have e0 : ¬ nI 1 = nI 0 := by decide
    simp only [l_X7_booksHadBy_4, hr.2.1]
    rw [if_neg (nI_ge hi (by omega))]
    simp only [zk_jp1, zk_lt, zck (zin (show i < 4 by omega) (by decide)), nI_clamp (show i < 2 ^ 31 by omega), d1, x_hasBit (show haD D i < 2 ^ 31 by omega) (show r < 32 by omega), xlit, nI_1add, mk_succ, xb_shl1 i (by omega), xb_or]
    cases h : (haD D i).testBit r
    · simp [h]
    · simp [h, e0]
theorem xb_shl01 {k : Nat} (hk : k < 31) (b : Bool) : nI (if b then 1 else 0) <<< (nI k &&& nI 31) = nI (if b then 2 ^ k else 0) := by
  cases b
  · have : ∀ k, k < 31 → nI 0 <<< (nI k &&& nI 31) = nI 0 := by decide +kernel
    exact this k hk
  · exact xb_shl1 k hk
theorem x8_held {T : TD} {D : DD} {I : zk_I} (hw : wfT T) (hd : wfD T D) (hr : repM T I 78) (hD : repDM T D I 80 0) {r : Nat} (hr8 : r < nrT T) (p2 : Int32) (K : Int32 → Int32 → Option Int32) : l_X8_reader_31 I (nI r) p2 K 3000 0 0 0 = K (nI (mk (fun b => decide (hoD D b = r)) (nbT T))) (nI (mk (fun b => (haD D b).testBit r) (nbT T))) := by
  have hnb := hw.2.1
  have hnr := hw.1
  refine (zl_up (fun n i (s : Int32 × Int32) => l_X8_reader_31 I (nI r) p2 K n s.1 s.2 (nI i)) (fun s => K s.1 s.2) (fun i => (nI (mk (fun b => decide (hoD D b = r)) i), nI (mk (fun b => (haD D b).testBit r) i))) (nbT T) (fun n => ?_) (fun n i hi => ?_) 3000 0 (by omega) (by omega))
  · simp only [l_X8_reader_31, hr.2.1]
    rw [if_pos (nI_le (Nat.le_refl _) (by omega))]
  · obtain ⟨d1, d2, -⟩ := hD.2.2 i hi
    rw [Nat.zero_add] at d1 d2
    obtain ⟨e1, -⟩ := hd.2 i hi
    have e2 := had_lt hw hd hi
    simp only [l_X8_reader_31, hr.2.1]
    rw [if_neg (nI_ge hi (by omega))]
    simp only [zk_lt, xlit, nI_add, zck (zin (show 2 + i < 14 by omega) (by decide)), zck (zin (show 6 + i < 14 by omega) (by decide)), nI_clamp (show 2 + i < 2 ^ 31 by omega), nI_clamp (show 6 + i < 2 ^ 31 by omega), d1, d2, nI_eq (show hoD D i < 2 ^ 31 by omega) (show r < 2 ^ 31 by omega), xb_bit (show haD D i < 2 ^ 31 by omega) (show r < 32 by omega), xb_shl01 (show i < 31 by omega), mk_succ, xb_shl1 i (by omega), xb_or]
    by_cases h : hoD D i = r
    · simp [h, xb_or]
    · simp [h, xb_or]
theorem what_cases (a : Int32) : a = 0 ∨ a = 1 ∨ a = 2 ∨ a = 3 ∨ a = 4 ∨ a = 5 ∨ (¬ a = 0 ∧ ¬ a = 1 ∧ ¬ a = 2 ∧ ¬ a = 3 ∧ ¬ a = 4 ∧ ¬ a = 5 ∧ (a < 0 ∨ (5 : Int32) < a)) := by
  rcases arg_cases a (n := 6) (by decide) with h | ⟨j, hj, rfl⟩
  · right; right; right; right; right; right
    have h5 : a < 0 ∨ (5 : Int32) < a := by
      rcases h with h | h
      · exact Or.inl h
      · refine Or.inr (Int32.lt_of_lt_of_le (by decide : (5 : Int32) < nI 6) h)
    refine ⟨?_, ?_, ?_, ?_, ?_, ?_, h5⟩ <;> (rintro rfl; revert h5; decide)
  · match j, hj with
    | 0, _ => exact Or.inl rfl
    | 1, _ => exact Or.inr (Or.inl rfl)
    | 2, _ => exact Or.inr (Or.inr (Or.inl rfl))
    | 3, _ => exact Or.inr (Or.inr (Or.inr (Or.inl rfl)))
    | 4, _ => exact Or.inr (Or.inr (Or.inr (Or.inr (Or.inl rfl))))
    | 5, _ => exact Or.inr (Or.inr (Or.inr (Or.inr (Or.inr (Or.inl rfl)))))
    | j + 6, h => exact absurd h (by omega)
theorem o_reader {S : ST} {I : zk_I} (h : inv S I) (a b : Int32) : ∃ r, f_X7_reader I a b = some r ∧ f_X8_reader I a b = some r := by
  obtain ⟨⟨-, hT, hD, -⟩, ⟨-, cT, cD, -⟩, ⟨-, mT, mD, -⟩⟩ := h
  have hnb := hT.2.1
  have hnr := hT.1
  unfold f_X7_reader f_X8_reader
  simp only [zk_lt, zk_bd1]
  rcases arg_cases a (n := nrT S.2.1) (by omega) with ha | ⟨j, hj, rfl⟩
  · rw [x_hasR0 cT ha, x8_isR0 hT mT ha]
    exact ⟨_, rfl, rfl⟩
  · rw [x_hasR1 hT cT hj, x8_isR1 hT mT hj]
    obtain ⟨c1, c2, c3, c4⟩ := cT.2.2.1 j hj
    obtain ⟨m1, m2, m3, m4⟩ := mT.2.2.1 j hj
    simp only [Option.bind_some, if_neg n10, x8_in, x8_held hT hD mT mD hj, x_held hT hD cT cD hj, x_hadb hT hD cT cD hj, zck (zin (show j < 8 by omega) (by decide)), nI_clamp (show j < 2 ^ 31 by omega)]
    have z8 : ∀ k : Nat, 2 + k + j < 38 → ∀ x : Option Int32, zk_ck (zk_in (nI (2 + k + j)) 38) x = x := fun k hk x => zck (zin hk (by decide)) x
    rcases what_cases b with rfl | rfl | rfl | rfl | rfl | rfl | ⟨h0, h1, h2, h3, h4, h5, h6⟩
    · refine ⟨nI (kdT S.2.1 j), congrArg some c1, ?_⟩
      have e : (2 : Int32) + 8 * 0 + nI j = nI (2 + j) := by rw [show (2 : Int32) + 8 * 0 = nI 2 by decide, nI_add]
      rw [if_neg (by decide), if_neg (by decide), e, zck (zin (show 2 + j < 38 by omega) (by decide)), nI_clamp (by omega), m1]
    · refine ⟨nI (rkT S.2.1 j), congrArg some c2, ?_⟩
      have e : (2 : Int32) + 8 * 1 + nI j = nI (10 + j) := by rw [show (2 : Int32) + 8 * 1 = nI 10 by decide, nI_add]
      rw [if_neg (by decide), if_neg (by decide), e, zck (zin (show 10 + j < 38 by omega) (by decide)), nI_clamp (by omega), m2]
    · refine ⟨nI (fdT S.2.1 j), congrArg some c3, ?_⟩
      have e : (2 : Int32) + 8 * 2 + nI j = nI (18 + j) := by rw [show (2 : Int32) + 8 * 2 = nI 18 by decide, nI_add]
      rw [if_neg (by decide), if_neg (by decide), e, zck (zin (show 18 + j < 38 by omega) (by decide)), nI_clamp (by omega), m3]
    · refine ⟨nI (mvT S.2.1 j), congrArg some c4, ?_⟩
      have e : (2 : Int32) + 8 * 3 + nI j = nI (26 + j) := by rw [show (2 : Int32) + 8 * 3 = nI 26 by decide, nI_add]
      rw [if_neg (by decide), if_neg (by decide), e, zck (zin (show 26 + j < 38 by omega) (by decide)), nI_clamp (by omega), m4]
    · exact ⟨_, rfl, rfl⟩
    · exact ⟨_, rfl, rfl⟩
    · refine ⟨-3, ?_, ?_⟩
      · rw [if_neg h0, if_neg h1, if_neg h2, if_neg h3, if_neg h4, if_neg h5]
      · rw [if_pos h6]
        rfl
/-! book -/
theorem o_book {S : ST} {I : zk_I} (h : inv S I) (a b : Int32) : ∃ r, f_X7_book I a b = some r ∧ f_X8_book I a b = some r := by
  obtain ⟨⟨-, hT, hD, -⟩, ⟨-, cT, cD, -⟩, ⟨-, mT, mD, -⟩⟩ := h
  have hnb := hT.2.1
  have hnr := hT.1
  unfold f_X7_book f_X8_book
  simp only [zk_lt, zk_bd1]
  rcases arg_cases a (n := nbT S.2.1) (by omega) with ha | ⟨j, hj, rfl⟩
  · rw [x_hasB0 cT ha, x8_isB0 hT mT ha]
    exact ⟨_, rfl, rfl⟩
  · rw [x_hasB1 hT cT hj, x8_isB1 hT mT hj]
    obtain ⟨c1, c2, c3⟩ := cD.2 j hj
    obtain ⟨m1, m2, m3⟩ := mD.2.2 j hj
    rw [Nat.zero_add] at m1 m2 m3
    have c4 := cT.2.2.2 j hj
    have m4 := mT.2.2.2 j hj
    have hlt := nowN_lt hT S.2.2.1 j
    simp only [Option.bind_some, if_neg n10, x8_in, zck (zin (show j < 4 by omega) (by decide)), nI_clamp (show j < 2 ^ 31 by omega), x_now hT hD cT cD hj, x8_now hT hD mT mD hj]
    rcases what_cases b with rfl | rfl | rfl | rfl | rfl | rfl | ⟨h0, h1, h2, h3, h4, h5, h6⟩
    · refine ⟨nI (hoD S.2.2.1 j), congrArg some c1, ?_⟩
      have e : (2 : Int32) + nI j = nI (2 + j) := nI_add 2 j
      rw [if_neg (by decide), if_pos rfl, e, zck (zin (show 2 + j < 14 by omega) (by decide)), nI_clamp (by omega), m1]
    · refine ⟨nI (haD S.2.2.1 j), congrArg some c2, ?_⟩
      have e : (6 : Int32) + nI j = nI (6 + j) := nI_add 6 j
      rw [if_neg (by decide), if_neg (by decide), if_pos rfl, e, zck (zin (show 6 + j < 14 by omega) (by decide)), nI_clamp (by omega), m2]
    · refine ⟨nI (dyD S.2.2.1) - nI (whD S.2.2.1 j), ?_, ?_⟩
      · rw [if_neg (by decide), if_neg (by decide), if_pos rfl, cD.1, c3]
      · have e : (10 : Int32) + nI j = nI (10 + j) := nI_add 10 j
        rw [if_neg (by decide), if_neg (by decide), if_neg (by decide), if_pos rfl, e, zck (zin (show 10 + j < 14 by omega) (by decide)), nI_clamp (by omega), m3, mD.1]
    · refine ⟨nI (if nowN S.2.1 S.2.2.1 j = 0 then 1 else 0), ?_, ?_⟩
      · rw [if_neg (by decide), if_neg (by decide), if_neg (by decide), if_pos rfl]
        simp only [xlit, nI_eq (show nowN S.2.1 S.2.2.1 j < 2 ^ 31 by omega) (show 0 < 2 ^ 31 by decide)]
        split <;> rfl
      · rw [if_neg (by decide), if_neg (by decide), if_neg (by decide), if_neg (by decide), if_neg (by decide)]
        simp only [xlit, nI_eq (show nowN S.2.1 S.2.2.1 j < 2 ^ 31 by omega) (show 0 < 2 ^ 31 by decide)]
        split <;> rfl
    · refine ⟨nI (frT S.2.1 j), congrArg some c4, ?_⟩
      have e : (34 : Int32) + nI j = nI (34 + j) := nI_add 34 j
      rw [if_neg (by decide), if_neg (by decide), if_neg (by decide), if_neg (by decide), if_pos rfl, e, zck (zin (show 34 + j < 38 by omega) (by decide)), nI_clamp (by omega), m4]
    · exact ⟨-3, rfl, rfl⟩
    · refine ⟨-3, ?_, ?_⟩
      · rw [if_neg h0, if_neg h1, if_neg h2, if_neg h3, if_neg h4]
      · have h7 : b < 0 ∨ (4 : Int32) < b := by
          rcases h6 with h | h
          · exact Or.inl h
          · exact Or.inr (Int32.lt_trans (by decide) h)
        rw [if_pos h7]
        rfl
/-! as -/
theorem o_as {S : ST} {I : zk_I} (h : inv S I) (a b : Int32) : ∃ r, f_X7_as I a b = some r ∧ f_X8_as I a b = some r := by
  obtain ⟨⟨-, hT, hD, -⟩, ⟨-, cT, cD, -⟩, ⟨-, mT, mD, -⟩⟩ := h
  have hnb := hT.2.1
  have hnr := hT.1
  have h999 := hD.1
  unfold f_X7_as f_X8_as
  simp only [zk_lt, zk_bd1, zk_jp1, zk_jp0]
  rcases arg_cases a (n := nrT S.2.1) (by omega) with ha | ⟨j, hj, rfl⟩
  · rw [x_hasR0 cT ha, x8_isR0 hT mT ha]
    exact ⟨_, rfl, rfl⟩
  · rw [x_hasR1 hT cT hj, x8_isR1 hT mT hj]
    obtain ⟨c1, -⟩ := cT.2.2.1 j hj
    obtain ⟨m1, -⟩ := mT.2.2.1 j hj
    obtain ⟨hk, -⟩ := hT.2.2.1 j hj
    have c1 : I 4 j = nI (kdT S.2.1 j) := c1
    have e : (2 : Int32) + nI j = nI (2 + j) := nI_add 2 j
    simp only [Option.bind_some, if_neg n10, x8_in, zck (zin (show j < 8 by omega) (by decide)), nI_clamp (show j < 2 ^ 31 by omega), c1, zck (zin (show kdT S.2.1 j < 4 by omega) (by decide)), nI_clamp (show kdT S.2.1 j < 2 ^ 31 by omega), cD.1, x_namable hT cT hj (show dyD S.2.2.1 < 2 ^ 30 by omega), e, zck (zin (show 2 + j < 38 by omega) (by decide)), nI_clamp (show 2 + j < 2 ^ 31 by omega), m1, mD.1, x8_named hT mT hj (show dyD S.2.2.1 < 2 ^ 30 by omega)]
    have hk4 : kdT S.2.1 j = 0 ∨ kdT S.2.1 j = 1 ∨ kdT S.2.1 j = 2 ∨ kdT S.2.1 j = 3 := by omega
    generalize nI (mayT S.2.1 j (dyD S.2.2.1)) = R
    rcases what_cases b with rfl | rfl | rfl | rfl | rfl | rfl | ⟨h0, h1, h2, h3, h4, h5, h6⟩
    · rcases hk4 with hk | hk | hk | hk <;> rw [hk] <;> exact ⟨_, rfl, rfl⟩
    · rcases hk4 with hk | hk | hk | hk <;> rw [hk] <;> exact ⟨_, rfl, rfl⟩
    · rcases hk4 with hk | hk | hk | hk <;> rw [hk] <;> exact ⟨_, rfl, rfl⟩
    · rcases hk4 with hk | hk | hk | hk <;> rw [hk] <;> exact ⟨_, rfl, rfl⟩
    · rcases hk4 with hk | hk | hk | hk <;> rw [hk] <;> exact ⟨_, rfl, rfl⟩
    · exact ⟨-3, rfl, rfl⟩
    · have h7 : b < 0 ∨ (4 : Int32) < b := by
        rcases h6 with h | h
        · exact Or.inl h
        · exact Or.inr (Int32.lt_trans (by decide) h)
      refine ⟨-3, ?_, by rw [if_pos h7]; rfl⟩
      rcases h6 with h6 | h6
      · rw [if_pos h6]
      · have h8 : ¬ b < 0 := fun q => absurd (Int32.lt_trans q (by decide : (0 : Int32) < 5)) (fun q2 => Int32.lt_irrefl (Int32.lt_trans h6 q2))
        have h9 : ¬ b < 5 := fun q => Int32.lt_irrefl (Int32.lt_trans h6 q)
        rw [if_neg h8, if_neg h9]

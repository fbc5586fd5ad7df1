/-! fault and library -/
theorem cpyT {T : TD} {I : zk_I} {t o : Nat} (hT : wfT T) (hto : t + 5 < o ∨ o + 5 < t) (h : repC T I o) : repC T (f_X6_copyFrom I t o) t ∧ ∀ c, ¬ (t ≤ c ∧ c ≤ t + 5) → f_X6_copyFrom I t o c = I c := by
  have hnr := hT.1
  have hnb := hT.2.1
  obtain ⟨r1, r2, r3, r4⟩ := h
  unfold f_X6_copyFrom
  simp only [zk_lt]
  refine ⟨⟨?_, ?_, fun r hr => ⟨?_, ?_, ?_, ?_⟩, fun b hb => ?_⟩, fun c hc => ?_⟩
  · rw [zk_sc_n _ _ (by omega), zk_sc_n _ _ (by omega), zk_sc_n _ _ (by omega), zk_sc_n _ _ (by omega), zk_sc_n _ _ (by omega), zk_sc_s, pk_un (by decide), zk_sc_s, pk_us]
    exact r1
  · rw [zk_sc_n _ _ (by omega), zk_sc_n _ _ (by omega), zk_sc_n _ _ (by omega), zk_sc_n _ _ (by omega), zk_sc_n _ _ (by omega), zk_sc_s, pk_us, zk_sc_n _ _ (by omega)]
    exact r2
  · rw [zk_sc_n _ _ (by omega), zk_sc_n _ _ (by omega), zk_sc_n _ _ (by omega), zk_sc_n _ _ (by omega), zk_sc_s, pk_cpy_in (by omega) (by omega), zk_sc_n _ _ (by omega), zk_sc_n _ _ (by omega), show 0 + (r - 0) = r by omega]
    exact (r3 r hr).1
  · rw [zk_sc_n _ _ (by omega), zk_sc_n _ _ (by omega), zk_sc_n _ _ (by omega), zk_sc_s, pk_cpy_in (by omega) (by omega), zk_sc_n _ _ (by omega), zk_sc_n _ _ (by omega), zk_sc_n _ _ (by omega), show 0 + (r - 0) = r by omega]
    exact (r3 r hr).2.1
  · rw [zk_sc_n _ _ (by omega), zk_sc_n _ _ (by omega), zk_sc_s, pk_cpy_in (by omega) (by omega), zk_sc_n _ _ (by omega), zk_sc_n _ _ (by omega), zk_sc_n _ _ (by omega), zk_sc_n _ _ (by omega), show 0 + (r - 0) = r by omega]
    exact (r3 r hr).2.2.1
  · rw [zk_sc_n _ _ (by omega), zk_sc_s, pk_cpy_in (by omega) (by omega), zk_sc_n _ _ (by omega), zk_sc_n _ _ (by omega), zk_sc_n _ _ (by omega), zk_sc_n _ _ (by omega), zk_sc_n _ _ (by omega), show 0 + (r - 0) = r by omega]
    exact (r3 r hr).2.2.2
  · rw [zk_sc_s, pk_cpy_in (by omega) (by omega), zk_sc_n _ _ (by omega), zk_sc_n _ _ (by omega), zk_sc_n _ _ (by omega), zk_sc_n _ _ (by omega), zk_sc_n _ _ (by omega), zk_sc_n _ _ (by omega), show 0 + (b - 0) = b by omega]
    exact r4 b hb
  · rw [zk_sc_n _ _ (by omega), zk_sc_n _ _ (by omega), zk_sc_n _ _ (by omega), zk_sc_n _ _ (by omega), zk_sc_n _ _ (by omega), zk_sc_n _ _ (by omega), zk_sc_n _ _ (by omega)]
theorem x8_reads_l {I : zk_I} (K : zk_I → Option (Int32 × zk_I)) : l_X8_reads_2 K 3000 0 I = K (zk_sc I 79 (fun j => if j < 38 then I 78 j else I 79 j)) := by
  have h0 : I = zk_sc I 79 (fun j => if j < 0 then I 78 j else I 79 j) := by
    funext c
    by_cases hc : c = 79
    · subst hc
      rw [zk_sc_s]
      funext j
      rw [if_neg (by omega)]
    · rw [zk_sc_n _ _ hc]
  have key := zl_up (fun n i (s : zk_I) => l_X8_reads_2 K n (nI i) s) K (fun i => zk_sc I 79 (fun j => if j < i then I 78 j else I 79 j)) 38 (fun n => ?_) (fun n i hi => ?_) 3000 0 (by omega) (by omega)
  · rw [← h0] at key
    exact key
  · simp only [l_X8_reads_2]
    have hc : (38 : Int32) ≤ nI 38 := by decide
    rw [if_pos hc]
  · simp only [l_X8_reads_2]
    have hc : ¬ (38 : Int32) ≤ nI i := nI_ge (b := 38) hi (by decide)
    rw [if_neg hc]
    simp only [zck (zin hi (by decide)), nI_clamp (show i < 2 ^ 31 by omega), zlt, zk_sc_s, sc_sc, zk_sc_n _ _ (show ¬ 78 = 79 by decide), nI_1]
    congr 2
    funext j
    by_cases hj : j = i
    · subst hj
      rw [pk_us, if_pos (by omega)]
    · rw [pk_un hj]
      by_cases h1 : j < i
      · rw [if_pos h1, if_pos (by omega)]
      · rw [if_neg h1, if_neg (by omega)]
theorem x8_lib_l {I : zk_I} (a : Int32) (K : zk_I → Option (Int32 × zk_I)) : l_X8_library_15 a K 3000 0 I = K (zk_sc I 78 (fun j => if j < 38 then I 79 j else I 78 j)) := by
  have h0 : I = zk_sc I 78 (fun j => if j < 0 then I 79 j else I 78 j) := by
    funext c
    by_cases hc : c = 78
    · subst hc
      rw [zk_sc_s]
      funext j
      rw [if_neg (by omega)]
    · rw [zk_sc_n _ _ hc]
  have key := zl_up (fun n i (s : zk_I) => l_X8_library_15 a K n (nI i) s) K (fun i => zk_sc I 78 (fun j => if j < i then I 79 j else I 78 j)) 38 (fun n => ?_) (fun n i hi => ?_) 3000 0 (by omega) (by omega)
  · rw [← h0] at key
    exact key
  · simp only [l_X8_library_15]
    have hc : (38 : Int32) ≤ nI 38 := by decide
    rw [if_pos hc]
  · simp only [l_X8_library_15]
    have hc : ¬ (38 : Int32) ≤ nI i := nI_ge (b := 38) hi (by decide)
    rw [if_neg hc]
    simp only [zck (zin hi (by decide)), nI_clamp (show i < 2 ^ 31 by omega), zlt, zk_sc_s, sc_sc, zk_sc_n _ _ (show ¬ 79 = 78 by decide), nI_1]
    congr 2
    funext j
    by_cases hj : j = i
    · subst hj
      rw [pk_us, if_pos (by omega)]
    · rw [pk_un hj]
      by_cases h1 : j < i
      · rw [if_pos h1, if_pos (by omega)]
      · rw [if_neg h1, if_neg (by omega)]
theorem repM_cp {T : TD} {I I1 : zk_I} {c c' : Nat} (hT : wfT T) (h : repM T I c) (e : ∀ j, j < 38 → I1 c' j = I c j) : repM T I1 c' := by
  have hnr := hT.1
  have hnb := hT.2.1
  obtain ⟨r1, r2, r3, r4⟩ := h
  refine ⟨?_, ?_, fun r hr => ?_, fun b hb => ?_⟩
  · rw [e 0 (by omega)]; exact r1
  · rw [e 1 (by omega)]; exact r2
  · rw [e _ (by omega), e _ (by omega), e _ (by omega), e _ (by omega)]; exact r3 r hr
  · rw [e _ (by omega)]; exact r4 b hb
theorem frC9.keep {I I1 : zk_I} (h : frC9 I I1) : keepM I I1 ∧ relC I I1 := ⟨fun c hc => h.1 c (by omega) (by omega), by rw [h.1 0 (by omega) (by omega)], h.2, fun c hc => h.1 c (by omega) (by omega)⟩
theorem frM.keep {I I1 : zk_I} (h : frM I I1) : keepC I I1 ∧ relM I I1 := ⟨fun c hc => h.1 c (by omega) (by omega), h.2 1 (by omega), h.2 6 (by omega), h.2 10 (by omega), fun c hc => h.1 c (by omega) (by omega)⟩
theorem rd_first {S : ST} (hw : wfS S) :
    (∃ s, s ≤ 160 ∧ (∀ I, invC S I → ∃ I1, f_X0_firstFault I = some (nI s, I1) ∧ frC9 I I1) ∧ ∀ I, invM S I → ∃ I1, f_X8_reads I = some (-1, I1) ∧ frM I I1 ∧ I1 76 12 = nI s) ∨
    (∃ T' c, wfT T' ∧ c ≤ 14 ∧ (∀ I, invC S I → ∃ I1, f_X0_firstFault I = some (-1, I1) ∧ frC9 I I1 ∧ I1 9 1 = nI c ∧ repC T' I1 10) ∧ ∀ I, invM S I → ∃ I1, f_X8_reads I = some (nI c, I1) ∧ frM I I1 ∧ repM T' I1 79) := by
  have hx : wfX (txS S) := hw.1
  have hT : wfT (tdS S) := hw.2.1
  have C : ∀ I, invC S I → ∃ I5, f_X0_firstFault I = l_X0_firstFault_22 (fun (I22 : zk_I) => some ((I22 1 2), I22)) 3000 (nI 0) I5 ∧ frC9 I I5 ∧ atC (txS S) (tS (txS S) 0) (tE (txS S) (tS (txS S) 0)) I5 ∧ repC (tdS S) I5 10 ∧ I5 9 1 = nI 0 := by
    intro I hc
    obtain ⟨g1, g2⟩ := cpyT (t := 10) hT (by omega) hc.2.1
    generalize hg : f_X6_copyFrom I 10 3 = I2 at g1 g2
    have f2 : frC9 I I2 := ⟨fun c _ h => g2 c (by omega), by rw [g2 1 (by omega)]⟩
    have ht4 : tC (txS S) (zk_sc (zk_sc I2 9 (upd (I2 9) 1 0)) 1 (upd (I2 1) 3 (nI 0))) := by
      refine hc.1.fr ?_ ?_
      · rw [zk_sc_s, pk_un (by decide), g2 1 (by omega)]
      · rw [zk_sc_n _ _ (by decide), zk_sc_n _ _ (by decide), g2 2 (by omega)]
    obtain ⟨I5, n1, n2, n3⟩ := x_next hx ht4 (Nat.zero_le _) (by rw [zk_sc_s, pk_us])
    refine ⟨I5, ?_, ⟨fun c h1 h2 => ?_, ?_⟩, n2, g1.fr (fun c h1 h2 => ?_), ?_⟩
    · unfold f_X0_firstFault f_X5_goToFirstToken
      rw [hg, zlt, zlt, zlt, zk_sc_n _ _ (show ¬ 1 = 9 by decide), show (0 : Int32) = nI 0 from rfl, show zk_sc (zk_sc I2 9 (upd (I2 9) 1 (nI 0))) 1 (upd (I2 1) 3 (nI 0)) = zk_sc (zk_sc I2 9 (upd (I2 9) 1 0)) 1 (upd (I2 1) 3 (nI 0)) from rfl, n1, zbd1, zbd1]
    · rw [n3 c h1, zk_sc_n _ _ h1, zk_sc_n _ _ (by omega), g2 c (by omega)]
    · rw [n2.1.1]; exact hc.1.1.symm
    · rw [n3 c (by omega), zk_sc_n _ _ (by omega), zk_sc_n _ _ (by omega)]
    · rw [n3 9 (by omega), zk_sc_n _ _ (by omega), zk_sc_s, pk_us]; rfl
  have M : ∀ I, invM S I → ∃ I6, f_X8_reads I = l_X8_reads_35 kM1 3000 (nI 0) 1 I6 ∧ frM I I6 ∧ tM (txS S) I6 ∧ I6 76 13 = nI 0 ∧ repM (tdS S) I6 79 := by
    intro I hm
    have hk : (fun (z24 : Int32) (I25 : zk_I) => some (z24, I25)) = kM1 := rfl
    have f6 : frM I (zk_sc (zk_sc I 79 (fun j => if j < 38 then I 78 j else I 79 j)) 76 (upd (I 76) 13 (nI 0))) := by
      refine ⟨fun c h1 h2 => ?_, fun q hq => ?_⟩
      · rw [zk_sc_n _ _ h1, zk_sc_n _ _ h2]
      · rw [zk_sc_s, pk_un (by omega)]
    refine ⟨_, ?_, f6, hm.1.frm f6, ?_, repM_cp hT hm.2.1 (fun j hj => ?_)⟩
    · unfold f_X8_reads
      rw [hk, x8_reads_l, zlt, zk_sc_n _ _ (show ¬ 76 = 79 by decide), show (0 : Int32) = nI 0 from rfl]
    · rw [zk_sc_s, pk_us]
    · rw [zk_sc_n _ _ (by decide), zk_sc_s, if_pos hj]
  rcases rd_all hx (fun (I22 : zk_I) => some ((I22 1 2), I22)) 13 0 rfl (tdS S) 0 hT (Nat.zero_le _) with ⟨s, hs, h1, h2⟩ | ⟨T', c, hT', hc14, h1, h2⟩
  · refine Or.inl ⟨s, Nat.le_trans hs hx.1, fun I hc => ?_, fun I hm => ?_⟩
    · obtain ⟨I5, a1, a2, a3, a4, a5⟩ := C I hc
      obtain ⟨I1, b1, b2⟩ := h1 I5 3000 (by decide) a3 a4 a5
      exact ⟨I1, a1.trans b1, a2.tr b2⟩
    · obtain ⟨I6, a1, a2, a3, a4, a5⟩ := M I hm
      obtain ⟨I1, b1, b2, b3⟩ := h2 I6 3000 (by decide) a3 a4 a5
      exact ⟨I1, a1.trans b1, a2.tr b2, b3⟩
  · refine Or.inr ⟨T', c, hT', hc14, fun I hc => ?_, fun I hm => ?_⟩
    · obtain ⟨I5, a1, a2, a3, a4, a5⟩ := C I hc
      obtain ⟨I1, b1, b2, b3⟩ := h1 I5 3000 (by decide) a3 a4 a5
      exact ⟨I1, a1.trans b1, a2.tr b2, b3⟩
    · obtain ⟨I6, a1, a2, a3, a4, a5⟩ := M I hm
      obtain ⟨I1, b1, b2, b3⟩ := h2 I6 3000 (by decide) a3 a4 a5
      exact ⟨I1, a1.trans b1, a2.tr b2, b3⟩
theorem o_fault {S : ST} (hw : wfS S) : opS S (fun I => f_X7_fault I) (fun I => f_X8_fault I) := by
  rcases rd_first hw with ⟨s, hs, hC, hM⟩ | ⟨T', c, hT', hc, hC, hM⟩
  · refine ⟨S, nI s, hw, fun I hI => ?_, fun I hI => ?_⟩
    · obtain ⟨I1, a1, a2⟩ := hC I hI
      refine ⟨I1, ?_, hI.fr a2.keep.2, a2.keep.1⟩
      show f_X7_fault I = _
      unfold f_X7_fault
      rw [a1, zbd2]
    · obtain ⟨I1, a1, a2, a3⟩ := hM I hI
      refine ⟨I1, ?_, hI.fr a2.keep.2, a2.keep.1⟩
      show f_X8_fault I = _
      unfold f_X8_fault
      rw [a1, zbd2, if_pos rfl, a3]
  · refine ⟨S, -1, hw, fun I hI => ?_, fun I hI => ?_⟩
    · obtain ⟨I1, a1, a2, a3⟩ := hC I hI
      refine ⟨I1, ?_, hI.fr a2.keep.2, a2.keep.1⟩
      show f_X7_fault I = _
      unfold f_X7_fault
      rw [a1, zbd2]
    · obtain ⟨I1, a1, a2, a3⟩ := hM I hI
      refine ⟨I1, ?_, hI.fr a2.keep.2, a2.keep.1⟩
      show f_X8_fault I = _
      unfold f_X8_fault
      have := opt_m1 (v := c) (by omega)
      have this : ¬ nI c = (-1 : Int32) := this
      rw [a1, zbd2, if_neg this]

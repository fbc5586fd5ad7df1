/-! with whom a book can be behind so many namings: the class -/
def fpP (T : TD) (D : DD) (b i s w : Nat) : Prop := (s = haD D b ∧ w = hoD D b) ∨ ∃ s' w', s' < i ∧ w' < 8 ∧ Rch T D b s' w' ∧ (chN T (dyD D) (haD D b) s' w').testBit w = true ∧ s = s' ||| 2 ^ w
def fpQ (T : TD) (D : DD) (b i n w : Nat) : Prop := ∃ s, s < i ∧ Rch T D b s w ∧ pc s = pc (haD D b) + n
theorem fpP_R {T : TD} {D : DD} {b i w : Nat} (hT : wfT T) (hD : wfD T D) (hb : b < nbT T) (hw : w < 8) : fpP T D b i i w ↔ Rch T D b i w := by
  constructor
  · rintro (⟨q1, q2⟩ | ⟨s', w', q1, q2, q3, q4, q5⟩)
    · rw [q1, q2]; exact Rch_0 hT hD hb
    · rw [q5]; exact Rch_s hT hD hb q2 q3 q4
  · intro q
    rcases Rch_p hT hD hb hw q with q | ⟨s', w', q1, q2, q3, q4⟩
    · exact Or.inl q
    · refine Or.inr ⟨s', w', ?_, q1, q2, q3, q4⟩
      have := or_gt (chN_bit hT q3).2
      omega
theorem pc_sub_lt {T : TD} {D : DD} {b s w : Nat} (hT : wfT T) (hD : wfD T D) (hb : b < nbT T) (hw : w < 8) (h : Rch T D b s w) : s < 2 ^ nrT T ∧ s &&& haD D b = haD D b ∧ w < nrT T ∧ pc (haD D b) ≤ pc s ∧ pc s - pc (haD D b) < 8 := by
  have hnr := hT.1
  have hpw := pow_le8 hnr
  obtain ⟨s1, s2, s3⟩ := Rch_st hT hD hb hw h
  have hsub := (isSt_sub s3).1
  obtain ⟨w1, w2, w3, -⟩ := hD.2 b hb
  have hpc : 1 ≤ pc (haD D b) := pc_pos _ (by omega) _ (show hoD D b < 8 by omega) w3
  have h8 := pc_le s
  exact ⟨s1, hsub, s2, pc_mono hsub, by omega⟩
theorem x_fp40 {T : TD} {D : DD} {I : zk_I} {b pl : Nat} (hT : wfT T) (hD : wfD T D) (hb : b < nbT T) (hB : begC T (dyD D) (haD D b) (hoD D b) I) (hpl : 67 < pl) (K : zk_I → Option zk_I) : ∀ m i n (I' : zk_I), i + m = 2 ^ nrT T → m < n → (∀ c, c ≠ 67 → c ≠ pl → I' c = I c) → reS I' 67 256 (fpP T D b i) → reS I' pl 8 (fpQ T D b i) → ∃ I1, l_X3_findPlaces_40 pl K n (nI i) I' = K I1 ∧ (∀ c, c ≠ 67 → c ≠ pl → I1 c = I c) ∧ reS I1 pl 8 (fpQ T D b (2 ^ nrT T)) := by
  have hnr := hT.1
  have hpw := pow_le8 hnr
  have h1p : 1 ≤ 2 ^ nrT T := Nat.one_le_two_pow
  obtain ⟨w1, w2, w3, -⟩ := hD.2 b hb
  intro m
  induction m with
  | zero =>
    intro i n I' hi hn ho hP hQ
    obtain ⟨n, rfl⟩ : ∃ k, n = k + 1 := ⟨n - 1, by omega⟩
    have : i = 2 ^ nrT T := by omega
    subst this
    have hB' : begC T (dyD D) (haD D b) (hoD D b) I' := hB.fr (fun c hc => ho c (by omega) (by omega))
    refine ⟨I', ?_, ho, hQ⟩
    rw [l_X3_findPlaces_40, x_every hT hB'.1, zlt, if_pos (nI_lt (by omega) (by omega))]
  | succ m ih =>
    intro i n I' hi hn ho hP hQ
    obtain ⟨n, rfl⟩ : ∃ k, n = k + 1 := ⟨n - 1, by omega⟩
    have hB' : begC T (dyD D) (haD D b) (hoD D b) I' := hB.fr (fun c hc => ho c (by omega) (by omega))
    have hi8 : i < 256 := by omega
    have en : f_X3_namingsTo I' (nI i) = nI (pc i) - nI (pc (haD D b)) := by
      unfold f_X3_namingsTo
      rw [hB'.2.1, zlt, zlt, pc_bits _ hi8, pc_bits _ (show haD D b < 256 by omega)]
    obtain ⟨mm, m1, m2, m3⟩ := hP i hi8
    have m4 : ∀ w, w < 8 → (mm.testBit w = true ↔ Rch T D b i w) := fun w hw => (m3 w hw).trans (fpP_R hT hD hb hw)
    rw [l_X3_findPlaces_40, x_every hT hB'.1, zlt, if_neg (nI_nlt (by omega) (by omega)), zlt, zck (zin hi8 (by decide)), nI_clamp (show i < 2 ^ 31 by omega), m2, zjp1, en, nI_1]
    by_cases h0 : mm = 0
    · rw [if_pos (by rw [h0]; rfl)]
      have hno : ∀ w, w < 8 → ¬ Rch T D b i w := fun w hw q => by
        have := (m4 w hw).mpr q
        rw [h0, Nat.zero_testBit] at this
        cases this
      refine ih (i + 1) n I' (by omega) (by omega) ho (hP.cg (fun s w _ _ => ?_)) (hQ.cg (fun s w _ hw => ?_))
      · constructor
        · rintro (q | ⟨s', w', q1, q2⟩)
          · exact Or.inl q
          · exact Or.inr ⟨s', w', by omega, q2⟩
        · rintro (q | ⟨s', w', q1, q2, q3, q4⟩)
          · exact Or.inl q
          · by_cases he : s' = i
            · subst he; exact absurd q3 (hno w' q2)
            · exact Or.inr ⟨s', w', by omega, q2, q3, q4⟩
      · constructor
        · rintro ⟨s', q1, q2⟩
          exact ⟨s', by omega, q2⟩
        · rintro ⟨s', q1, q2, q3⟩
          by_cases he : s' = i
          · subst he; exact absurd q2 (hno w hw)
          · exact ⟨s', by omega, q2, q3⟩
    · obtain ⟨x, hx8, hx⟩ := bit_ex mm m1 h0
      obtain ⟨r1, r2, r3, r4, r5⟩ := pc_sub_lt hT hD hb hx8 ((m4 x hx8).mp hx)
      rw [nI_sub r4, if_neg (nz0 (by omega) h0), if_neg (nI_pos (by omega)), if_neg (show ¬ (8 : Int32) ≤ nI (pc i - pc (haD D b)) from nI_ge (b := 8) (by omega) (by decide)), zck (zin r5 (by decide)), zck (zin hi8 (by decide)), zck (zin r5 (by decide)), nI_clamp (by omega), zlt]
      generalize hI23 : zk_sc I' pl (upd (I' pl) (pc i - pc (haD D b)) (I' pl (pc i - pc (haD D b)) ||| nI mm)) = I23
      have o23 : ∀ c, c ≠ pl → I23 c = I' c := fun c hc => by rw [← hI23, zk_sc_n _ _ hc]
      have hQ23 : reS I23 pl 8 (fpQ T D b (i + 1)) := by
        rw [← hI23]
        refine hQ.or r5 m1 (fun s w hs hw => ?_)
        rw [m4 w hw]
        constructor
        · rintro ⟨s', q1, q2, q3⟩
          by_cases he : s' = i
          · subst he
            exact Or.inr ⟨by omega, q2⟩
          · exact Or.inl ⟨s', by omega, q2, q3⟩
        · rintro (⟨s', q1, q2, q3⟩ | ⟨q1, q2⟩)
          · exact ⟨s', by omega, q2, q3⟩
          · exact ⟨i, by omega, q2, by omega⟩
      have hB23 : begC T (dyD D) (haD D b) (hoD D b) I23 := hB'.fr (fun c hc => o23 c (by omega))
      have h67 : I23 67 i = nI mm := by rw [o23 67 (by omega)]; exact m2
      have hP23 : reS I23 67 256 (fpP T D b i) := hP.fr (o23 67 (by omega))
      unfold f_X3_spreadFrom
      rw [x_sp4 hT hB23 r1 r2 m1 h67]
      obtain ⟨I25, s1, s2, s3⟩ := x_sp45 (T := T) (I := I23) (s := i) (C := spC T (dyD D) (haD D b) mm i (nrT T)) (P := fpP T D b i) hT hB23.1 hi8 (spC_lt hT _ _ _ _ _) (fun (I20 : zk_I) => some I20) (nrT T) 0 3000 I23 (by omega) (by omega) (fun _ _ => rfl) (hP23.cg (fun s w _ _ => ⟨fun q => Or.inl q, fun q => by
        rcases q with q | ⟨q, -⟩
        · exact q
        · exact absurd q (Nat.not_lt_zero _)⟩))
      have s1' : l_X3_spreadFrom_45 (nI i) (nI (spC T (dyD D) (haD D b) mm i (nrT T))) (fun (I20 : zk_I) => some I20) 3000 0 I23 = some I25 := s1
      rw [s1', zbd1]
      refine ih (i + 1) n I25 (by omega) (by omega) (fun c h1 h2 => by rw [s2 c h1, o23 c h2]; exact ho c h1 h2) (s3.cg (fun s w _ hw => ?_)) (hQ23.fr (s2 pl (by omega)))
      constructor
      · rintro ((q | ⟨s', w', q1, q2⟩) | ⟨q1, q2, q3⟩)
        · exact Or.inl q
        · exact Or.inr ⟨s', w', by omega, q2⟩
        · obtain ⟨w', u1, u2, u3⟩ := spC_bit.mp q2
          exact Or.inr ⟨i, w', by omega, by omega, (m4 w' (by omega)).mp u2, u3, q3⟩
      · rintro (q | ⟨s', w', q1, q2, q3, q4, q5⟩)
        · exact Or.inl (Or.inl q)
        · by_cases he : s' = i
          · subst he
            have hw' := (pc_sub_lt hT hD hb q2 q3).2.2.1
            exact Or.inr ⟨(chN_bit hT q4).1, spC_bit.mpr ⟨w', hw', (m4 w' q2).mpr q3, q4⟩, q5⟩
          · exact Or.inl (Or.inr ⟨s', w', by omega, q2, q3, q4, q5⟩)
theorem x_findPlaces {T : TD} {D : DD} {I : zk_I} {b pl : Nat} (hT : wfT T) (hD : wfD T D) (hr : repC T I 3) (hd : repDC T D I 16) (hb : b < nbT T) (hpl : 67 < pl) : ∃ I1, f_X3_findPlaces I (nI b) pl = some I1 ∧ (∀ c, ¬ (63 ≤ c ∧ c ≤ 67) → c ≠ pl → I1 c = I c) ∧ reS I1 pl 8 (fpQ T D b (2 ^ nrT T)) := by
  have hnr := hT.1
  have hpw := pow_le8 hnr
  obtain ⟨w1, w2, w3, -⟩ := hD.2 b hb
  obtain ⟨I2, b1, b2, b3, -⟩ := x_beginR hT hD hr hd hb
  unfold f_X3_findPlaces
  rw [b1, zbd1, x_fillm (by decide) (by decide), zbd1, x_fillm (by decide) (by decide), zbd1]
  generalize hI4 : zk_sc I2 pl (fun j => if j < 8 then 0 else I2 pl j) = I4
  have o4 : ∀ c, c ≠ pl → I4 c = I2 c := fun c hc => by rw [← hI4, zk_sc_n _ _ hc]
  have z4 : ∀ j, j < 8 → I4 pl j = 0 := fun j hj => by rw [← hI4, zk_sc_s, if_pos hj]
  generalize hI6 : zk_sc I4 67 (fun j => if j < 256 then 0 else I4 67 j) = I6
  have o6 : ∀ c, c ≠ 67 → I6 c = I4 c := fun c hc => by rw [← hI6, zk_sc_n _ _ hc]
  have z6 : ∀ j, j < 256 → I6 67 j = 0 := fun j hj => by rw [← hI6, zk_sc_s, if_pos hj]
  have hB6 : begC T (dyD D) (haD D b) (hoD D b) I6 := b2.fr (fun c hc => by rw [o6 c (by omega), o4 c (by omega)])
  rw [hB6.2.1, hB6.2.2.1, zck (zin (show haD D b < 256 by omega) (by decide)), nI_clamp (by omega), sh1 (show hoD D b < 8 by omega), zlt]
  generalize hI8 : zk_sc I6 67 (upd (I6 67) (haD D b) (nI (2 ^ hoD D b))) = I8
  have o8 : ∀ c, c ≠ 67 → I8 c = I6 c := fun c hc => by rw [← hI8, zk_sc_n _ _ hc]
  have hB8 : begC T (dyD D) (haD D b) (hoD D b) I8 := hB6.fr (fun c hc => o8 c (by omega))
  rw [hB8.2.1]
  have key := x_fp40 hT hD hb hB8 hpl (fun (I26 : zk_I) => some I26) (2 ^ nrT T - haD D b) (haD D b) 3000 I8 (by omega) (by omega) (fun _ _ _ => rfl) (fun s hs => ?_) (fun s hs => ?_)
  · obtain ⟨I1, a1, a2, a3⟩ := key
    refine ⟨I1, a1, fun c h1 h2 => ?_, a3⟩
    rw [a2 c (by omega) h2, o8 c (by omega), o6 c (by omega), o4 c h2]
    exact b3 c (by omega)
  · have hno : ∀ s' w', s' < haD D b → w' < 8 → ¬ Rch T D b s' w' := fun s' w' h1 h2 q => by
      have := sub_le (pc_sub_lt hT hD hb h2 q).2.1
      omega
    by_cases he : s = haD D b
    · subst he
      refine ⟨2 ^ hoD D b, p2_lt8 (by omega), by rw [← hI8, zk_sc_s, pk_us], fun w hw => ?_⟩
      rw [Nat.testBit_two_pow, decide_eq_true_eq]
      constructor
      · intro q; exact Or.inl ⟨rfl, q.symm⟩
      · rintro (q | ⟨s', w', q1, q2, q3, -⟩)
        · exact q.2.symm
        · exact absurd q3 (hno s' w' q1 q2)
    · refine ⟨0, by decide, by rw [← hI8, zk_sc_s, pk_un he, z6 s hs]; rfl, fun w hw => ?_⟩
      rw [Nat.zero_testBit]
      constructor
      · intro q; cases q
      · rintro (q | ⟨s', w', q1, q2, q3, -⟩)
        · exact absurd q.1 he
        · exact absurd q3 (hno s' w' q1 q2)
  · refine ⟨0, by decide, by rw [o8 pl (by omega), o6 pl (by omega), z4 s hs]; rfl, fun w hw => ?_⟩
    rw [Nat.zero_testBit]
    constructor
    · intro q; cases q
    · rintro ⟨s', q1, q2, -⟩
      have := sub_le (pc_sub_lt hT hD hb hw q2).2.1
      omega

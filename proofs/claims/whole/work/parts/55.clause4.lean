def peaceT (T : TD) : TD := (nrT T, nbT T, kdT T, rkT T, (fun _ => 0), mvT T, frT T)
def noneT (T : TD) : TD := (0, 0, kdT T, rkT T, fdT T, mvT T, frT T)
theorem x_fill {I : zk_I} {a : Nat} (K : zk_I → Option zk_I) : l_J7_fill_53178_5 a 8 0 (Int32.ofNat 8) K 3000 0 I = K (zk_sc I a (fun j => if j < 8 then nI 0 else I a j)) := by
  have h0 : I = zk_sc I a (fun j => if j < 0 then nI 0 else I a j) := by
    funext c
    by_cases hc : c = a
    · subst hc
      rw [zk_sc_s]
      funext j
      rw [if_neg (by omega)]
    · rw [zk_sc_n _ _ hc]
  have key := zl_up (fun n i (s : zk_I) => l_J7_fill_53178_5 a 8 0 (Int32.ofNat 8) K n (nI i) s) K (fun i => zk_sc I a (fun j => if j < i then nI 0 else I a j)) 8 (fun n => ?_) (fun n i hi => ?_) 3000 0 (by omega) (by omega)
  · rw [← h0] at key
    exact key
  · simp only [l_J7_fill_53178_5]
    have hc : Int32.ofNat 8 ≤ nI 8 := by decide
    rw [if_pos hc]
  · simp only [l_J7_fill_53178_5]
    have hc : ¬ Int32.ofNat 8 ≤ nI i := nI_ge (b := 8) hi (by decide)
    rw [if_neg hc]
    simp only [zck (zin hi (by decide)), nI_clamp (show i < 2 ^ 31 by omega), zlt, zk_sc_s, sc_sc, nI_1]
    congr 2
    funext j
    by_cases hj : j = i
    · subst hj
      rw [pk_us, if_pos (by omega)]
      rfl
    · rw [pk_un hj]
      by_cases h1 : j < i
      · rw [if_pos h1, if_pos (by omega)]
      · rw [if_neg h1, if_neg (by omega)]
theorem x8_peace {I : zk_I} : f_X8_peace I = some (zk_sc I 79 (fun j => if 18 ≤ j ∧ j < 18 + 8 then nI 0 else I 79 j)) := by
  unfold f_X8_peace
  have h0 : I = zk_sc I 79 (fun j => if 18 ≤ j ∧ j < 18 + 0 then nI 0 else I 79 j) := by
    funext c
    by_cases hc : c = 79
    · subst hc
      rw [zk_sc_s]
      funext j
      rw [if_neg (by omega)]
    · rw [zk_sc_n _ _ hc]
  have key := zl_up (fun n i (s : zk_I) => l_X8_peace_2 (fun (I4 : zk_I) => some I4) n (nI i) s) (fun s => some s) (fun i => zk_sc I 79 (fun j => if 18 ≤ j ∧ j < 18 + i then nI 0 else I 79 j)) 8 (fun n => ?_) (fun n i hi => ?_) 3000 0 (by omega) (by omega)
  · rw [← h0] at key
    exact key
  · simp only [l_X8_peace_2]
    have hc : (8 : Int32) ≤ nI 8 := by decide
    rw [if_pos hc]
  · simp only [l_X8_peace_2]
    have hc : ¬ (8 : Int32) ≤ nI i := nI_ge (b := 8) hi (by decide)
    rw [if_neg hc]
    simp only [xlit, nI_add, zck (zin (show 18 + i < 38 by omega) (by decide)), nI_clamp (show 18 + i < 2 ^ 31 by omega), zlt, zk_sc_s, sc_sc]
    congr 2
    funext j
    by_cases hj : j = 18 + i
    · subst hj
      rw [pk_us, if_pos (by omega)]
    · rw [pk_un hj]
      by_cases h1 : 18 ≤ j ∧ j < 18 + i
      · rw [if_pos h1, if_pos (by omega)]
      · rw [if_neg h1, if_neg (by omega)]
theorem x8_forgets {I : zk_I} : f_X8_forgets I = some (zk_sc I 79 (fun j => if j < 38 then nI 0 else I 79 j)) := by
  unfold f_X8_forgets
  have h0 : I = zk_sc I 79 (fun j => if j < 0 then nI 0 else I 79 j) := by
    funext c
    by_cases hc : c = 79
    · subst hc
      rw [zk_sc_s]
      funext j
      rw [if_neg (by omega)]
    · rw [zk_sc_n _ _ hc]
  have key := zl_up (fun n i (s : zk_I) => l_X8_forgets_2 (fun (I4 : zk_I) => some I4) n (nI i) s) (fun s => some s) (fun i => zk_sc I 79 (fun j => if j < i then nI 0 else I 79 j)) 38 (fun n => ?_) (fun n i hi => ?_) 3000 0 (by omega) (by omega)
  · rw [← h0] at key
    exact key
  · simp only [l_X8_forgets_2]
    have hc : (38 : Int32) ≤ nI 38 := by decide
    rw [if_pos hc]
  · simp only [l_X8_forgets_2]
    have hc : ¬ (38 : Int32) ≤ nI i := nI_ge (b := 38) hi (by decide)
    rw [if_neg hc]
    simp only [xlit, nI_add, zck (zin hi (by decide)), nI_clamp (show i < 2 ^ 31 by omega), zlt, zk_sc_s, sc_sc]
    congr 2
    funext j
    by_cases hj : j = i
    · subst hj
      rw [pk_us, if_pos (by omega)]
    · rw [pk_un hj]
      by_cases h1 : j < i
      · rw [if_pos h1, if_pos (by omega)]
      · rw [if_neg h1, if_neg (by omega)]
theorem cl_peace {x : TX} {T : TD} {p e : Nat} (hx : wfX x) (hT : wfT T) (hp : p ≤ x.1) (hee : e = tE x p) : clS x T p e (fun I => zk_bd1 (f_X6_makePeace I 10) (fun (I26 : zk_I) => zk_bd1 (f_X5_goToNextToken I26) (fun (I19 : zk_I) => some ((1 : Int32), I19)))) (fun I => zk_bd1 (f_X8_peace I) (fun (I29 : zk_I) => some ((1 : Int32), I29))) := by
  have he : e ≤ x.1 := by rw [hee]; exact tE_le hp
  have hnr := hT.1
  have hnb := hT.2.1
  refine Or.inr ⟨peaceT T, e, he, ⟨hT.1, hT.2.1, fun r hr => ⟨(hT.2.2.1 r hr).1, (hT.2.2.1 r hr).2.1, (by decide : 0 < 256), (hT.2.2.1 r hr).2.2.2⟩, hT.2.2.2⟩, fun I hc hr => ?_, fun I hm hr => ?_⟩
  · have hr3 : repC (peaceT T) (zk_sc I (10 + 3) (fun j => if j < 8 then nI 0 else I (10 + 3) j)) 10 := by
      obtain ⟨r1, r2, r3, r4⟩ := hr
      refine ⟨?_, ?_, fun r hr => ⟨?_, ?_, ?_, ?_⟩, fun b hb => ?_⟩
      · rw [zk_sc_n _ _ (by decide)]; exact r1
      · rw [zk_sc_n _ _ (by decide)]; exact r2
      · rw [zk_sc_n _ _ (by decide)]; exact (r3 r hr).1
      · rw [zk_sc_n _ _ (by decide)]; exact (r3 r hr).2.1
      · have hr : r < nrT T := hr
        rw [zk_sc_s, if_pos (by omega)]; rfl
      · rw [zk_sc_n _ _ (by decide)]; exact (r3 r hr).2.2.2
      · rw [zk_sc_n _ _ (by decide)]; exact r4 b hb
    obtain ⟨I9, b1, b2, b3, b4⟩ := x_after hx he hc frC.rf (fun c h => zk_sc_n _ _ (by omega)) hr3
    refine ⟨I9, ?_, b2, b3, b4⟩
    show zk_bd1 (f_X6_makePeace I 10) _ = _
    unfold f_X6_makePeace f_J7_fill_53178
    rw [x_fill, zbd1, zbd1, b1, zbd1]
  · refine ⟨_, (congrArg (fun a => zk_bd1 a (fun (I29 : zk_I) => some ((1 : Int32), I29))) x8_peace).trans (zbd1 _ _), frM.sc _, ?_, ?_⟩
    · rw [zk_sc_n _ _ (by decide)]; exact hm.2.2.1
    · obtain ⟨r1, r2, r3, r4⟩ := hr
      unfold repM
      rw [zk_sc_s]
      refine ⟨?_, ?_, fun r hr => ?_, fun b hb => ?_⟩
      · rw [if_neg (by omega)]; exact r1
      · rw [if_neg (by omega)]; exact r2
      · have hr : r < nrT T := hr
        rw [if_neg (by omega), if_neg (by omega), if_pos (by omega), if_neg (by omega)]
        exact ⟨(r3 r hr).1, (r3 r hr).2.1, rfl, (r3 r hr).2.2.2⟩
      · have hb : b < nbT T := hb
        rw [if_neg (by omega)]; exact r4 b hb
theorem cl_library {x : TX} {T : TD} {p e : Nat} (hx : wfX x) (hT : wfT T) (hp : p ≤ x.1) (hee : e = tE x p) : clS x T p e (fun I => zk_bd1 (f_X5_goToNextToken (f_X6_clear I 10)) (fun (I19 : zk_I) => some ((1 : Int32), I19))) (fun I => zk_bd1 (f_X8_forgets I) (fun (I29 : zk_I) => some ((1 : Int32), I29))) := by
  have he : e ≤ x.1 := by rw [hee]; exact tE_le hp
  refine Or.inr ⟨noneT T, e, he, ⟨Nat.zero_le _, Nat.zero_le _, fun r hr => absurd hr (Nat.not_lt_zero _), fun b hb => absurd hb (Nat.not_lt_zero _)⟩, fun I hc hr => ?_, fun I hm hr => ?_⟩
  · have ec : f_X6_clear I 10 = zk_sc I 10 (upd (upd (I 10) 0 0) 1 0) := by
      unfold f_X6_clear
      rw [zlt, zlt, sc_sc, zk_sc_s]
    have hr3 : repC (noneT T) (zk_sc I 10 (upd (upd (I 10) 0 0) 1 0)) 10 := by
      refine ⟨?_, ?_, fun r hr => absurd hr (Nat.not_lt_zero _), fun b hb => absurd hb (Nat.not_lt_zero _)⟩
      · rw [zk_sc_s, pk_un (by decide), pk_us]; rfl
      · rw [zk_sc_s, pk_us]; rfl
    obtain ⟨I9, b1, b2, b3, b4⟩ := x_after hx he hc frC.rf (fun c h => zk_sc_n _ _ (by omega)) hr3
    refine ⟨I9, ?_, b2, b3, b4⟩
    show zk_bd1 (f_X5_goToNextToken (f_X6_clear I 10)) _ = _
    rw [ec, b1, zbd1]
  · refine ⟨_, (congrArg (fun a => zk_bd1 a (fun (I29 : zk_I) => some ((1 : Int32), I29))) x8_forgets).trans (zbd1 _ _), frM.sc _, ?_, ?_⟩
    · rw [zk_sc_n _ _ (by decide)]; exact hm.2.2.1
    · unfold repM
      rw [zk_sc_s]
      exact ⟨rfl, rfl, fun r hr => absurd hr (Nat.not_lt_zero _), fun b hb => absurd hb (Nat.not_lt_zero _)⟩
def thru (a : Option (Int32 × zk_I)) : Option (Int32 × zk_I) := zk_bd2 a (fun r I1 => zk_ck (zk_01 r) (some (r, I1)))
theorem clS.map {x : TX} {T : TD} {p e : Nat} {f g f' g' : zk_I → Option (Int32 × zk_I)} (h : clS x T p e f g) (hf : ∀ I, atC x p e I → f' I = f I ∨ f' I = thru (f I)) (hg : ∀ I, atM x p e I → g' I = g I ∨ g' I = thru (g I)) : clS x T p e f' g' := by
  rcases h with ⟨q, h1, h2, h3⟩ | ⟨T', q, h0, h1, h2, h3⟩
  · refine Or.inl ⟨q, h1, fun I hc hr => ?_, fun I hm hr => ?_⟩
    · obtain ⟨I1, a1, a2⟩ := h2 I hc hr
      refine ⟨I1, ?_, a2⟩
      rcases hf I hc with h | h
      · rw [h, a1]
      · rw [h, a1]; rfl
    · obtain ⟨I1, a1, a2⟩ := h3 I hm hr
      refine ⟨I1, ?_, a2⟩
      rcases hg I hm with h | h
      · rw [h, a1]
      · rw [h, a1]; rfl
  · refine Or.inr ⟨T', q, h0, h1, fun I hc hr => ?_, fun I hm hr => ?_⟩
    · obtain ⟨I1, a1, a2⟩ := h2 I hc hr
      refine ⟨I1, ?_, a2⟩
      rcases hf I hc with h | h
      · rw [h, a1]
      · rw [h, a1]; rfl
    · obtain ⟨I1, a1, a2⟩ := h3 I hm hr
      refine ⟨I1, ?_, a2⟩
      rcases hg I hm with h | h
      · rw [h, a1]
      · rw [h, a1]; rfl

def newD (T : TD) : DD := (0, frT T, (fun b => 2 ^ frT T b), fun _ => 0)
theorem newD_wf {T : TD} (hT : wfT T) : wfD T (newD T) := ⟨Nat.zero_le _, fun b hb => ⟨hT.2.2.2 b hb, Nat.pow_lt_pow_right (by decide) (hT.2.2.2 b hb), Nat.testBit_two_pow_self, Nat.le_refl _⟩⟩
theorem pc_one : ∀ k, k < 8 → pc (2 ^ k) = 1 := by decide +kernel
theorem newD_nm {T : TD} (hT : wfT T) : ∀ n, n ≤ nbT T → nmD T (newD T) n = 0
  | 0, _ => rfl
  | n + 1, h => by
    unfold nmD
    rw [newD_nm hT n (by omega)]
    have h1 := hT.2.2.2 n (by omega)
    have h2 := hT.1
    have : haD (newD T) n = 2 ^ frT T n := rfl
    rw [this, pc_one _ (by omega)]
def bgI (T : TD) (I : zk_I) (i : Nat) : zk_I := fun c => if c = 17 then (fun j => if j < i then nI (frT T j) else I 17 j) else if c = 18 then (fun j => if j < i then nI (2 ^ frT T j) else I 18 j) else if c = 19 then (fun j => if j < i then nI 0 else I 19 j) else I c
theorem bgI_o {T : TD} {I : zk_I} {i c : Nat} (h : ¬ (17 ≤ c ∧ c ≤ 19)) : bgI T I i c = I c := by unfold bgI; rw [if_neg (by omega), if_neg (by omega), if_neg (by omega)]
theorem bgI_17 {T : TD} {I : zk_I} {i : Nat} : bgI T I i 17 = (fun j => if j < i then nI (frT T j) else I 17 j) := by unfold bgI; rw [if_pos rfl]
theorem bgI_18 {T : TD} {I : zk_I} {i : Nat} : bgI T I i 18 = (fun j => if j < i then nI (2 ^ frT T j) else I 18 j) := by unfold bgI; rw [if_neg (by decide), if_pos rfl]
theorem bgI_19 {T : TD} {I : zk_I} {i : Nat} : bgI T I i 19 = (fun j => if j < i then nI 0 else I 19 j) := by unfold bgI; rw [if_neg (by decide), if_neg (by decide), if_pos rfl]
theorem up_if (f : Nat → Int32) (g : Nat → Int32) (i : Nat) {v : Int32} (hv : v = g i) : upd (fun j => if j < i then g j else f j) i v = fun j => if j < i + 1 then g j else f j := by
  funext j
  by_cases hj : j = i
  · subst hj; rw [pk_us, if_pos (by omega), hv]
  · rw [pk_un hj]
    by_cases h1 : j < i
    · rw [if_pos h1, if_pos (by omega)]
    · rw [if_neg h1, if_neg (by omega)]
theorem x_begin_l {T : TD} {I : zk_I} (hT : wfT T) (hr : repC T I 3) (K : zk_I → Option zk_I) : l_X1_beginAnew_7 16 K 3000 0 I = K (bgI T I (nbT T)) := by
  have hnb := hT.2.1
  have hnr := hT.1
  have h0 : I = bgI T I 0 := by
    funext c
    by_cases h : 17 ≤ c ∧ c ≤ 19
    · have : c = 17 ∨ c = 18 ∨ c = 19 := by omega
      rcases this with h | h | h <;> subst h
      · rw [bgI_17]; funext j; rw [if_neg (by omega)]
      · rw [bgI_18]; funext j; rw [if_neg (by omega)]
      · rw [bgI_19]; funext j; rw [if_neg (by omega)]
    · rw [bgI_o h]
  have key := zl_up (fun n i (s : zk_I) => l_X1_beginAnew_7 16 K n (nI i) s) K (fun i => bgI T I i) (nbT T) (fun n => ?_) (fun n i hi => ?_) 3000 0 (by omega) (by omega)
  · rw [← h0] at key
    exact key
  · simp only [l_X1_beginAnew_7, bgI_o (show ¬ (17 ≤ 3 ∧ 3 ≤ 19) by decide), hr.2.1]
    rw [if_pos (nI_le (Nat.le_refl _) (by omega))]
  · simp only [l_X1_beginAnew_7, bgI_o (show ¬ (17 ≤ 3 ∧ 3 ≤ 19) by decide), hr.2.1]
    have hf := hT.2.2.2 i hi
    have h8 : I 8 i = nI (frT T i) := hr.2.2.2 i hi
    have xl : ((1 : Int32) <<< (nI (frT T i) &&& 31)) = nI (2 ^ frT T i) := by rw [xlit 1, xlit 31, xb_shl1 _ (by omega)]
    rw [if_neg (nI_ge hi (by omega))]
    simp only [zck (zin (show i < 4 by omega) (by decide)), nI_clamp (show i < 2 ^ 31 by omega), zlt, Nat.reduceAdd, zk_sc_n _ _ (show ¬ 8 = 17 by decide), zk_sc_n _ _ (show ¬ 18 = 17 by decide), zk_sc_n _ _ (show ¬ 19 = 18 by decide), zk_sc_n _ _ (show ¬ 19 = 17 by decide), bgI_o (show ¬ (17 ≤ 8 ∧ 8 ≤ 19) by decide), h8, xl, bgI_17, bgI_18, bgI_19, nI_1]
    congr 1
    funext c
    by_cases h : 17 ≤ c ∧ c ≤ 19
    · have : c = 17 ∨ c = 18 ∨ c = 19 := by omega
      rcases this with h | h | h <;> subst h
      · rw [zk_sc_n _ _ (by decide), zk_sc_n _ _ (by decide), zk_sc_s, bgI_17, up_if _ (fun j => nI (frT T j)) _ rfl]
      · rw [zk_sc_n _ _ (by decide), zk_sc_s, bgI_18, up_if _ (fun j => nI (2 ^ frT T j)) _ rfl]
      · rw [zk_sc_s, bgI_19, up_if _ (fun j => nI 0) _ (v := 0) rfl]
    · rw [zk_sc_n _ _ (by omega), zk_sc_n _ _ (by omega), zk_sc_n _ _ (by omega), bgI_o h, bgI_o h]
theorem x_begin {T : TD} {I : zk_I} (hT : wfT T) (hr : repC T I 3) : ∃ I1, f_X1_beginAnew I 16 = some I1 ∧ repDC T (newD T) I1 16 ∧ ∀ c, ¬ (16 ≤ c ∧ c ≤ 19) → I1 c = I c := by
  have hr1 : repC T (zk_sc I 16 (upd (I 16) 0 0)) 3 := hr.fr (fun c h1 h2 => zk_sc_n _ _ (by omega))
  refine ⟨bgI T (zk_sc I 16 (upd (I 16) 0 0)) (nbT T), ?_, ⟨?_, fun b hb => ⟨?_, ?_, ?_⟩⟩, fun c hc => ?_⟩
  · unfold f_X1_beginAnew
    rw [zlt, x_begin_l hT hr1]
  · rw [bgI_o (by omega), zk_sc_s, pk_us]; rfl
  · rw [show (16 + 1 : Nat) = 17 from rfl, bgI_17]; exact if_pos hb
  · rw [show (16 + 2 : Nat) = 18 from rfl, bgI_18]; exact if_pos hb
  · rw [show (16 + 3 : Nat) = 19 from rfl, bgI_19]; exact if_pos hb
  · rw [bgI_o (by omega), zk_sc_n _ _ (by omega)]
/-- the reference's beginning -/
def bgM (T : TD) (I : zk_I) (i : Nat) : zk_I := zk_sc I 80 (fun j => if 2 ≤ j ∧ j < 2 + i then I 78 (32 + j) else if 6 ≤ j ∧ j < 6 + i then (if j - 6 < nbT T then nI (2 ^ frT T (j - 6)) else 0) else if 10 ≤ j ∧ j < 10 + i then 0 else I 80 j)
theorem x8_begin {T : TD} {I : zk_I} (hT : wfT T) (hr : repM T I 78) (a : Int32) (K : zk_I → Option (Int32 × zk_I)) : l_X8_library_55 a K 3000 0 I = K (bgM T I 4) := by
  have hnb := hT.2.1
  have hnr := hT.1
  have h0 : I = bgM T I 0 := by
    unfold bgM
    funext c
    by_cases h : c = 80
    · subst h
      rw [zk_sc_s]
      funext j
      rw [if_neg (by omega), if_neg (by omega), if_neg (by omega)]
    · rw [zk_sc_n _ _ h]
  have key := zl_up (fun n i (s : zk_I) => l_X8_library_55 a K n (nI i) s) K (fun i => bgM T I i) 4 (fun n => ?_) (fun n i hi => ?_) 3000 0 (by omega) (by omega)
  · rw [← h0] at key
    exact key
  · simp only [l_X8_library_55]
    have hc : (4 : Int32) ≤ nI 4 := by decide
    rw [if_pos hc]
  · simp only [l_X8_library_55]
    have hc : ¬ (4 : Int32) ≤ nI i := nI_ge (b := 4) hi (by decide)
    rw [if_neg hc]
    have e78 : bgM T I i 78 = I 78 := zk_sc_n _ _ (by decide)
    have e2 : (2 : Int32) + nI i = nI (2 + i) := by rw [xlit 2, nI_add]
    have e6 : (6 : Int32) + nI i = nI (6 + i) := by rw [xlit 6, nI_add]
    have e10 : (10 : Int32) + nI i = nI (10 + i) := by rw [xlit 10, nI_add]
    have e34 : (34 : Int32) + nI i = nI (34 + i) := by rw [xlit 34, nI_add]
    have fin : ∀ v : Int32, v = (if i < nbT T then nI (2 ^ frT T i) else 0) → zk_sc (bgM T I i) 80 (upd (upd (upd (bgM T I i 80) (2 + i) (I 78 (34 + i))) (6 + i) v) (10 + i) 0) = bgM T I (i + 1) := by
      intro v hv
      unfold bgM
      rw [sc_sc, zk_sc_s]
      congr 1
      funext j
      by_cases h1 : j = 10 + i
      · subst h1
        rw [pk_us, if_neg (by omega), if_neg (by omega), if_pos (by omega)]
      · rw [pk_un h1]
        by_cases h2 : j = 6 + i
        · subst h2
          rw [pk_us, if_neg (by omega), if_pos (by omega), hv, show 6 + i - 6 = i by omega]
        · rw [pk_un h2]
          by_cases h3 : j = 2 + i
          · subst h3
            rw [pk_us, if_pos (by omega), show 32 + (2 + i) = 34 + i by omega]
          · rw [pk_un h3]
            by_cases g1 : 2 ≤ j ∧ j < 2 + i
            · rw [if_pos g1, if_pos (show 2 ≤ j ∧ j < 2 + (i + 1) by omega)]
            · rw [if_neg g1, if_neg (show ¬ (2 ≤ j ∧ j < 2 + (i + 1)) by omega)]
              by_cases g2 : 6 ≤ j ∧ j < 6 + i
              · rw [if_pos g2, if_pos (show 6 ≤ j ∧ j < 6 + (i + 1) by omega)]
              · rw [if_neg g2, if_neg (show ¬ (6 ≤ j ∧ j < 6 + (i + 1)) by omega)]
                by_cases g3 : 10 ≤ j ∧ j < 10 + i
                · rw [if_pos g3, if_pos (show 10 ≤ j ∧ j < 10 + (i + 1) by omega)]
                · rw [if_neg g3, if_neg (show ¬ (10 ≤ j ∧ j < 10 + (i + 1)) by omega)]
    simp only [e2, e6, e10, e34, zck (zin (show 34 + i < 38 by omega) (by decide)), zck (zin (show 2 + i < 14 by omega) (by decide)), zck (zin (show 6 + i < 14 by omega) (by decide)), zck (zin (show 10 + i < 14 by omega) (by decide)), nI_clamp (show 34 + i < 2 ^ 31 by omega), nI_clamp (show 2 + i < 2 ^ 31 by omega), nI_clamp (show 6 + i < 2 ^ 31 by omega), nI_clamp (show 10 + i < 2 ^ 31 by omega), zlt, zjp1, zk_sc_s, sc_sc, zk_sc_n _ _ (show ¬ 78 = 80 by decide), e78, hr.2.1, nI_1]
    by_cases hlt : i < nbT T
    · have hf := hT.2.2.2 i hlt
      have xl : ((1 : Int32) <<< (nI (frT T i) &&& 31)) = nI (2 ^ frT T i) := by rw [xlit 1, xlit 31, xb_shl1 _ (by omega)]
      rw [if_neg (nI_ge hlt (by omega)), fin _ (by rw [if_pos hlt, hr.2.2.2 i hlt, xl])]
    · rw [if_pos (nI_le (by omega) (by omega)), fin 0 (by rw [if_neg hlt])]
theorem nar0 : vp_nar .boolean (0 : Int32) = nI 0 := by decide +kernel
theorem o_library {S : ST} (hw : wfS S) : opS S (fun I => f_X7_library I) (fun I => f_X8_library I) := by
  rcases rd_first hw with ⟨s, hs, hC, hM⟩ | ⟨T', c, hT', hc, hC, hM⟩
  · refine ⟨S, -4, hw, fun I hI => ?_, fun I hI => ?_⟩
    · obtain ⟨I1, a1, a2⟩ := hC I hI
      refine ⟨I1, ?_, hI.fr a2.keep.2, a2.keep.1⟩
      show f_X7_library I = _
      have this : ¬ nI s = (-1 : Int32) := opt_m1 (v := s) (by omega)
      unfold f_X7_library
      rw [a1, zbd2, if_neg this]
    · obtain ⟨I1, a1, a2, a3⟩ := hM I hI
      refine ⟨I1, ?_, hI.fr a2.keep.2, a2.keep.1⟩
      show f_X8_library I = _
      unfold f_X8_library
      rw [a1, zbd2, if_pos rfl]
  · have hnb := hT'.2.1
    refine ⟨((0, (txS S).2), T', newD T', (0, (paS S).2), (fun _ => none), (0, (slS S).2)), nI c, ⟨⟨Nat.zero_le _, fun j hj => absurd hj (Nat.not_lt_zero _)⟩, hT', newD_wf hT', ⟨Nat.zero_le _, fun j hj => absurd hj (Nat.not_lt_zero _)⟩, (fun k D _ h => by cases h), ⟨Nat.zero_le _, fun j hj => absurd hj (Nat.not_lt_zero _)⟩⟩, fun I hI => ?_, fun I hI => ?_⟩
    · obtain ⟨I3, a1, a2, a3, a4⟩ := hC I hI
      obtain ⟨g1, g2⟩ := cpyT (t := 3) hT' (by omega) a4
      obtain ⟨-, -, -, ⟨-, nx, p2, p3, -⟩, -, -⟩ := hI
      have hr8 : repC T' (zk_sc (f_X6_copyFrom I3 3 10) 1 (upd (f_X6_copyFrom I3 3 10 1) 1 0)) 3 := g1.fr (fun c h1 h2 => zk_sc_n _ _ (by omega))
      obtain ⟨I10, b1, b2, b3⟩ := x_begin hT' hr8
      have ex : f_X7_library I = some (nI c, zk_sc (zk_sc (zk_sc I10 20 (upd (I10 20) 0 0)) 0 (upd (I10 0) 6 0)) 72 (upd (I10 72) 0 0)) := by
        unfold f_X7_library f_X5_empty f_X2_forget
        rw [a1, zbd2, if_pos rfl]
        simp only [zlt, b1, zbd1, zk_sc_n _ _ (show ¬ 0 = 20 by decide), zk_sc_n _ _ (show ¬ 72 = 0 by decide), zk_sc_n _ _ (show ¬ 72 = 20 by decide), zk_sc_n _ _ (show ¬ 9 = 72 by decide), zk_sc_n _ _ (show ¬ 9 = 0 by decide), zk_sc_n _ _ (show ¬ 9 = 20 by decide)]
        rw [b3 9 (by omega), zk_sc_n _ _ (by decide), g2 9 (by omega), a3]
      have f : ∀ g h k q, q ≠ 20 → q ≠ 0 → q ≠ 72 → zk_sc (zk_sc (zk_sc I10 20 g) 0 h) 72 k q = I10 q := fun g h k q h1 h2 h3 => by rw [zk_sc_n _ _ h3, zk_sc_n _ _ h2, zk_sc_n _ _ h1]
      refine ⟨_, ex, ⟨⟨?_, fun j hj => absurd hj (Nat.not_lt_zero _)⟩, hr8.fr ?_, b2.fr ?_, ⟨?_, nx, p2, ?_, fun j hj => absurd hj (Nat.not_lt_zero _)⟩, ⟨0, by decide, ?_, fun k hk => ⟨fun _ => Nat.zero_testBit k, fun D hD => by cases hD⟩⟩, ⟨?_, fun j hj => absurd hj (Nat.not_lt_zero _)⟩⟩, ?_⟩
      · rw [f _ _ _ 1 (by omega) (by omega) (by omega), b3 1 (by omega), zk_sc_s, pk_us]; rfl
      · intro c h1 h2; rw [f _ _ _ c (by omega) (by omega) (by omega), b3 c (by omega)]
      · intro c h1 h2; rw [f _ _ _ c (by omega) (by omega) (by omega)]
      · rw [zk_sc_n _ _ (by decide), zk_sc_n _ _ (by decide), zk_sc_s, pk_us]; rfl
      · rw [zk_sc_n _ _ (by decide), zk_sc_n _ _ (by decide), zk_sc_s, pk_un (by decide), b3 20 (by omega), zk_sc_n _ _ (by decide), g2 20 (by omega), a2.1 20 (by omega) (by omega)]; exact p3
      · rw [zk_sc_n _ _ (by decide), zk_sc_s, pk_us]; rfl
      · rw [zk_sc_s, pk_us]; rfl
      · intro c h1
        rw [f _ _ _ c (by omega) (by omega) (by omega), b3 c (by omega), zk_sc_n _ _ (by omega), g2 c (by omega), a2.1 c (by omega) (by omega)]
    · obtain ⟨I3, a1, a2, a3⟩ := hM I hI
      have this : ¬ nI c = (-1 : Int32) := opt_m1 (v := c) (by omega)
      have hr4 : repM T' (zk_sc I3 78 (fun j => if j < 38 then I3 79 j else I3 78 j)) 78 := repM_cp hT' a3 (fun j hj => by rw [zk_sc_s, if_pos hj])
      generalize hI4 : zk_sc I3 78 (fun j => if j < 38 then I3 79 j else I3 78 j) = I4 at hr4
      have f4 : ∀ q, q ≠ 78 → I4 q = I3 q := fun q hq => by rw [← hI4, zk_sc_n _ _ hq]
      have hr5 : repM T' (zk_sc I4 80 (upd (upd (I4 80) 0 0) 1 0)) 78 := hr4.fr (zk_sc_n _ _ (by decide))
      have ex : f_X8_library I = some (nI c, zk_sc (zk_sc (bgM T' (zk_sc I4 80 (upd (upd (I4 80) 0 0) 1 0)) 4) 83 (upd (upd (I3 83) 0 (nI 0)) 1 (nI 0))) 76 (upd (upd (upd (I3 76) 6 0) 10 0) 1 0)) := by
        unfold f_X8_library
        rw [a1, zbd2, if_neg this, x8_lib_l, hI4, zlt, zlt, sc_sc, zk_sc_s, x8_begin hT' hr5]
        have hb : ∀ q, q ≠ 80 → bgM T' (zk_sc I4 80 (upd (upd (I4 80) 0 0) 1 0)) 4 q = I4 q := fun q hq => by unfold bgM; rw [zk_sc_n _ _ hq, zk_sc_n _ _ hq]
        generalize bgM T' (zk_sc I4 80 (upd (upd (I4 80) 0 0) 1 0)) 4 = I9 at hb
        simp only [zlt, nar0, zk_sc_s, sc_sc, zk_sc_n _ _ (show ¬ 83 = 76 by decide), zk_sc_n _ _ (show ¬ 76 = 83 by decide), hb 76 (by decide), hb 83 (by decide), f4 76 (by decide), f4 83 (by decide)]
        refine congrArg (fun J : zk_I => some (nI c, J)) ?_
        funext q
        by_cases h1 : q = 76
        · subst h1; rw [zk_sc_s, zk_sc_s]
        · rw [zk_sc_n _ _ h1, zk_sc_n _ _ h1]
          by_cases h2 : q = 83
          · subst h2; rw [zk_sc_s, zk_sc_s]
          · rw [zk_sc_n _ _ h2, zk_sc_n _ _ h2, zk_sc_n _ _ h1]
      have fb : ∀ g h q, q ≠ 83 → q ≠ 76 → zk_sc (zk_sc (bgM T' (zk_sc I4 80 (upd (upd (I4 80) 0 0) 1 0)) 4) 83 g) 76 h q = bgM T' (zk_sc I4 80 (upd (upd (I4 80) 0 0) 1 0)) 4 q := fun g h q h1 h2 => by rw [zk_sc_n _ _ h2, zk_sc_n _ _ h1]
      have fo : ∀ q, q ≠ 80 → bgM T' (zk_sc I4 80 (upd (upd (I4 80) 0 0) 1 0)) 4 q = I4 q := fun q hq => by unfold bgM; rw [zk_sc_n _ _ hq, zk_sc_n _ _ hq]
      refine ⟨_, ex, ⟨⟨?_, fun j hj => absurd hj (Nat.not_lt_zero _)⟩, hr4.fr ?_, ⟨?_, ?_, fun b hb => ?_⟩, ⟨?_, fun j hj => absurd hj (Nat.not_lt_zero _)⟩, fun k hk => ⟨fun _ => ?_, fun D hD => by cases hD⟩, ⟨?_, fun j hj => absurd hj (Nat.not_lt_zero _)⟩⟩, ?_⟩
      · rw [zk_sc_s, pk_us]; rfl
      · rw [fb _ _ 78 (by decide) (by decide), fo 78 (by decide)]
      · rw [fb _ _ 80 (by decide) (by decide)]
        unfold bgM
        rw [zk_sc_s, if_neg (by omega), if_neg (by omega), if_neg (by omega), zk_sc_s, pk_un (by decide), pk_us]
        rfl
      · rw [fb _ _ 80 (by decide) (by decide)]
        unfold bgM
        rw [zk_sc_s, if_neg (by omega), if_neg (by omega), if_neg (by omega), zk_sc_s, pk_us]
        exact (congrArg nI (newD_nm hT' _ (Nat.le_refl _))).symm
      · have hb : b < nbT T' := hb
        rw [fb _ _ 80 (by decide) (by decide)]
        unfold bgM
        simp only [Nat.zero_add]
        rw [zk_sc_s, if_pos (show 2 ≤ 2 + b ∧ 2 + b < 2 + 4 by omega), if_neg (show ¬ (2 ≤ 6 + b ∧ 6 + b < 2 + 4) by omega), if_pos (show 6 ≤ 6 + b ∧ 6 + b < 6 + 4 by omega), if_neg (show ¬ (2 ≤ 10 + b ∧ 10 + b < 2 + 4) by omega), if_neg (show ¬ (6 ≤ 10 + b ∧ 10 + b < 6 + 4) by omega), if_pos (show 10 ≤ 10 + b ∧ 10 + b < 10 + 4 by omega), show 6 + b - 6 = b by omega, if_pos hb, zk_sc_n _ _ (by decide), show 32 + (2 + b) = 34 + b by omega]
        exact ⟨hr4.2.2.2 b hb, rfl, rfl⟩
      · rw [zk_sc_s, pk_un (by decide), pk_un (by decide), pk_us]; rfl
      · rw [zk_sc_n _ _ (by decide), zk_sc_s]
        have : k = 0 ∨ k = 1 := by omega
        rcases this with h | h <;> subst h
        · rw [pk_un (by decide), pk_us]
        · rw [pk_us]
      · rw [zk_sc_s, pk_un (by decide), pk_us]; rfl
      · intro c h1
        rw [fb _ _ c (by omega) (by omega), fo c (by omega), f4 c (by omega), a2.1 c (by omega) (by omega)]

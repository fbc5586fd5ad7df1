theorem x_kind {x : TX} {p e : Nat} {I : zk_I} (hx : wfX x) (hc : atC x p e I) (he : e ≤ x.1) (hp : p ≤ e) : f_X0_kindOfWord I = some (if isW x p e 0 then 0 else if isW x p e 1 then 1 else if isW x p e 2 then 2 else if isW x p e 3 then 3 else -1) := by
  unfold f_X0_kindOfWord
  rw [x_tokenIs hx hc he hp (by decide), zbd1, x_tokenIs hx hc he hp (by decide), zbd1, x_tokenIs hx hc he hp (by decide), zbd1, x_tokenIs hx hc he hp (by decide), zbd1]
  cases isW x p e 0 <;> cases isW x p e 1 <;> cases isW x p e 2 <;> cases isW x p e 3 <;> rfl
def clA (I : zk_I) (w : Nat → Bool) : Option (Int32 × zk_I) :=
  if w 0 then thru (f_X0_doReader I 0) else if w 1 then thru (f_X0_doReader I 1) else if w 2 then thru (f_X0_doReader I 2) else if w 3 then thru (f_X0_doReader I 3) else
  if w 4 then thru (f_X0_doFeud I) else if w 5 then thru (f_X0_doMove I) else if w 6 then thru (f_X0_doBook I) else
  if w 7 then zk_bd1 (f_X6_makePeace I 10) (fun (I26 : zk_I) => zk_bd1 (f_X5_goToNextToken I26) (fun (I19 : zk_I) => some ((1 : Int32), I19))) else
  if w 8 then zk_bd1 (f_X5_goToNextToken (f_X6_clear I 10)) (fun (I19 : zk_I) => some ((1 : Int32), I19)) else some (0, I)
theorem thru_eq (a : Option (Int32 × zk_I)) : zk_bd2 a (fun r I1 => zk_ck (zk_01 r) (some (r, I1))) = thru a := Eq.trans (Eq.refl (zk_bd2 a (fun r I1 => zk_ck (zk_01 r) (some (r, I1))))) (Eq.refl (thru a))
theorem q01 {α : Type} (b : Bool) (A B : α) : (if nI (if b then 1 else 0) = (0 : Int32) then A else B) = if b then B else A := by
  cases b
  · rw [if_pos (show nI (if false = true then 1 else 0) = (0 : Int32) from rfl), if_neg (by decide)]
  · rw [if_neg (show ¬ nI (if true = true then 1 else 0) = (0 : Int32) by decide), if_pos rfl]
theorem kd5 {α : Type} (a b c d : Bool) (A : α) (F : Int32 → α) : (if (if a then (0 : Int32) else if b then 1 else if c then 2 else if d then 3 else -1) = -1 then A else F (if a then (0 : Int32) else if b then 1 else if c then 2 else if d then 3 else -1)) = if a then F 0 else if b then F 1 else if c then F 2 else if d then F 3 else A := by
  cases a <;> cases b <;> cases c <;> cases d <;> rfl
theorem x_clA {x : TX} {p e : Nat} {I : zk_I} (hx : wfX x) (hc : atC x p e I) (he : e ≤ x.1) (hp : p ≤ e) : f_X0_doClause I = clA I (fun k => isW x p e k) := by
  unfold f_X0_doClause clA
  rw [x_kind hx hc he hp, zbd1]
  simp only [x_tokenIs hx hc he hp (show 4 < 10 by decide), x_tokenIs hx hc he hp (show 5 < 10 by decide), x_tokenIs hx hc he hp (show 6 < 10 by decide), x_tokenIs hx hc he hp (show 7 < 10 by decide), x_tokenIs hx hc he hp (show 8 < 10 by decide), zbd1, zjp1, zlt, thru_eq, q01]
  exact kd5 _ _ _ _ _ (fun r => thru (f_X0_doReader I r))
def mA (I : zk_I) (w : Nat → Bool) : Option (Int32 × zk_I) :=
  if w 8 then zk_bd1 (f_X8_forgets I) (fun (I29 : zk_I) => some ((1 : Int32), I29)) else
  if w 0 then thru (f_X8_readsReader I 0) else if w 1 then thru (f_X8_readsReader I 1) else if w 2 then thru (f_X8_readsReader I 2) else if w 3 then thru (f_X8_readsReader I 3) else
  if w 4 then thru (f_X8_readsFeud I) else if w 5 then thru (f_X8_readsMove I) else if w 6 then thru (f_X8_readsBook I) else
  if w 7 then zk_bd1 (f_X8_peace I) (fun (I29 : zk_I) => some ((1 : Int32), I29)) else some (0, I)
theorem x8_mA {x : TX} {p e : Nat} {I : zk_I} (hx : wfX x) (hm : atM x p e I) (hp : p ≤ x.1) (hee : e = tE x p) : f_X8_readsClause I = mA I (fun k => isW x p e k) := by
  have W8 : f_X8_isWord I 108 105 98 114 97 114 121 0 0 = some (nI (if isW x p e 8 then 1 else 0)) := x8_isWord (k := 8) hx hm hp hee (by decide)
  have W0 : f_X8_isWord I 112 108 97 105 110 0 0 0 0 = some (nI (if isW x p e 0 then 1 else 0)) := x8_isWord (k := 0) hx hm hp hee (by decide)
  have W1 : f_X8_isWord I 102 108 97 116 116 101 114 101 114 = some (nI (if isW x p e 1 then 1 else 0)) := x8_isWord (k := 1) hx hm hp hee (by decide)
  have W2 : f_X8_isWord I 98 108 105 110 100 0 0 0 0 = some (nI (if isW x p e 2 then 1 else 0)) := x8_isWord (k := 2) hx hm hp hee (by decide)
  have W3 : f_X8_isWord I 115 117 108 107 101 114 0 0 0 = some (nI (if isW x p e 3 then 1 else 0)) := x8_isWord (k := 3) hx hm hp hee (by decide)
  have W4 : f_X8_isWord I 102 101 117 100 0 0 0 0 0 = some (nI (if isW x p e 4 then 1 else 0)) := x8_isWord (k := 4) hx hm hp hee (by decide)
  have W5 : f_X8_isWord I 109 111 118 101 0 0 0 0 0 = some (nI (if isW x p e 5 then 1 else 0)) := x8_isWord (k := 5) hx hm hp hee (by decide)
  have W6 : f_X8_isWord I 98 111 111 107 0 0 0 0 0 = some (nI (if isW x p e 6 then 1 else 0)) := x8_isWord (k := 6) hx hm hp hee (by decide)
  have W7 : f_X8_isWord I 112 101 97 99 101 0 0 0 0 = some (nI (if isW x p e 7 then 1 else 0)) := x8_isWord (k := 7) hx hm hp hee (by decide)
  unfold f_X8_readsClause mA
  simp only [W0, W1, W2, W3, W4, W5, W6, W7, W8, zbd1, thru_eq, q01]
theorem cl_clause {x : TX} {T : TD} {p e : Nat} (hx : wfX x) (hT : wfT T) (hp : p ≤ x.1) (hee : e = tE x p) : clS x T p e (fun I => f_X0_doClause I) (fun I => f_X8_readsClause I) := by
  have he : e ≤ x.1 := by rw [hee]; exact tE_le hp
  have hpe : p ≤ e := by rw [hee]; exact tE_ge
  have A : ∀ I, atC x p e I → f_X0_doClause I = clA I (fun k => isW x p e k) := fun I hc => x_clA hx hc he hpe
  have B : ∀ I, atM x p e I → f_X8_readsClause I = mA I (fun k => isW x p e k) := fun I hm => x8_mA hx hm hp hee
  by_cases hk : ∃ k, k < 9 ∧ isW x p e k = true
  · obtain ⟨k, hk, hw⟩ := hk
    have F : ∀ j, j < 10 → j ≠ k → isW x p e j = false := fun j hj hjk => isW_ne (by omega) hj hw (fun q => hjk q.symm)
    have : k = 0 ∨ k = 1 ∨ k = 2 ∨ k = 3 ∨ k = 4 ∨ k = 5 ∨ k = 6 ∨ k = 7 ∨ k = 8 := by omega
    rcases this with h | h | h | h | h | h | h | h | h <;> subst h
    · have A1 : ∀ I, atC x p e I → f_X0_doClause I = thru (f_X0_doReader I 0) := fun I hc => by
        rw [A I hc]
        unfold clA
        rw [if_pos hw]
      have B1 : ∀ I, atM x p e I → f_X8_readsClause I = thru (f_X8_readsReader I 0) := fun I hm => by
        rw [B I hm]
        unfold mA
        rw [if_neg (fun q => Bool.false_ne_true ((F 8 (by decide) (by decide)).symm.trans q)), if_pos hw]
      exact (cl_reader (k := 0) hx hT hp hee (by decide)).map (fun I hc => Or.inr (A1 I hc)) (fun I hm => Or.inr (B1 I hm))
    · have A1 : ∀ I, atC x p e I → f_X0_doClause I = thru (f_X0_doReader I 1) := fun I hc => by
        rw [A I hc]
        unfold clA
        rw [if_neg (fun q => Bool.false_ne_true ((F 0 (by decide) (by decide)).symm.trans q)), if_pos hw]
      have B1 : ∀ I, atM x p e I → f_X8_readsClause I = thru (f_X8_readsReader I 1) := fun I hm => by
        rw [B I hm]
        unfold mA
        rw [if_neg (fun q => Bool.false_ne_true ((F 8 (by decide) (by decide)).symm.trans q)), if_neg (fun q => Bool.false_ne_true ((F 0 (by decide) (by decide)).symm.trans q)), if_pos hw]
      exact (cl_reader (k := 1) hx hT hp hee (by decide)).map (fun I hc => Or.inr (A1 I hc)) (fun I hm => Or.inr (B1 I hm))
    · have A1 : ∀ I, atC x p e I → f_X0_doClause I = thru (f_X0_doReader I 2) := fun I hc => by
        rw [A I hc]
        unfold clA
        rw [if_neg (fun q => Bool.false_ne_true ((F 0 (by decide) (by decide)).symm.trans q)), if_neg (fun q => Bool.false_ne_true ((F 1 (by decide) (by decide)).symm.trans q)), if_pos hw]
      have B1 : ∀ I, atM x p e I → f_X8_readsClause I = thru (f_X8_readsReader I 2) := fun I hm => by
        rw [B I hm]
        unfold mA
        rw [if_neg (fun q => Bool.false_ne_true ((F 8 (by decide) (by decide)).symm.trans q)), if_neg (fun q => Bool.false_ne_true ((F 0 (by decide) (by decide)).symm.trans q)), if_neg (fun q => Bool.false_ne_true ((F 1 (by decide) (by decide)).symm.trans q)), if_pos hw]
      exact (cl_reader (k := 2) hx hT hp hee (by decide)).map (fun I hc => Or.inr (A1 I hc)) (fun I hm => Or.inr (B1 I hm))
    · have A1 : ∀ I, atC x p e I → f_X0_doClause I = thru (f_X0_doReader I 3) := fun I hc => by
        rw [A I hc]
        unfold clA
        rw [if_neg (fun q => Bool.false_ne_true ((F 0 (by decide) (by decide)).symm.trans q)), if_neg (fun q => Bool.false_ne_true ((F 1 (by decide) (by decide)).symm.trans q)), if_neg (fun q => Bool.false_ne_true ((F 2 (by decide) (by decide)).symm.trans q)), if_pos hw]
      have B1 : ∀ I, atM x p e I → f_X8_readsClause I = thru (f_X8_readsReader I 3) := fun I hm => by
        rw [B I hm]
        unfold mA
        rw [if_neg (fun q => Bool.false_ne_true ((F 8 (by decide) (by decide)).symm.trans q)), if_neg (fun q => Bool.false_ne_true ((F 0 (by decide) (by decide)).symm.trans q)), if_neg (fun q => Bool.false_ne_true ((F 1 (by decide) (by decide)).symm.trans q)), if_neg (fun q => Bool.false_ne_true ((F 2 (by decide) (by decide)).symm.trans q)), if_pos hw]
      exact (cl_reader (k := 3) hx hT hp hee (by decide)).map (fun I hc => Or.inr (A1 I hc)) (fun I hm => Or.inr (B1 I hm))
    · have A1 : ∀ I, atC x p e I → f_X0_doClause I = thru (f_X0_doFeud I) := fun I hc => by
        rw [A I hc]
        unfold clA
        rw [if_neg (fun q => Bool.false_ne_true ((F 0 (by decide) (by decide)).symm.trans q)), if_neg (fun q => Bool.false_ne_true ((F 1 (by decide) (by decide)).symm.trans q)), if_neg (fun q => Bool.false_ne_true ((F 2 (by decide) (by decide)).symm.trans q)), if_neg (fun q => Bool.false_ne_true ((F 3 (by decide) (by decide)).symm.trans q)), if_pos hw]
      have B1 : ∀ I, atM x p e I → f_X8_readsClause I = thru (f_X8_readsFeud I) := fun I hm => by
        rw [B I hm]
        unfold mA
        rw [if_neg (fun q => Bool.false_ne_true ((F 8 (by decide) (by decide)).symm.trans q)), if_neg (fun q => Bool.false_ne_true ((F 0 (by decide) (by decide)).symm.trans q)), if_neg (fun q => Bool.false_ne_true ((F 1 (by decide) (by decide)).symm.trans q)), if_neg (fun q => Bool.false_ne_true ((F 2 (by decide) (by decide)).symm.trans q)), if_neg (fun q => Bool.false_ne_true ((F 3 (by decide) (by decide)).symm.trans q)), if_pos hw]
      exact (cl_feud hx hT hp hee).map (fun I hc => Or.inr (A1 I hc)) (fun I hm => Or.inr (B1 I hm))
    · have A1 : ∀ I, atC x p e I → f_X0_doClause I = thru (f_X0_doMove I) := fun I hc => by
        rw [A I hc]
        unfold clA
        rw [if_neg (fun q => Bool.false_ne_true ((F 0 (by decide) (by decide)).symm.trans q)), if_neg (fun q => Bool.false_ne_true ((F 1 (by decide) (by decide)).symm.trans q)), if_neg (fun q => Bool.false_ne_true ((F 2 (by decide) (by decide)).symm.trans q)), if_neg (fun q => Bool.false_ne_true ((F 3 (by decide) (by decide)).symm.trans q)), if_neg (fun q => Bool.false_ne_true ((F 4 (by decide) (by decide)).symm.trans q)), if_pos hw]
      have B1 : ∀ I, atM x p e I → f_X8_readsClause I = thru (f_X8_readsMove I) := fun I hm => by
        rw [B I hm]
        unfold mA
        rw [if_neg (fun q => Bool.false_ne_true ((F 8 (by decide) (by decide)).symm.trans q)), if_neg (fun q => Bool.false_ne_true ((F 0 (by decide) (by decide)).symm.trans q)), if_neg (fun q => Bool.false_ne_true ((F 1 (by decide) (by decide)).symm.trans q)), if_neg (fun q => Bool.false_ne_true ((F 2 (by decide) (by decide)).symm.trans q)), if_neg (fun q => Bool.false_ne_true ((F 3 (by decide) (by decide)).symm.trans q)), if_neg (fun q => Bool.false_ne_true ((F 4 (by decide) (by decide)).symm.trans q)), if_pos hw]
      exact (cl_move hx hT hp hee).map (fun I hc => Or.inr (A1 I hc)) (fun I hm => Or.inr (B1 I hm))
    · have A1 : ∀ I, atC x p e I → f_X0_doClause I = thru (f_X0_doBook I) := fun I hc => by
        rw [A I hc]
        unfold clA
        rw [if_neg (fun q => Bool.false_ne_true ((F 0 (by decide) (by decide)).symm.trans q)), if_neg (fun q => Bool.false_ne_true ((F 1 (by decide) (by decide)).symm.trans q)), if_neg (fun q => Bool.false_ne_true ((F 2 (by decide) (by decide)).symm.trans q)), if_neg (fun q => Bool.false_ne_true ((F 3 (by decide) (by decide)).symm.trans q)), if_neg (fun q => Bool.false_ne_true ((F 4 (by decide) (by decide)).symm.trans q)), if_neg (fun q => Bool.false_ne_true ((F 5 (by decide) (by decide)).symm.trans q)), if_pos hw]
      have B1 : ∀ I, atM x p e I → f_X8_readsClause I = thru (f_X8_readsBook I) := fun I hm => by
        rw [B I hm]
        unfold mA
        rw [if_neg (fun q => Bool.false_ne_true ((F 8 (by decide) (by decide)).symm.trans q)), if_neg (fun q => Bool.false_ne_true ((F 0 (by decide) (by decide)).symm.trans q)), if_neg (fun q => Bool.false_ne_true ((F 1 (by decide) (by decide)).symm.trans q)), if_neg (fun q => Bool.false_ne_true ((F 2 (by decide) (by decide)).symm.trans q)), if_neg (fun q => Bool.false_ne_true ((F 3 (by decide) (by decide)).symm.trans q)), if_neg (fun q => Bool.false_ne_true ((F 4 (by decide) (by decide)).symm.trans q)), if_neg (fun q => Bool.false_ne_true ((F 5 (by decide) (by decide)).symm.trans q)), if_pos hw]
      exact (cl_book hx hT hp hee).map (fun I hc => Or.inr (A1 I hc)) (fun I hm => Or.inr (B1 I hm))
    · have A1 : ∀ I, atC x p e I → f_X0_doClause I = zk_bd1 (f_X6_makePeace I 10) (fun (I26 : zk_I) => zk_bd1 (f_X5_goToNextToken I26) (fun (I19 : zk_I) => some ((1 : Int32), I19))) := fun I hc => by
        rw [A I hc]
        unfold clA
        rw [if_neg (fun q => Bool.false_ne_true ((F 0 (by decide) (by decide)).symm.trans q)), if_neg (fun q => Bool.false_ne_true ((F 1 (by decide) (by decide)).symm.trans q)), if_neg (fun q => Bool.false_ne_true ((F 2 (by decide) (by decide)).symm.trans q)), if_neg (fun q => Bool.false_ne_true ((F 3 (by decide) (by decide)).symm.trans q)), if_neg (fun q => Bool.false_ne_true ((F 4 (by decide) (by decide)).symm.trans q)), if_neg (fun q => Bool.false_ne_true ((F 5 (by decide) (by decide)).symm.trans q)), if_neg (fun q => Bool.false_ne_true ((F 6 (by decide) (by decide)).symm.trans q)), if_pos hw]
      have B1 : ∀ I, atM x p e I → f_X8_readsClause I = zk_bd1 (f_X8_peace I) (fun (I29 : zk_I) => some ((1 : Int32), I29)) := fun I hm => by
        rw [B I hm]
        unfold mA
        rw [if_neg (fun q => Bool.false_ne_true ((F 8 (by decide) (by decide)).symm.trans q)), if_neg (fun q => Bool.false_ne_true ((F 0 (by decide) (by decide)).symm.trans q)), if_neg (fun q => Bool.false_ne_true ((F 1 (by decide) (by decide)).symm.trans q)), if_neg (fun q => Bool.false_ne_true ((F 2 (by decide) (by decide)).symm.trans q)), if_neg (fun q => Bool.false_ne_true ((F 3 (by decide) (by decide)).symm.trans q)), if_neg (fun q => Bool.false_ne_true ((F 4 (by decide) (by decide)).symm.trans q)), if_neg (fun q => Bool.false_ne_true ((F 5 (by decide) (by decide)).symm.trans q)), if_neg (fun q => Bool.false_ne_true ((F 6 (by decide) (by decide)).symm.trans q)), if_pos hw]
      exact (cl_peace hx hT hp hee).map (fun I hc => Or.inl (A1 I hc)) (fun I hm => Or.inl (B1 I hm))
    · have A1 : ∀ I, atC x p e I → f_X0_doClause I = zk_bd1 (f_X5_goToNextToken (f_X6_clear I 10)) (fun (I19 : zk_I) => some ((1 : Int32), I19)) := fun I hc => by
        rw [A I hc]
        unfold clA
        rw [if_neg (fun q => Bool.false_ne_true ((F 0 (by decide) (by decide)).symm.trans q)), if_neg (fun q => Bool.false_ne_true ((F 1 (by decide) (by decide)).symm.trans q)), if_neg (fun q => Bool.false_ne_true ((F 2 (by decide) (by decide)).symm.trans q)), if_neg (fun q => Bool.false_ne_true ((F 3 (by decide) (by decide)).symm.trans q)), if_neg (fun q => Bool.false_ne_true ((F 4 (by decide) (by decide)).symm.trans q)), if_neg (fun q => Bool.false_ne_true ((F 5 (by decide) (by decide)).symm.trans q)), if_neg (fun q => Bool.false_ne_true ((F 6 (by decide) (by decide)).symm.trans q)), if_neg (fun q => Bool.false_ne_true ((F 7 (by decide) (by decide)).symm.trans q)), if_pos hw]
      have B1 : ∀ I, atM x p e I → f_X8_readsClause I = zk_bd1 (f_X8_forgets I) (fun (I29 : zk_I) => some ((1 : Int32), I29)) := fun I hm => by
        rw [B I hm]
        unfold mA
        rw [if_pos hw]
      exact (cl_library hx hT hp hee).map (fun I hc => Or.inl (A1 I hc)) (fun I hm => Or.inl (B1 I hm))
  · have hno : ∀ k, k < 9 → isW x p e k = false := fun k h => by
      cases hb : isW x p e k
      · rfl
      · exact absurd ⟨k, h, hb⟩ hk
    refine Or.inl ⟨p, hp, fun I hc hr => ⟨I, ?_, frC.rf, hc.2.1⟩, fun I hm hr => ⟨I, ?_, frM.rf, hm.2.1⟩⟩
    · refine (A I hc).trans ?_
      unfold clA
      simp only [hno 0 (by decide), hno 1 (by decide), hno 2 (by decide), hno 3 (by decide), hno 4 (by decide), hno 5 (by decide), hno 6 (by decide), hno 7 (by decide), hno 8 (by decide), Bool.false_eq_true, if_false]
    · refine (B I hm).trans ?_
      unfold mA
      simp only [hno 0 (by decide), hno 1 (by decide), hno 2 (by decide), hno 3 (by decide), hno 4 (by decide), hno 5 (by decide), hno 6 (by decide), hno 7 (by decide), hno 8 (by decide), Bool.false_eq_true, if_false]

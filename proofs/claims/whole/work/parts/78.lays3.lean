/-! all that is foretold of a state -/
def RV7 (T : TD) (dy h s w : Nat) : Q7 := (lgV T dy h s w, wyV T dy h s w, alV T dy h s w, shV T dy h s w, cnV T dy h s w, fmV T dy h s w, wnV T dy h s w)
def baQ (c : Nat) : Q7 := (0, if c = 0 then 1 else 0, 0, if c = 0 then 0 else 99, 0, 0, 0)
theorem foR_zero {β : Type} {g : Nat → β → β} {b : β} : ∀ n, foR (fun x a => if (0 : Nat).testBit x then g x a else a) b n = b
  | 0 => rfl
  | n + 1 => by rw [foR, Nat.zero_testBit, if_neg (by decide), foR_zero n]
theorem foR_8 {T : TD} (hT : wfT T) {β : Type} {g : Nat → β → β} {b : β} {dy h s w : Nat} : foR (fun x a => if (chN T dy h s w).testBit x then g x a else a) b 8 = foR (fun x a => if (chN T dy h s w).testBit x then g x a else a) b (nrT T) := by
  have h8 := hT.1
  have := foR_out (f := fun x a => if (chN T dy h s w).testBit x then g x a else a) (b := b) (n := nrT T) (fun i a hi => if_neg (fun q => by have := (chN_bit hT q).1; omega)) (8 - nrT T)
  rw [show nrT T + (8 - nrT T) = 8 by omega] at this
  exact this
theorem q7_L (c : Nat) (N : Nat → Q7) (rk : Nat → Nat) (b : Q7) (n : Nat) : (q7F c N rk b n).1 = foR (fun x a => if c.testBit x then (if a < (N x).1 + 1 then (N x).1 + 1 else a) else a) b.1 n :=
  foR_proj (π := fun (q : Q7) => q.1) (fun x q => by cases c.testBit x <;> rfl) n
theorem q7_S (c : Nat) (N : Nat → Q7) (rk : Nat → Nat) (b : Q7) (n : Nat) : (q7F c N rk b n).2.2.2.1 = foR (fun x a => if c.testBit x then (if (N x).2.2.2.1 + 1 < a then (N x).2.2.2.1 + 1 else a) else a) b.2.2.2.1 n :=
  foR_proj (π := fun (q : Q7) => q.2.2.2.1) (fun x q => by cases c.testBit x <;> rfl) n
theorem q7_C (c : Nat) (N : Nat → Q7) (rk : Nat → Nat) (b : Q7) (n : Nat) : (q7F c N rk b n).2.2.2.2.1 = foR (fun x a => if c.testBit x then a ||| ((N x).2.2.2.2.1 ||| 2 ^ x) else a) b.2.2.2.2.1 n :=
  foR_proj (π := fun (q : Q7) => q.2.2.2.2.1) (fun x q => by cases c.testBit x <;> rfl) n
theorem q7_F (c : Nat) (N : Nat → Q7) (rk : Nat → Nat) (b : Q7) (n : Nat) : (q7F c N rk b n).2.2.2.2.2.1 = foR (fun x a => if c.testBit x then (if a < (N x).2.2.2.2.2.1 + rk x then (N x).2.2.2.2.2.1 + rk x else a) else a) b.2.2.2.2.2.1 n :=
  foR_proj (π := fun (q : Q7) => q.2.2.2.2.2.1) (fun x q => by cases c.testBit x <;> rfl) n
theorem q7_W (c : Nat) (N : Nat → Q7) (rk : Nat → Nat) (b : Q7) (n : Nat) : (q7F c N rk b n).2.2.2.2.2.2 = foR (fun x a => if c.testBit x then (if a < 1 - (N x).2.2.2.2.2.2 then 1 - (N x).2.2.2.2.2.2 else a) else a) b.2.2.2.2.2.2 n :=
  foR_proj (π := fun (q : Q7) => q.2.2.2.2.2.2) (fun x q => by cases c.testBit x <;> rfl) n
theorem q7_R (c : Nat) (N : Nat → Q7) (rk : Nat → Nat) (b : Q7) (h0 : b.1 = 0) (n : Nat) : ((q7F c N rk b n).1, (q7F c N rk b n).2.1) = mx2 c (fun x => (N x).1) (fun x => (N x).2.1) (fun u v => u + v) b.2.1 n := by
  unfold mx2
  rw [← h0]
  exact foR_proj (π := fun (q : Q7) => (q.1, q.2.1)) (fun x q => by cases c.testBit x <;> rfl) n
theorem q7_A (c : Nat) (N : Nat → Q7) (rk : Nat → Nat) (b : Q7) (h0 : b.1 = 0) (n : Nat) : ((q7F c N rk b n).1, (q7F c N rk b n).2.2.1) = mx2 c (fun x => (N x).1) (fun x => (N x).2.2.1 ||| 2 ^ x) (fun u v => u &&& v) b.2.2.1 n := by
  unfold mx2
  rw [← h0]
  exact foR_proj (π := fun (q : Q7) => (q.1, q.2.2.1)) (fun x q => by cases c.testBit x <;> rfl) n
theorem mx2_fin {T : TD} (hT : wfT T) {dy h s w : Nat} (hs : s < 256) (th : Nat → Nat) (jn : Nat → Nat → Nat) (b : Nat) : (mx2 (chN T dy h s w) (fun x => lgV T dy h (s ||| 2 ^ x) x) th jn b 8).2 = if chN T dy h s w = 0 then b else (jF (chLN T dy h s w) th jn 8).getD 0 := by
  obtain ⟨i1, i2⟩ := mx2_ok (chN T dy h s w) (fun x => lgV T dy h (s ||| 2 ^ x) x) th jn b 8 (by decide)
  have e1 := mx2_fst (chN T dy h s w) (fun x => lgV T dy h (s ||| 2 ^ x) x) th jn b 8
  have e2 : (mx2 (chN T dy h s w) (fun x => lgV T dy h (s ||| 2 ^ x) x) th jn b 8).1 = lgV T dy h s w := by
    rw [e1, lgV_rec hT hs]
    rfl
  rw [e2] at i1 i2
  by_cases h0 : chN T dy h s w = 0
  · rw [if_pos h0]
    rcases i2 with i2 | i2
    · exact i2.2
    · have : jF (seN (chN T dy h s w) (fun x => lgV T dy h (s ||| 2 ^ x) x) (lgV T dy h s w)) th jn 8 = none := jF_none 8 (fun x hx => by rw [seN_bit hx, h0, Nat.zero_testBit, Bool.false_and])
      rw [this] at i2
      cases i2
  · rw [if_neg h0]
    obtain ⟨x, hx8, hx⟩ := bit_ex _ (chN_lt hT dy h s w) h0
    have := i1 x hx8 hx
    rcases i2 with i2 | i2
    · omega
    · have e3 : seN (chN T dy h s w) (fun x => lgV T dy h (s ||| 2 ^ x) x) (lgV T dy h s w) = chLN T dy h s w := rfl
      rw [e3] at i2
      rw [i2]
      rfl
theorem jF_getD {T : TD} (hT : wfT T) {dy h s w : Nat} (hs : s < 256) (th : Nat → Nat) (jn : Nat → Nat → Nat) (d : Nat) : (if chN T dy h s w = 0 then d else (jF (chLN T dy h s w) th jn 8).getD 0) = (jF (chLN T dy h s w) th jn 8).getD d := by
  by_cases h0 : chN T dy h s w = 0
  · rw [if_pos h0, jF_none 8 (fun x hx => ?_)]
    · rfl
    · cases hb : (chLN T dy h s w).testBit x
      · rfl
      · have := ((chLN_bit hT).mp hb).1
        rw [h0, Nat.zero_testBit] at this
        cases this
  · rw [if_neg h0]
    obtain ⟨i1, i2⟩ := mx2_ok (chN T dy h s w) (fun x => lgV T dy h (s ||| 2 ^ x) x) th jn d 8 (by decide)
    have e1 := mx2_fst (chN T dy h s w) (fun x => lgV T dy h (s ||| 2 ^ x) x) th jn d 8
    have e2 : (mx2 (chN T dy h s w) (fun x => lgV T dy h (s ||| 2 ^ x) x) th jn d 8).1 = lgV T dy h s w := by
      rw [e1, lgV_rec hT hs]
      rfl
    rw [e2] at i1 i2
    obtain ⟨x, hx8, hx⟩ := bit_ex _ (chN_lt hT dy h s w) h0
    have := i1 x hx8 hx
    rcases i2 with i2 | i2
    · omega
    · have e3 : seN (chN T dy h s w) (fun x => lgV T dy h (s ||| 2 ^ x) x) (lgV T dy h s w) = chLN T dy h s w := rfl
      rw [e3] at i2
      rw [i2]
      rfl
theorem RV7_rec {T : TD} (hT : wfT T) {dy h s w : Nat} (hs : s < 256) : q7F (chN T dy h s w) (fun x => RV7 T dy h (s ||| 2 ^ x) x) (rkT T) (baQ (chN T dy h s w)) 8 = RV7 T dy h s w := by
  have eL := q7_L (chN T dy h s w) (fun x => RV7 T dy h (s ||| 2 ^ x) x) (rkT T) (baQ (chN T dy h s w)) 8
  have eS := q7_S (chN T dy h s w) (fun x => RV7 T dy h (s ||| 2 ^ x) x) (rkT T) (baQ (chN T dy h s w)) 8
  have eC := q7_C (chN T dy h s w) (fun x => RV7 T dy h (s ||| 2 ^ x) x) (rkT T) (baQ (chN T dy h s w)) 8
  have eF := q7_F (chN T dy h s w) (fun x => RV7 T dy h (s ||| 2 ^ x) x) (rkT T) (baQ (chN T dy h s w)) 8
  have eW := q7_W (chN T dy h s w) (fun x => RV7 T dy h (s ||| 2 ^ x) x) (rkT T) (baQ (chN T dy h s w)) 8
  have eR := congrArg Prod.snd (q7_R (chN T dy h s w) (fun x => RV7 T dy h (s ||| 2 ^ x) x) (rkT T) (baQ (chN T dy h s w)) rfl 8)
  have eA := congrArg Prod.snd (q7_A (chN T dy h s w) (fun x => RV7 T dy h (s ||| 2 ^ x) x) (rkT T) (baQ (chN T dy h s w)) rfl 8)
  generalize q7F (chN T dy h s w) (fun x => RV7 T dy h (s ||| 2 ^ x) x) (rkT T) (baQ (chN T dy h s w)) 8 = q at eL eS eC eF eW eR eA
  obtain ⟨q1, q2, q3, q4, q5, q6, q7⟩ := q
  have hL : q1 = lgV T dy h s w := by
    rw [lgV_rec hT hs]
    exact eL
  have hR : q2 = wyV T dy h s w := by
    have e := mx2_fin hT (dy := dy) (h := h) (w := w) hs (fun x => wyV T dy h (s ||| 2 ^ x) x) (fun u v => u + v) (if chN T dy h s w = 0 then 1 else 0)
    have e' : q2 = (mx2 (chN T dy h s w) (fun x => lgV T dy h (s ||| 2 ^ x) x) (fun x => wyV T dy h (s ||| 2 ^ x) x) (fun u v => u + v) (if chN T dy h s w = 0 then 1 else 0) 8).2 := eR
    rw [e', e, wyV_rec hT hs]
    have g := jF_getD hT (dy := dy) (h := h) (w := w) hs (fun x => wyV T dy h (s ||| 2 ^ x) x) (fun u v => u + v) 1
    unfold stY
    rw [← g]
    by_cases h0 : chN T dy h s w = 0
    · rw [if_pos h0, if_pos h0, if_pos h0]
    · rw [if_neg h0, if_neg h0]
  have hA : q3 = alV T dy h s w := by
    have e := mx2_fin hT (dy := dy) (h := h) (w := w) hs (fun x => alV T dy h (s ||| 2 ^ x) x ||| 2 ^ x) (fun u v => u &&& v) 0
    have e' : q3 = (mx2 (chN T dy h s w) (fun x => lgV T dy h (s ||| 2 ^ x) x) (fun x => alV T dy h (s ||| 2 ^ x) x ||| 2 ^ x) (fun u v => u &&& v) 0 8).2 := eA
    rw [e', e, alV_rec hT hs]
    exact jF_getD hT hs _ _ 0
  have hS : q4 = shV T dy h s w := by
    rw [shV_rec hT hs]
    unfold stH
    have e' : q4 = foR (fun x a => if (chN T dy h s w).testBit x then (if shV T dy h (s ||| 2 ^ x) x + 1 < a then shV T dy h (s ||| 2 ^ x) x + 1 else a) else a) (if chN T dy h s w = 0 then 0 else 99) 8 := eS
    rw [e', foR_8 hT]
    by_cases h0 : chN T dy h s w = 0
    · rw [if_pos h0, if_pos h0, h0]
      exact foR_zero _
    · rw [if_neg h0, if_neg h0]
  have hC : q5 = cnV T dy h s w := by
    rw [cnV_rec hT hs]
    exact eC
  have hF : q6 = fmV T dy h s w := by
    rw [fmV_rec hT hs]
    unfold stF
    rw [← foR_8 hT]
    exact eF
  have hW : q7 = wnV T dy h s w := by
    rw [wnV_rec hT hs]
    unfold stW
    rw [← foR_8 hT]
    exact eW
  rw [hL, hR, hA, hS, hC, hF, hW]
  rfl
def st1 (I : zk_I) (c p : Nat) (v : Int32) : zk_I := fun a j => if a = c then (if j = p then v else I a j) else I a j
theorem st1_eq (I : zk_I) (c p : Nat) (v : Int32) : zk_sc I c (upd (I c) p v) = st1 I c p v := by
  funext a j
  unfold st1
  by_cases ha : a = c
  · subst ha
    rw [zk_sc_s, if_pos rfl]
    by_cases hj : j = p
    · subst hj; rw [pk_us, if_pos rfl]
    · rw [pk_un hj, if_neg hj]
  · rw [zk_sc_n _ _ ha, if_neg ha]
theorem st1_all (I : zk_I) (p R S : Nat) : st1 (st1 (st1 (st1 (st1 (st1 (st1 I 85 p 0) 86 p (nI R)) 87 p 0) 88 p (nI S)) 89 p 0) 90 p 0) 91 p (nI 0) = lyI I p 0 R 0 S 0 0 0 := by
  funext c j
  by_cases hj : j = p
  · subst hj
    unfold lyI st1
    by_cases h1 : c = 85
    · subst h1; simp; rfl
    · by_cases h2 : c = 86
      · subst h2; simp
      · by_cases h3 : c = 87
        · subst h3; simp; rfl
        · by_cases h4 : c = 88
          · subst h4; simp
          · by_cases h5 : c = 89
            · subst h5; simp; rfl
            · by_cases h6 : c = 90
              · subst h6; simp; rfl
              · by_cases h7 : c = 91
                · subst h7; simp
                · simp [h1, h2, h3, h4, h5, h6, h7]
  · rw [ly_n _ _ _ _ _ _ _ _ _ hj]
    unfold st1
    simp [hj]
theorem x8_lays {T : TD} {D : DD} {I : zk_I} {b s w : Nat} (hT : wfT T) (hD : wfD T D) (hr : repM T I 78) (hd : repDM T D I 80 0) (hb : b < nbT T) (hs : s < 2 ^ nrT T) (hsub : s &&& haD D b = haD D b) (hw : w < nrT T) (hbe : ∀ x, (chN T (dyD D) (haD D b) s w).testBit x = true → atQ I (8 * (s ||| 2 ^ x) + x) (RV7 T (dyD D) (haD D b) (s ||| 2 ^ x) x)) : f_X8_lays I (nI b) (nI s) (nI w) = some (lyQ I (8 * s + w) (RV7 T (dyD D) (haD D b) s w)) := by
  have hnr := hT.1
  have hpw := pow_le8 hnr
  have hc := chN_lt hT (dyD D) (haD D b) s w
  have hp : 8 * s + w < 2048 := by omega
  have e8 : (8 : Int32) * nI s + nI w = nI (8 * s + w) := by rw [xlit 8, pk_mul, nI_add]
  have kp : (nI (8 * s + w)).toNatClampNeg = 8 * s + w := nI_clamp (by omega)
  have hz : ∀ {α : Type} (X : Option α), zk_ck (zk_in (nI (8 * s + w)) 2048) X = X := fun X => zck (zin hp (by decide)) X
  have hz0 : ¬ chN T (dyD D) (haD D b) s w = 0 → ¬ nI (chN T (dyD D) (haD D b) s w) = (0 : Int32) := fun h0 q => h0 (xl_inj (b := 0) (by omega) (by decide) q)
  have i1 : (if nI (chN T (dyD D) (haD D b) s w) = 0 then (1 : Int32) else (0 : Int32)) = nI (if chN T (dyD D) (haD D b) s w = 0 then 1 else 0) := by
    by_cases h0 : chN T (dyD D) (haD D b) s w = 0
    · rw [h0]; rfl
    · rw [if_neg h0, if_neg (hz0 h0)]; rfl
  have i2 : (if nI (chN T (dyD D) (haD D b) s w) = 0 then (0 : Int32) else (99 : Int32)) = nI (if chN T (dyD D) (haD D b) s w = 0 then 0 else 99) := by
    by_cases h0 : chN T (dyD D) (haD D b) s w = 0
    · rw [h0]; rfl
    · rw [if_neg h0, if_neg (hz0 h0)]; rfl
  unfold f_X8_lays
  refine (zlt _ _).trans ?_
  rw [e8, x8_nexts hT hD hr hd hb hs hsub hw, zbd1, kp]
  refine (hz _).trans ?_
  refine (zlt _ _).trans ?_
  rw [st1_eq]
  refine (zlt _ _).trans ?_
  rw [i1]
  refine (hz _).trans ?_
  refine (zlt _ _).trans ?_
  rw [st1_eq]
  refine (hz _).trans ?_
  refine (zlt _ _).trans ?_
  rw [st1_eq]
  refine (zlt _ _).trans ?_
  rw [i2]
  refine (hz _).trans ?_
  refine (zlt _ _).trans ?_
  rw [st1_eq]
  refine (hz _).trans ?_
  refine (zlt _ _).trans ?_
  rw [st1_eq]
  refine (hz _).trans ?_
  refine (zlt _ _).trans ?_
  rw [st1_eq]
  refine (hz _).trans ?_
  refine (zlt _ _).trans ?_
  rw [st1_eq, nar0, st1_all]
  have key := x8_l95 (I := I) (p := 8 * s + w) (s := s) (may := chN T (dyD D) (haD D b) s w) (N := fun x => RV7 T (dyD D) (haD D b) (s ||| 2 ^ x) x) (rk := rkT T) (b := baQ (chN T (dyD D) (haD D b) s w)) (by omega) hp hc (fun x hx => ?_) (fun x => ⟨lgV_le _ _ _ _ _, shV_le hT _ _ _ _, Nat.le_trans (fmV_le hT _ _ _ _) (by decide), wnV_le _ _ _ _ _⟩) (fun x hx => (hT.2.2.1 x (chN_bit hT hx).1).2.1) ⟨Nat.zero_le _, ?_, Nat.zero_le _, Nat.zero_le _⟩ (fun (I94 : zk_I) => some I94)
  · rw [RV7_rec hT (by omega)] at key
    exact key
  · obtain ⟨h1, h2⟩ := chN_bit hT hx
    have := or_gt h2
    exact ⟨by omega, hbe x hx, (hr.2.2.1 x h1).2.1⟩
  · simp only [baQ]
    split <;> omega

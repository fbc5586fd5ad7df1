/-! the state of a library, as numbers, and how class and reference hold it -/
abbrev DD : Type := Nat × (Nat → Nat) × (Nat → Nat) × (Nat → Nat)
abbrev dyD (D : DD) : Nat := D.1
abbrev hoD (D : DD) : Nat → Nat := D.2.1
abbrev haD (D : DD) : Nat → Nat := D.2.2.1
abbrev whD (D : DD) : Nat → Nat := D.2.2.2
def wfD (T : TD) (D : DD) : Prop := dyD D ≤ 999 ∧ ∀ b, b < nbT T → hoD D b < nrT T ∧ haD D b < 2 ^ nrT T ∧ (haD D b).testBit (hoD D b) = true ∧ whD D b ≤ dyD D
def nmD (T : TD) (D : DD) : Nat → Nat
  | 0 => 0
  | b + 1 => nmD T D b + (pc (haD D b) - 1)
def repDC (T : TD) (D : DD) (I : zk_I) (d : Nat) : Prop := I d 0 = nI (dyD D) ∧ ∀ b, b < nbT T → I (d + 1) b = nI (hoD D b) ∧ I (d + 2) b = nI (haD D b) ∧ I (d + 3) b = nI (whD D b)
def repDM (T : TD) (D : DD) (I : zk_I) (c o : Nat) : Prop := I c o = nI (dyD D) ∧ I c (o + 1) = nI (nmD T D (nbT T)) ∧ ∀ b, b < nbT T → I c (o + (2 + b)) = nI (hoD D b) ∧ I c (o + (6 + b)) = nI (haD D b) ∧ I c (o + (10 + b)) = nI (whD D b)
/-- text; told; days; past; kept; slips -/
abbrev ST : Type := (Nat × (Nat → Nat)) × TD × DD × (Nat × (Nat → DD)) × (Nat → Option DD) × (Nat × (Nat → Nat) × (Nat → Nat))
def wfS (S : ST) : Prop :=
  (S.1.1 ≤ 160 ∧ ∀ j, j < S.1.1 → S.1.2 j < 256) ∧ wfT S.2.1 ∧ wfD S.2.1 S.2.2.1 ∧ (S.2.2.2.1.1 ≤ 8 ∧ ∀ i, i < S.2.2.2.1.1 → wfD S.2.1 (S.2.2.2.1.2 i)) ∧ (∀ k D, k < 2 → S.2.2.2.2.1 k = some D → wfD S.2.1 D) ∧
  (S.2.2.2.2.2.1 ≤ 8 ∧ ∀ i, i < S.2.2.2.2.2.1 → S.2.2.2.2.2.2.1 i < nrT S.2.1 ∧ S.2.2.2.2.2.2.2 i < nrT S.2.1 ∧ S.2.2.2.2.2.2.1 i ≠ S.2.2.2.2.2.2.2 i)
abbrev txS (S : ST) : Nat × (Nat → Nat) := S.1
abbrev tdS (S : ST) : TD := S.2.1
abbrev ddS (S : ST) : DD := S.2.2.1
abbrev paS (S : ST) : Nat × (Nat → DD) := S.2.2.2.1
abbrev kpS (S : ST) : Nat → Option DD := S.2.2.2.2.1
abbrev slS (S : ST) : Nat × (Nat → Nat) × (Nat → Nat) := S.2.2.2.2.2
def tC (x : Nat × (Nat → Nat)) (I : zk_I) : Prop := I 1 1 = nI x.1 ∧ ∀ j, j < x.1 → I 2 j = nI (x.2 j)
def pC (T : TD) (x : Nat × (Nat → DD)) (I : zk_I) : Prop := I 20 0 = nI x.1 ∧ ∃ nx, nx < 8 ∧ I 20 1 = nI nx ∧ ∀ i, i < x.1 → repDC T (x.2 i) I (22 + 4 * ((nx + 8 - x.1 + i) % 8))
def kC (T : TD) (x : Nat → Option DD) (I : zk_I) : Prop := ∃ ks, ks < 4 ∧ I 0 6 = nI ks ∧ ∀ k, k < 2 → (x k = none → ks.testBit k = false) ∧ ∀ D, x k = some D → ks.testBit k = true ∧ repDC T D I (55 + 4 * k)
def sC (x : Nat × (Nat → Nat) × (Nat → Nat)) (I : zk_I) : Prop := I 72 0 = nI x.1 ∧ ∀ i, i < x.1 → I 73 i = nI (x.2.1 i) ∧ I 74 i = nI (x.2.2 i)
def tM (x : Nat × (Nat → Nat)) (I : zk_I) : Prop := I 76 1 = nI x.1 ∧ ∀ j, j < x.1 → I 77 j = nI (x.2 j)
def pM (T : TD) (x : Nat × (Nat → DD)) (I : zk_I) : Prop := I 76 6 = nI x.1 ∧ ∀ i, i < x.1 → repDM T (x.2 i) I 81 (14 * i)
def kM (T : TD) (x : Nat → Option DD) (I : zk_I) : Prop := ∀ k, k < 2 → (x k = none → I 83 k = nI 0) ∧ ∀ D, x k = some D → I 83 k = nI 1 ∧ repDM T D I 82 (14 * k)
def sM (x : Nat × (Nat → Nat) × (Nat → Nat)) (I : zk_I) : Prop := I 76 10 = nI x.1 ∧ ∀ i, i < x.1 → I 84 i = nI (8 * x.2.1 i + x.2.2 i)
def invC (S : ST) (I : zk_I) : Prop := tC (txS S) I ∧ repC (tdS S) I 3 ∧ repDC (tdS S) (ddS S) I 16 ∧ pC (tdS S) (paS S) I ∧ kC (tdS S) (kpS S) I ∧ sC (slS S) I
def invM (S : ST) (I : zk_I) : Prop := tM (txS S) I ∧ repM (tdS S) I 78 ∧ repDM (tdS S) (ddS S) I 80 0 ∧ pM (tdS S) (paS S) I ∧ kM (tdS S) (kpS S) I ∧ sM (slS S) I
def inv (S : ST) (I : zk_I) : Prop := wfS S ∧ invC S I ∧ invM S I
/-- the cells that count -/
def relC (I I1 : zk_I) : Prop := I1 0 6 = I 0 6 ∧ I1 1 1 = I 1 1 ∧ ∀ c, ((2 ≤ c ∧ c ≤ 8) ∨ (16 ≤ c ∧ c ≤ 62) ∨ (72 ≤ c ∧ c ≤ 74)) → I1 c = I c
def relM (I I1 : zk_I) : Prop := I1 76 1 = I 76 1 ∧ I1 76 6 = I 76 6 ∧ I1 76 10 = I 76 10 ∧ ∀ c, (c = 77 ∨ c = 78 ∨ (80 ≤ c ∧ c ≤ 84)) → I1 c = I c
theorem relC.rf {I : zk_I} : relC I I := ⟨rfl, rfl, fun _ _ => rfl⟩
theorem relM.rf {I : zk_I} : relM I I := ⟨rfl, rfl, rfl, fun _ _ => rfl⟩
theorem relC.tr {I I1 I2 : zk_I} (h : relC I I1) (g : relC I1 I2) : relC I I2 := ⟨g.1.trans h.1, g.2.1.trans h.2.1, fun c hc => (g.2.2 c hc).trans (h.2.2 c hc)⟩
theorem relM.tr {I I1 I2 : zk_I} (h : relM I I1) (g : relM I1 I2) : relM I I2 := ⟨g.1.trans h.1, g.2.1.trans h.2.1, g.2.2.1.trans h.2.2.1, fun c hc => (g.2.2.2 c hc).trans (h.2.2.2 c hc)⟩
theorem repDC.fr {T : TD} {D : DD} {I I1 : zk_I} {d : Nat} (h : repDC T D I d) (e : ∀ c, d ≤ c → c ≤ d + 3 → I1 c = I c) : repDC T D I1 d := by
  refine ⟨by rw [e d (by omega) (by omega)]; exact h.1, fun b hb => ?_⟩
  rw [e (d + 1) (by omega) (by omega), e (d + 2) (by omega) (by omega), e (d + 3) (by omega) (by omega)]
  exact h.2 b hb
theorem repC.fr {T : TD} {I I1 : zk_I} {t : Nat} (h : repC T I t) (e : ∀ c, t ≤ c → c ≤ t + 5 → I1 c = I c) : repC T I1 t := by
  refine ⟨by rw [e t (by omega) (by omega)]; exact h.1, by rw [e t (by omega) (by omega)]; exact h.2.1, fun r hr => ?_, fun b hb => ?_⟩
  · rw [e (t + 1) (by omega) (by omega), e (t + 2) (by omega) (by omega), e (t + 3) (by omega) (by omega), e (t + 4) (by omega) (by omega)]
    exact h.2.2.1 r hr
  · rw [e (t + 5) (by omega) (by omega)]
    exact h.2.2.2 b hb
theorem repM.fr {T : TD} {I I1 : zk_I} {c : Nat} (h : repM T I c) (e : I1 c = I c) : repM T I1 c := by
  unfold repM at h ⊢
  rw [e]
  exact h
theorem repDM.fr {T : TD} {D : DD} {I I1 : zk_I} {c o : Nat} (h : repDM T D I c o) (e : I1 c = I c) : repDM T D I1 c o := by
  unfold repDM at h ⊢
  rw [e]
  exact h
theorem tC.fr {x : Nat × (Nat → Nat)} {I I1 : zk_I} (h : tC x I) (e1 : I1 1 1 = I 1 1) (e2 : I1 2 = I 2) : tC x I1 := ⟨e1.trans h.1, fun j hj => by rw [e2]; exact h.2 j hj⟩
theorem pC.fr {T : TD} {x : Nat × (Nat → DD)} {I I1 : zk_I} (h : pC T x I) (e : ∀ c, 20 ≤ c → c ≤ 53 → I1 c = I c) : pC T x I1 := by
  obtain ⟨d1, nx, d2, d3, d4⟩ := h
  exact ⟨by rw [e 20 (by omega) (by omega)]; exact d1, nx, d2, by rw [e 20 (by omega) (by omega)]; exact d3, fun i hi => (d4 i hi).fr (fun c h1 h2 => e c (by omega) (by omega))⟩
theorem kC.fr {T : TD} {x : Nat → Option DD} {I I1 : zk_I} (h : kC T x I) (e0 : I1 0 6 = I 0 6) (e : ∀ c, 55 ≤ c → c ≤ 62 → I1 c = I c) : kC T x I1 := by
  obtain ⟨ks, k1, k2, k3⟩ := h
  exact ⟨ks, k1, e0.trans k2, fun k hk => ⟨(k3 k hk).1, fun D hD => ⟨((k3 k hk).2 D hD).1, ((k3 k hk).2 D hD).2.fr (fun c h1 h2 => e c (by omega) (by omega))⟩⟩⟩
theorem sC.fr {x : Nat × (Nat → Nat) × (Nat → Nat)} {I I1 : zk_I} (h : sC x I) (e : ∀ c, 72 ≤ c → c ≤ 74 → I1 c = I c) : sC x I1 :=
  ⟨by rw [e 72 (by omega) (by omega)]; exact h.1, fun i hi => by rw [e 73 (by omega) (by omega), e 74 (by omega) (by omega)]; exact h.2 i hi⟩
theorem tM.fr {x : Nat × (Nat → Nat)} {I I1 : zk_I} (h : tM x I) (e1 : I1 76 1 = I 76 1) (e2 : I1 77 = I 77) : tM x I1 := ⟨e1.trans h.1, fun j hj => by rw [e2]; exact h.2 j hj⟩
theorem pM.fr {T : TD} {x : Nat × (Nat → DD)} {I I1 : zk_I} (h : pM T x I) (e1 : I1 76 6 = I 76 6) (e2 : I1 81 = I 81) : pM T x I1 := ⟨e1.trans h.1, fun i hi => (h.2 i hi).fr e2⟩
theorem kM.fr {T : TD} {x : Nat → Option DD} {I I1 : zk_I} (h : kM T x I) (e1 : I1 83 = I 83) (e2 : I1 82 = I 82) : kM T x I1 := fun q hq => ⟨fun hn => by rw [e1]; exact (h q hq).1 hn, fun D hD => ⟨by rw [e1]; exact ((h q hq).2 D hD).1, ((h q hq).2 D hD).2.fr e2⟩⟩
theorem sM.fr {x : Nat × (Nat → Nat) × (Nat → Nat)} {I I1 : zk_I} (h : sM x I) (e1 : I1 76 10 = I 76 10) (e2 : I1 84 = I 84) : sM x I1 := ⟨e1.trans h.1, fun i hi => by rw [e2]; exact h.2 i hi⟩
theorem invC.fr {S : ST} {I I1 : zk_I} (h : invC S I) (e : relC I I1) : invC S I1 :=
  ⟨h.1.fr e.2.1 (e.2.2 2 (by omega)), h.2.1.fr (fun c h1 h2 => e.2.2 c (by omega)), h.2.2.1.fr (fun c h1 h2 => e.2.2 c (by omega)), h.2.2.2.1.fr (fun c h1 h2 => e.2.2 c (by omega)), h.2.2.2.2.1.fr e.1 (fun c h1 h2 => e.2.2 c (by omega)), h.2.2.2.2.2.fr (fun c h1 h2 => e.2.2 c (by omega))⟩
theorem invM.fr {S : ST} {I I1 : zk_I} (h : invM S I) (e : relM I I1) : invM S I1 :=
  ⟨h.1.fr e.1 (e.2.2.2 77 (by omega)), h.2.1.fr (e.2.2.2 78 (by omega)), h.2.2.1.fr (e.2.2.2 80 (by omega)), h.2.2.2.1.fr e.2.1 (e.2.2.2 81 (by omega)), h.2.2.2.2.1.fr (e.2.2.2 83 (by omega)) (e.2.2.2 82 (by omega)), h.2.2.2.2.2.fr e.2.2.1 (e.2.2.2 84 (by omega))⟩
/-- class calls leave the reference's cells, and the other way -/
def keepM (I I1 : zk_I) : Prop := ∀ c, 76 ≤ c → I1 c = I c
def keepC (I I1 : zk_I) : Prop := ∀ c, c < 76 → I1 c = I c
theorem keepM.rel {I I1 : zk_I} (h : keepM I I1) : relM I I1 := ⟨by rw [h 76 (by omega)], by rw [h 76 (by omega)], by rw [h 76 (by omega)], fun c hc => h c (by omega)⟩
theorem keepC.rel {I I1 : zk_I} (h : keepC I I1) : relC I I1 := ⟨by rw [h 0 (by omega)], by rw [h 1 (by omega)], fun c hc => h c (by omega)⟩
theorem keepM.rf {I : zk_I} : keepM I I := fun _ _ => rfl
theorem keepC.rf {I : zk_I} : keepC I I := fun _ _ => rfl
theorem keepM.tr {I I1 I2 : zk_I} (h : keepM I I1) (g : keepM I1 I2) : keepM I I2 := fun c hc => (g c hc).trans (h c hc)
theorem keepC.tr {I I1 I2 : zk_I} (h : keepC I I1) (g : keepC I1 I2) : keepC I I2 := fun c hc => (g c hc).trans (h c hc)
theorem keepM.sc {I : zk_I} {c : Nat} (f : Nat → Int32) (h : c < 76) : keepM I (zk_sc I c f) := fun a ha => zk_sc_n I f (by omega)
theorem keepC.sc {I : zk_I} {c : Nat} (f : Nat → Int32) (h : 76 ≤ c) : keepC I (zk_sc I c f) := fun a ha => zk_sc_n I f (by omega)
/-! arguments -/
theorem x_hasR0 {T : TD} {I : zk_I} (hr : repC T I 3) {a : Int32} (h : a < 0 ∨ nI (nrT T) ≤ a) : f_X6_hasReader I 3 a = 0 := by
  unfold f_X6_hasReader
  simp only [zk_jp0, hr.1]
  rcases h with h | h
  · rw [if_pos h]
  · by_cases h0 : a < 0
    · rw [if_pos h0]
    · rw [if_neg h0, if_pos h]
theorem x_hasR1 {T : TD} {I : zk_I} (hw : wfT T) (hr : repC T I 3) {j : Nat} (h : j < nrT T) : f_X6_hasReader I 3 (nI j) = 1 := by
  have hn := hw.1
  unfold f_X6_hasReader
  simp only [zk_jp0, hr.1]
  rw [if_neg (nI_pos (by omega)), if_neg (nI_ge h (by omega))]
theorem x_hasB0 {T : TD} {I : zk_I} (hr : repC T I 3) {a : Int32} (h : a < 0 ∨ nI (nbT T) ≤ a) : f_X6_hasBook I 3 a = 0 := by
  unfold f_X6_hasBook
  simp only [zk_jp0, hr.2.1]
  rcases h with h | h
  · rw [if_pos h]
  · by_cases h0 : a < 0
    · rw [if_pos h0]
    · rw [if_neg h0, if_pos h]
theorem x_hasB1 {T : TD} {I : zk_I} (hw : wfT T) (hr : repC T I 3) {j : Nat} (h : j < nbT T) : f_X6_hasBook I 3 (nI j) = 1 := by
  have hn := hw.2.1
  unfold f_X6_hasBook
  simp only [zk_jp0, hr.2.1]
  rw [if_neg (nI_pos (by omega)), if_neg (nI_ge h (by omega))]
theorem nI_m1_lt {n : Nat} (hn : n < 2 ^ 30) (a : Int32) : (nI n - nI 1 < a) ↔ nI n ≤ a := by
  rw [Int32.lt_iff_toInt_lt, Int32.le_iff_toInt_le, pk_sub_toInt hn (by decide), nI_toInt (by omega)]
  omega
theorem x8_in {a lo hi : Int32} : f_X8_in a lo hi = if a < lo ∨ hi < a then 0 else 1 := by
  unfold f_X8_in
  simp only [zk_jp0]
  by_cases h1 : a < lo
  · simp [h1]
  · by_cases h2 : hi < a
    · simp [h1, h2]
    · simp [h1, h2]
theorem x8_isR0 {T : TD} {I : zk_I} (hw : wfT T) (hr : repM T I 78) {a : Int32} (h : a < 0 ∨ nI (nrT T) ≤ a) : f_X8_isReader I a = some 0 := by
  have hn := hw.1
  unfold f_X8_isReader
  have e : f_X8_in a 0 (I 78 0 - 1) = 0 := by
    rw [x8_in, hr.1, if_pos]
    rcases h with h | h
    · exact Or.inl h
    · exact Or.inr ((nI_m1_lt (by omega) a).mpr h)
  simp only [zk_lt]
  rw [e]
  rfl
theorem x8_isR1 {T : TD} {I : zk_I} (hw : wfT T) (hr : repM T I 78) {j : Nat} (h : j < nrT T) : f_X8_isReader I (nI j) = some 1 := by
  have hn := hw.1
  unfold f_X8_isReader
  have e : f_X8_in (nI j) 0 (I 78 0 - 1) = 1 := by
    rw [x8_in, hr.1, if_neg]
    rintro (h1 | h1)
    · exact nI_pos (show j < 2 ^ 31 by omega) h1
    · exact nI_ge h (by omega) ((nI_m1_lt (by omega) _).mp h1)
  simp only [zk_lt]
  rw [e]
  rfl
theorem x8_isB0 {T : TD} {I : zk_I} (hw : wfT T) (hr : repM T I 78) {a : Int32} (h : a < 0 ∨ nI (nbT T) ≤ a) : f_X8_isBook I a = some 0 := by
  have hn := hw.2.1
  unfold f_X8_isBook
  have e : f_X8_in a 0 (I 78 1 - 1) = 0 := by
    rw [x8_in, hr.2.1, if_pos]
    rcases h with h | h
    · exact Or.inl h
    · exact Or.inr ((nI_m1_lt (by omega) a).mpr h)
  simp only [zk_lt]
  rw [e]
  rfl
theorem x8_isB1 {T : TD} {I : zk_I} (hw : wfT T) (hr : repM T I 78) {j : Nat} (h : j < nbT T) : f_X8_isBook I (nI j) = some 1 := by
  have hn := hw.2.1
  unfold f_X8_isBook
  have e : f_X8_in (nI j) 0 (I 78 1 - 1) = 1 := by
    rw [x8_in, hr.2.1, if_neg]
    rintro (h1 | h1)
    · exact nI_pos (show j < 2 ^ 31 by omega) h1
    · exact nI_ge h (by omega) ((nI_m1_lt (by omega) _).mp h1)
  simp only [zk_lt]
  rw [e]
  rfl
theorem arg_cases (a : Int32) {n : Nat} (hn : n < 2 ^ 31) : (a < 0 ∨ nI n ≤ a) ∨ ∃ j, j < n ∧ a = nI j := by
  rcases pk_ix a hn with h | h | h
  · exact Or.inl (Or.inl h)
  · exact Or.inl (Or.inr h)
  · exact Or.inr h

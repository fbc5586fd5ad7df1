/-! one clause -/
def frC (I I1 : zk_I) : Prop := (∀ c, c ≠ 1 → ¬ (10 ≤ c ∧ c ≤ 15) → I1 c = I c) ∧ I1 1 1 = I 1 1
def frM (I I1 : zk_I) : Prop := (∀ c, c ≠ 76 → c ≠ 79 → I1 c = I c) ∧ ∀ q, q < 11 → I1 76 q = I 76 q
theorem frC.tr {I I1 I2 : zk_I} (h : frC I I1) (g : frC I1 I2) : frC I I2 := ⟨fun c h1 h2 => (g.1 c h1 h2).trans (h.1 c h1 h2), g.2.trans h.2⟩
theorem frM.tr {I I1 I2 : zk_I} (h : frM I I1) (g : frM I1 I2) : frM I I2 := ⟨fun c h1 h2 => (g.1 c h1 h2).trans (h.1 c h1 h2), fun q hq => (g.2 q hq).trans (h.2 q hq)⟩
theorem frC.rf {I : zk_I} : frC I I := ⟨fun _ _ _ => rfl, rfl⟩
theorem frM.rf {I : zk_I} : frM I I := ⟨fun _ _ _ => rfl, fun _ _ => rfl⟩
theorem frC.of1 {x : TX} {I I1 : zk_I} (h : ∀ c, c ≠ 1 → I1 c = I c) (h1 : tC x I) (h2 : tC x I1) : frC I I1 := ⟨fun c hc _ => h c hc, h2.1.trans h1.1.symm⟩
theorem frC.sc {I : zk_I} {c : Nat} (f : Nat → Int32) (h : 10 ≤ c ∧ c ≤ 15) : frC I (zk_sc I c f) := ⟨fun a _ ha => zk_sc_n I f (fun q => ha (q ▸ h)), by rw [zk_sc_n I f (by omega)]⟩
theorem frM.sc {I : zk_I} (f : Nat → Int32) : frM I (zk_sc I 79 f) := ⟨fun a _ ha => zk_sc_n I f ha, fun q _ => by rw [zk_sc_n I f (by decide)]⟩
theorem tC.frc {x : TX} {I I1 : zk_I} (h : tC x I) (g : frC I I1) : tC x I1 := h.fr g.2 (g.1 2 (by decide) (by decide))
theorem tM.frm {x : TX} {I I1 : zk_I} (h : tM x I) (g : frM I I1) : tM x I1 := h.fr (g.2 1 (by decide)) (g.1 77 (by decide) (by decide))
theorem atC.sc {x : TX} {p e : Nat} {I : zk_I} {c : Nat} (f : Nat → Int32) (h : atC x p e I) (hc : 10 ≤ c ∧ c ≤ 15) : atC x p e (zk_sc I c f) := ⟨h.1.frc (frC.sc f hc), by rw [zk_sc_n I f (by omega)]; exact h.2.1, by rw [zk_sc_n I f (by omega)]; exact h.2.2⟩
theorem atM.sc {x : TX} {p e : Nat} {I : zk_I} (f : Nat → Int32) (h : atM x p e I) : atM x p e (zk_sc I 79 f) := by
  obtain ⟨h1, h2, h3, h4, h5⟩ := h
  refine ⟨h1.frm (frM.sc f), ?_, ?_, ?_, ?_⟩
  · rw [zk_sc_n I f (by decide)]; exact h2
  · rw [zk_sc_n I f (by decide)]; exact h3
  · rw [zk_sc_n I f (by decide)]; exact h4
  · rw [zk_sc_n I f (by decide)]; exact h5
def resC0 (q : Nat) (f : zk_I → Option (Int32 × zk_I)) (I : zk_I) : Prop := ∃ I1, f I = some (0, I1) ∧ frC I I1 ∧ I1 1 2 = nI q
def resC1 (x : TX) (T : TD) (q : Nat) (f : zk_I → Option (Int32 × zk_I)) (I : zk_I) : Prop := ∃ I1, f I = some (1, I1) ∧ frC I I1 ∧ atC x (tS x q) (tE x (tS x q)) I1 ∧ repC T I1 10
def resM0 (q : Nat) (f : zk_I → Option (Int32 × zk_I)) (I : zk_I) : Prop := ∃ I1, f I = some (0, I1) ∧ frM I I1 ∧ I1 76 12 = nI q
def resM1 (T : TD) (q : Nat) (f : zk_I → Option (Int32 × zk_I)) (I : zk_I) : Prop := ∃ I1, f I = some (1, I1) ∧ frM I I1 ∧ I1 76 13 = nI q ∧ repM T I1 79
def clS (x : TX) (T : TD) (p e : Nat) (f g : zk_I → Option (Int32 × zk_I)) : Prop :=
  (∃ q, q ≤ x.1 ∧ (∀ I, atC x p e I → repC T I 10 → resC0 q f I) ∧ ∀ I, atM x p e I → repM T I 79 → resM0 q g I) ∨
  (∃ T' q, q ≤ x.1 ∧ wfT T' ∧ (∀ I, atC x p e I → repC T I 10 → resC1 x T' q f I) ∧ ∀ I, atM x p e I → repM T I 79 → resM1 T' q g I)
theorem x8_numb {x : TX} {I : zk_I} (hx : wfX x) (hm : tM x I) {e b pl : Nat} (he : e ≤ x.1) (h13 : I 76 13 = nI e) (hb : b < 2 ^ 30) (hpl : pl < 38) : ∃ I1 w, f_X8_number I (nI pl) 0 (nI b - nI 1) = some (if (nb x (tS x e) (tE x (tS x e)) b).isSome then 1 else 0, I1) ∧ atM x (tS x e) (tE x (tS x e)) I1 ∧ frM I I1 ∧ I1 79 = upd (I 79) pl w ∧ ∀ v, nb x (tS x e) (tE x (tS x e)) b = some v → w = nI v := by
  obtain ⟨I2, t1, t2, t3, t4⟩ := x8_token hx hm he h13
  have t5 : atM x (tS x e) (tE x (tS x e)) (zk_sc I2 79 (upd (I2 79) pl (I2 76 14))) := t2.sc _
  refine ⟨zk_sc I2 79 (upd (I2 79) pl (I2 76 14)), I2 76 14, ?_, t5, frM.tr ⟨fun c h1 h2 => t3 c h1, t4⟩ (frM.sc _), ?_, fun v hv => ?_⟩
  · unfold f_X8_number
    rw [t1, zbd1, zck (zin hpl (by decide)), nI_clamp (show pl < 2 ^ 31 by omega), zlt, zjp0]
    have key := nb_test hx t5 hb (some ((1 : Int32), zk_sc I2 79 (upd (I2 79) pl (I2 76 14)))) (some ((0 : Int32), zk_sc I2 79 (upd (I2 79) pl (I2 76 14))))
    refine Eq.trans key ?_
    cases (nb x (tS x e) (tE x (tS x e)) b).isSome <;> rfl
  · rw [zk_sc_s, t3 79 (by decide)]
  · obtain ⟨g1, g2, g3⟩ := nb_some hv
    rw [t2.2.2.2.2 g1, g3]
def addR (T : TD) (k v : Nat) : TD := (nrT T + 1, nbT T, (fun r => if r = nrT T then k else kdT T r), (fun r => if r = nrT T then v else rkT T r), (fun r => if r = nrT T then 0 else fdT T r), (fun r => if r = nrT T then 99 else mvT T r), frT T)
theorem addR_wf {T : TD} {k v : Nat} (hT : wfT T) (hn : nrT T < 8) (hk : k ≤ 3) (hv : v ≤ 9) : wfT (addR T k v) := by
  obtain ⟨w1, w2, w3, w4⟩ := hT
  refine ⟨hn, w2, fun r hr => ?_, fun b hb => Nat.lt_succ_of_lt (w4 b hb)⟩
  have hr : r < nrT T + 1 := hr
  show (if r = nrT T then k else kdT T r) ≤ 3 ∧ (if r = nrT T then v else rkT T r) ≤ 9 ∧ (if r = nrT T then 0 else fdT T r) < 256 ∧ (if r = nrT T then 99 else mvT T r) ≤ 99
  by_cases h : r = nrT T
  · rw [if_pos h, if_pos h, if_pos h, if_pos h]; exact ⟨hk, hv, by decide, Nat.le_refl _⟩
  · rw [if_neg h, if_neg h, if_neg h, if_neg h]; exact w3 r (by omega)
theorem x_addR {T : TD} {I : zk_I} {k v : Nat} (hT : wfT T) (hn : nrT T < 8) (hr : repC T I 10) : ∃ I1, f_X6_addReader I 10 (nI k) (nI v) = some I1 ∧ repC (addR T k v) I1 10 ∧ ∀ c, ¬ (10 ≤ c ∧ c ≤ 15) → I1 c = I c := by
  obtain ⟨r1, r2, r3, r4⟩ := hr
  unfold f_X6_addReader
  simp only [zlt, r1, zk_sc_n _ _ (show ¬ 10 = 10 + 1 by decide), zk_sc_n _ _ (show ¬ 10 = 10 + 2 by decide), zk_sc_n _ _ (show ¬ 10 = 10 + 3 by decide), zk_sc_n _ _ (show ¬ 10 = 10 + 4 by decide), zck (zin hn (by decide)), nI_clamp (show nrT T < 2 ^ 31 by omega), nI_1]
  refine ⟨_, rfl, ⟨?_, ?_, fun r hr => ⟨?_, ?_, ?_, ?_⟩, fun b hb => ?_⟩, fun c hc => ?_⟩
  · rw [zk_sc_s, pk_us]; rfl
  · rw [zk_sc_s, pk_un (by decide)]; exact r2
  · have hr : r < nrT T + 1 := hr
    rw [zk_sc_n _ _ (by decide), zk_sc_n _ _ (by decide), zk_sc_n _ _ (by decide), zk_sc_n _ _ (by decide), zk_sc_s]
    show _ = nI (if r = nrT T then k else kdT T r)
    by_cases h : r = nrT T
    · rw [if_pos h, h, pk_us]
    · rw [if_neg h, pk_un h]; exact (r3 r (by omega)).1
  · have hr : r < nrT T + 1 := hr
    rw [zk_sc_n _ _ (by decide), zk_sc_n _ _ (by decide), zk_sc_n _ _ (by decide), zk_sc_s, zk_sc_n _ _ (by decide)]
    show _ = nI (if r = nrT T then v else rkT T r)
    by_cases h : r = nrT T
    · rw [if_pos h, h, pk_us]
    · rw [if_neg h, pk_un h]; exact (r3 r (by omega)).2.1
  · have hr : r < nrT T + 1 := hr
    rw [zk_sc_n _ _ (by decide), zk_sc_n _ _ (by decide), zk_sc_s, zk_sc_n _ _ (by decide), zk_sc_n _ _ (by decide)]
    show _ = nI (if r = nrT T then 0 else fdT T r)
    by_cases h : r = nrT T
    · rw [if_pos h, h, pk_us]; rfl
    · rw [if_neg h, pk_un h]; exact (r3 r (by omega)).2.2.1
  · have hr : r < nrT T + 1 := hr
    rw [zk_sc_n _ _ (by decide), zk_sc_s, zk_sc_n _ _ (by decide), zk_sc_n _ _ (by decide), zk_sc_n _ _ (by decide)]
    show _ = nI (if r = nrT T then 99 else mvT T r)
    by_cases h : r = nrT T
    · rw [if_pos h, h, pk_us]; rfl
    · rw [if_neg h, pk_un h]; exact (r3 r (by omega)).2.2.2
  · rw [zk_sc_n _ _ (by decide), zk_sc_n _ _ (by decide), zk_sc_n _ _ (by decide), zk_sc_n _ _ (by decide), zk_sc_n _ _ (by decide)]
    exact r4 b hb
  · rw [zk_sc_n _ _ (by omega), zk_sc_n _ _ (by omega), zk_sc_n _ _ (by omega), zk_sc_n _ _ (by omega), zk_sc_n _ _ (by omega)]
/-- after the draft has changed, on to the next token -/
theorem x_after {x : TX} {T : TD} {e : Nat} {I I4 I7 : zk_I} (hx : wfX x) (he : e ≤ x.1) {p : Nat} (h4 : atC x p e I4) (hf : frC I I4) (hc : ∀ c, ¬ (10 ≤ c ∧ c ≤ 15) → I7 c = I4 c) (hr : repC T I7 10) : ∃ I9, f_X5_goToNextToken I7 = some I9 ∧ frC I I9 ∧ atC x (tS x e) (tE x (tS x e)) I9 ∧ repC T I9 10 := by
  have f7 : frC I4 I7 := ⟨fun c _ h => hc c h, by rw [hc 1 (by omega)]⟩
  have ht7 := h4.1.frc f7
  obtain ⟨I9, n1, n2, n3⟩ := x_next hx ht7 he (by rw [hc 1 (by omega)]; exact h4.2.2)
  exact ⟨I9, n1, (hf.tr f7).tr (frC.of1 n3 ht7 n2.1), n2, hr.fr (fun c h1 h2 => n3 c (by omega))⟩
theorem nb9 : (9 : Int32) = nI 10 - nI 1 := by decide
theorem nb99 : (99 : Int32) = nI 100 - nI 1 := by decide
theorem cl_reader {x : TX} {T : TD} {p e k : Nat} (hx : wfX x) (hT : wfT T) (hp : p ≤ x.1) (hee : e = tE x p) (hk : k ≤ 3) : clS x T p e (fun I => f_X0_doReader I (nI k)) (fun I => f_X8_readsReader I (nI k)) := by
  have he : e ≤ x.1 := by rw [hee]; exact tE_le hp
  have hnr := hT.1
  have hL := hx.1
  by_cases h8 : nrT T = 8
  · refine Or.inl ⟨p, hp, fun I hc hr => ⟨I, ?_, frC.rf, hc.2.1⟩, fun I hm hr => ⟨I, ?_, frM.rf, hm.2.1⟩⟩
    · show f_X0_doReader I (nI k) = _
      unfold f_X0_doReader
      rw [hr.1, h8, if_neg (by decide)]
    · show f_X8_readsReader I (nI k) = _
      unfold f_X8_readsReader
      rw [hr.1, h8, if_pos (show nI 8 = (8 : Int32) from rfl)]
  · have c1 : nI (nrT T) < (8 : Int32) := nI_lt (b := 8) (by omega) (by decide)
    have c2 : ¬ nI (nrT T) = (8 : Int32) := fun q => h8 (xl_inj (b := 8) (by omega) (by decide) q)
    have e10 : (10 : Int32) + nI (nrT T) = nI (10 + nrT T) := by rw [xlit 10, nI_add]
    have C : ∀ I, atC x p e I → repC T I 10 → ∃ I1, f_X0_doReader I (nI k) = (if opt (nb x (tS x e) (tE x (tS x e)) 10) = (-1 : Int32) then some ((0 : Int32), I1) else zk_bd1 (f_X6_addReader I1 10 (nI k) (opt (nb x (tS x e) (tE x (tS x e)) 10))) (fun (I7 : zk_I) => zk_bd1 (f_X5_goToNextToken I7) (fun (I9 : zk_I) => some ((1 : Int32), I9)))) ∧ atC x (tS x e) (tE x (tS x e)) I1 ∧ (∀ c, c ≠ 1 → I1 c = I c) := by
      intro I hc hr
      obtain ⟨I1, n1, n2, n3⟩ := x_nextN hx hc.1 (b := 10) he hc.2.2 (by decide)
      refine ⟨I1, ?_, n2, n3⟩
      unfold f_X0_doReader
      rw [hr.1, if_pos c1, show (10 : Int32) = nI 10 from rfl, n1, zbd2]
    have M0 : ∀ I, atM x p e I → repM T I 79 → _ := fun I hm hr => x8_numb hx hm.1 he hm.2.2.1 (b := 10) (pl := 10 + nrT T) (by decide) (by omega)
    cases hnb : nb x (tS x e) (tE x (tS x e)) 10 with
    | none =>
      refine Or.inl ⟨tS x e, tS_le he, fun I hc hr => ?_, fun I hm hr => ?_⟩
      · obtain ⟨I1, n1, n2, n3⟩ := C I hc hr
        rw [hnb] at n1
        exact ⟨I1, n1, frC.of1 n3 hc.1 n2.1, n2.2.1⟩
      · obtain ⟨I1, w, n1, n2, n3, n4, n5⟩ := M0 I hm hr
        refine ⟨I1, ?_, n3, n2.2.1⟩
        show f_X8_readsReader I (nI k) = _
        unfold f_X8_readsReader
        rw [hr.1, if_neg c2, e10, nb9, n1, zbd2, hnb]
        rfl
    | some v =>
      obtain ⟨g1, g2, g3⟩ := nb_some hnb
      refine Or.inr ⟨addR T k v, tE x (tS x e), tE_le (tS_le he), addR_wf hT (by omega) hk (by omega), fun I hc hr => ?_, fun I hm hr => ?_⟩
      · obtain ⟨I1, n1, n2, n3⟩ := C I hc hr
        rw [hnb, if_neg (opt_m1 (by omega))] at n1
        obtain ⟨I7, a1, a2, a3⟩ := x_addR (I := I1) (k := k) (v := v) hT (by omega) (hr.fr (fun c h1 h2 => n3 c (by omega)))
        obtain ⟨I9, b1, b2, b3, b4⟩ := x_after hx (tE_le (tS_le he)) n2 (frC.of1 n3 hc.1 n2.1) a3 a2
        refine ⟨I9, ?_, b2, b3, b4⟩
        show f_X0_doReader I (nI k) = _
        rw [n1, show opt (some v) = nI v from rfl, a1, zbd1, b1, zbd1]
      · obtain ⟨I1, w, n1, n2, n3, n4, n5⟩ := M0 I hm hr
        have hw := n5 v hnb
        have e2 : (2 : Int32) + nI (nrT T) = nI (2 + nrT T) := by rw [xlit 2, nI_add]
        have e18 : (18 : Int32) + nI (nrT T) = nI (18 + nrT T) := by rw [xlit 18, nI_add]
        have e26 : (26 : Int32) + nI (nrT T) = nI (26 + nrT T) := by rw [xlit 26, nI_add]
        have ex : f_X8_readsReader I (nI k) = some (1, zk_sc I1 79 (upd (upd (upd (upd (I1 79) (2 + nrT T) (nI k)) (26 + nrT T) 99) (18 + nrT T) 0) 0 (nI (nrT T + 1)))) := by
          unfold f_X8_readsReader
          rw [hr.1, if_neg c2, e10, nb9, n1, zbd2, hnb, e2, e18, e26]
          simp only [Option.isSome_some, if_true, if_neg n10, zck (zin (show 2 + nrT T < 38 by omega) (by decide)), zck (zin (show 18 + nrT T < 38 by omega) (by decide)), zck (zin (show 26 + nrT T < 38 by omega) (by decide)), nI_clamp (show 2 + nrT T < 2 ^ 31 by omega), nI_clamp (show 18 + nrT T < 2 ^ 31 by omega), nI_clamp (show 26 + nrT T < 2 ^ 31 by omega), zk_lt, zk_sc_s, sc_sc, pk_un (show (0 : Nat) ≠ 2 + nrT T by omega), pk_un (show (0 : Nat) ≠ 18 + nrT T by omega), pk_un (show (0 : Nat) ≠ 26 + nrT T by omega), n4, pk_un (show (0 : Nat) ≠ 10 + nrT T by omega), hr.1, nI_1]
        refine ⟨_, ex, n3.tr (frM.sc _), ?_, ?_⟩
        · rw [zk_sc_n _ _ (by decide)]; exact n2.2.2.1
        · obtain ⟨r1, r2, r3, r4⟩ := hr
          unfold repM
          rw [zk_sc_s, n4, hw]
          refine ⟨?_, ?_, fun r hrr => ⟨?_, ?_, ?_, ?_⟩, fun b hb => ?_⟩
          · rw [pk_us]; rfl
          · rw [pk_un (by decide), pk_un (by omega), pk_un (by omega), pk_un (by omega), pk_un (by omega)]; exact r2
          · have hrr : r < nrT T + 1 := hrr
            show _ = nI (if r = nrT T then k else kdT T r)
            rw [pk_un (by omega), pk_un (by omega), pk_un (by omega)]
            by_cases h : r = nrT T
            · rw [if_pos h, h, pk_us]
            · rw [if_neg h, pk_un (by omega), pk_un (by omega)]; exact (r3 r (by omega)).1
          · have hrr : r < nrT T + 1 := hrr
            show _ = nI (if r = nrT T then v else rkT T r)
            rw [pk_un (by omega), pk_un (by omega), pk_un (by omega), pk_un (by omega)]
            by_cases h : r = nrT T
            · rw [if_pos h, h, pk_us]
            · rw [if_neg h, pk_un (by omega)]; exact (r3 r (by omega)).2.1
          · have hrr : r < nrT T + 1 := hrr
            show _ = nI (if r = nrT T then 0 else fdT T r)
            rw [pk_un (by omega)]
            by_cases h : r = nrT T
            · rw [if_pos h, h, pk_us]; rfl
            · rw [if_neg h, pk_un (by omega), pk_un (by omega), pk_un (by omega), pk_un (by omega)]; exact (r3 r (by omega)).2.2.1
          · have hrr : r < nrT T + 1 := hrr
            show _ = nI (if r = nrT T then 99 else mvT T r)
            rw [pk_un (by omega), pk_un (by omega)]
            by_cases h : r = nrT T
            · rw [if_pos h, h, pk_us]; rfl
            · rw [if_neg h, pk_un (by omega), pk_un (by omega), pk_un (by omega)]; exact (r3 r (by omega)).2.2.2
          · have hb : b < nbT T := hb
            rw [pk_un (by omega), pk_un (by omega), pk_un (by omega), pk_un (by omega), pk_un (by omega)]
            exact r4 b hb

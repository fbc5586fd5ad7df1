theorem opt_none : opt none = (-1 : Int32) := rfl
def addF (T : TD) (a b : Nat) : TD := (nrT T, nbT T, kdT T, rkT T, (fun r => if r = b then fdT T b ||| 2 ^ a else if r = a then fdT T a ||| 2 ^ b else fdT T r), mvT T, frT T)
theorem p2_lt8 {a : Nat} (h : a < 8) : 2 ^ a < 256 := by
  have : 2 ^ a ≤ 2 ^ 7 := Nat.pow_le_pow_right (by decide) (by omega)
  omega
theorem addF_wf {T : TD} {a b : Nat} (hT : wfT T) (ha : a < nrT T) (hb : b < nrT T) : wfT (addF T a b) := by
  obtain ⟨w1, w2, w3, w4⟩ := hT
  refine ⟨w1, w2, fun r hr => ?_, w4⟩
  obtain ⟨v1, v2, v3, v4⟩ := w3 r hr
  refine ⟨v1, v2, ?_, v4⟩
  show (if r = b then fdT T b ||| 2 ^ a else if r = a then fdT T a ||| 2 ^ b else fdT T r) < 256
  by_cases h : r = b
  · rw [if_pos h]; exact or_lt (w3 b hb).2.2.1 (p2_lt8 (by omega))
  · rw [if_neg h]
    by_cases h' : r = a
    · rw [if_pos h']; exact or_lt (w3 a ha).2.2.1 (p2_lt8 (by omega))
    · rw [if_neg h']; exact v3
theorem x_addF {T : TD} {I : zk_I} {a b : Nat} (hT : wfT T) (ha : a < nrT T) (hb : b < nrT T) (hab : b ≠ a) (hr : repC T I 10) : ∃ I1, f_X6_addFeud I 10 (nI a) (nI b) = some I1 ∧ repC (addF T a b) I1 10 ∧ ∀ c, ¬ (10 ≤ c ∧ c ≤ 15) → I1 c = I c := by
  obtain ⟨r1, r2, r3, r4⟩ := hr
  have hn := hT.1
  unfold f_X6_addFeud
  simp only [zk_lt, zck (zin (show a < 8 by omega) (by decide)), zck (zin (show b < 8 by omega) (by decide)), nI_clamp (show a < 2 ^ 31 by omega), nI_clamp (show b < 2 ^ 31 by omega), xlit, xb_shl1 a (by omega), xb_shl1 b (by omega), zk_sc_s, sc_sc, pk_un hab, (r3 a ha).2.2.1, (r3 b hb).2.2.1, xb_or]
  refine ⟨_, rfl, ⟨?_, ?_, fun r hr => ⟨?_, ?_, ?_, ?_⟩, fun b hb => ?_⟩, fun c hc => ?_⟩
  · rw [zk_sc_n _ _ (by decide)]; exact r1
  · rw [zk_sc_n _ _ (by decide)]; exact r2
  · rw [zk_sc_n _ _ (by decide)]; exact (r3 r hr).1
  · rw [zk_sc_n _ _ (by decide)]; exact (r3 r hr).2.1
  · rw [zk_sc_s]
    show _ = nI (if r = b then fdT T b ||| 2 ^ a else if r = a then fdT T a ||| 2 ^ b else fdT T r)
    by_cases h : r = b
    · rw [if_pos h, h, pk_us]
    · rw [if_neg h, pk_un h]
      by_cases h' : r = a
      · rw [if_pos h', h', pk_us]
      · rw [if_neg h', pk_un h']; exact (r3 r hr).2.2.1
  · rw [zk_sc_n _ _ (by decide)]; exact (r3 r hr).2.2.2
  · rw [zk_sc_n _ _ (by decide)]; exact r4 b hb
  · rw [zk_sc_n _ _ (by omega)]
theorem tok2 {x : TX} {T : TD} {I : zk_I} (hx : wfX x) (hm : tM x I) (hr : repM T I 79) {e : Nat} (he : e ≤ x.1) (h13 : I 76 13 = nI e) : ∃ I1, f_X8_token I = some I1 ∧ atM x (tS x e) (tE x (tS x e)) I1 ∧ frM I I1 ∧ repM T I1 79 := by
  obtain ⟨I1, t1, t2, t3, t4⟩ := x8_token hx hm he h13
  exact ⟨I1, t1, t2, ⟨fun c h1 _ => t3 c h1, t4⟩, hr.fr (t3 79 (by decide))⟩
theorem cl_feud {x : TX} {T : TD} {p e : Nat} (hx : wfX x) (hT : wfT T) (hp : p ≤ x.1) (hee : e = tE x p) : clS x T p e (fun I => f_X0_doFeud I) (fun I => f_X8_readsFeud I) := by
  have he : e ≤ x.1 := by rw [hee]; exact tE_le hp
  have hnr := hT.1
  have hL := hx.1
  have hp1 := tS_le he
  have he1 := tE_le hp1
  have hp2 := tS_le he1
  have he2 := tE_le hp2
  cases hn1 : nb x (tS x e) (tE x (tS x e)) (nrT T) with
  | none =>
    refine Or.inl ⟨tS x e, hp1, fun I hc hr => ?_, fun I hm hr => ?_⟩
    · obtain ⟨I1, n1, n2, n3⟩ := x_nextN hx hc.1 (b := nrT T) he hc.2.2 (by omega)
      refine ⟨I1, ?_, frC.of1 n3 hc.1 n2.1, n2.2.1⟩
      show f_X0_doFeud I = _
      unfold f_X0_doFeud
      rw [hr.1, n1, zbd2, hn1, if_pos opt_none]
    · obtain ⟨I1, n1, n2, n3, n4⟩ := tok2 hx hm.1 hr he hm.2.2.1
      refine ⟨I1, ?_, n3, n2.2.1⟩
      show f_X8_readsFeud I = _
      unfold f_X8_readsFeud
      rw [n1, zbd1, n4.1]
      refine Eq.trans (nb_test hx n2 (b := nrT T) (by omega) _ _) ?_
      rw [hn1]
      rfl
  | some a =>
    obtain ⟨g1, g2, g3⟩ := nb_some hn1
    cases hn2 : nb x (tS x (tE x (tS x e))) (tE x (tS x (tE x (tS x e)))) (nrT T) with
    | none =>
      refine Or.inl ⟨tS x (tE x (tS x e)), hp2, fun I hc hr => ?_, fun I hm hr => ?_⟩
      · obtain ⟨I1, n1, n2, n3⟩ := x_nextN hx hc.1 (b := nrT T) he hc.2.2 (by omega)
        obtain ⟨I2, m1, m2, m3⟩ := x_nextN hx n2.1 (b := nrT T) he1 n2.2.2 (by omega)
        refine ⟨I2, ?_, (frC.of1 n3 hc.1 n2.1).tr (frC.of1 m3 n2.1 m2.1), m2.2.1⟩
        show f_X0_doFeud I = _
        unfold f_X0_doFeud
        rw [hr.1, n1, zbd2, hn1, if_neg (opt_m1 (by omega)), n3 10 (by decide), hr.1, m1, zbd2, hn2, if_pos opt_none]
      · obtain ⟨I1, n1, n2, n3, n4⟩ := tok2 hx hm.1 hr he hm.2.2.1
        obtain ⟨I2, m1, m2, m3, m4⟩ := tok2 hx n2.1 n4 he1 n2.2.2.1
        refine ⟨I2, ?_, n3.tr m3, m2.2.1⟩
        show f_X8_readsFeud I = _
        unfold f_X8_readsFeud
        rw [n1, zbd1, n4.1]
        refine Eq.trans (nb_test hx n2 (b := nrT T) (by omega) _ _) ?_
        rw [hn1, Option.isSome_some, if_pos rfl, m1, zbd1, m4.1]
        refine Eq.trans (nb_test hx m2 (b := nrT T) (by omega) _ _) ?_
        rw [hn2]
        rfl
    | some b =>
      obtain ⟨k1, k2, k3⟩ := nb_some hn2
      by_cases hab : b = a
      · refine Or.inl ⟨tS x (tE x (tS x e)), hp2, fun I hc hr => ?_, fun I hm hr => ?_⟩
        · obtain ⟨I1, n1, n2, n3⟩ := x_nextN hx hc.1 (b := nrT T) he hc.2.2 (by omega)
          obtain ⟨I2, m1, m2, m3⟩ := x_nextN hx n2.1 (b := nrT T) he1 n2.2.2 (by omega)
          refine ⟨I2, ?_, (frC.of1 n3 hc.1 n2.1).tr (frC.of1 m3 n2.1 m2.1), m2.2.1⟩
          show f_X0_doFeud I = _
          unfold f_X0_doFeud
          rw [hr.1, n1, zbd2, hn1, if_neg (opt_m1 (by omega)), n3 10 (by decide), hr.1, m1, zbd2, hn2, if_neg (opt_m1 (by omega)), hab, if_pos rfl]
        · obtain ⟨I1, n1, n2, n3, n4⟩ := tok2 hx hm.1 hr he hm.2.2.1
          obtain ⟨I2, m1, m2, m3, m4⟩ := tok2 hx n2.1 n4 he1 n2.2.2.1
          refine ⟨I2, ?_, n3.tr m3, m2.2.1⟩
          show f_X8_readsFeud I = _
          unfold f_X8_readsFeud
          rw [n1, zbd1, n4.1]
          refine Eq.trans (nb_test hx n2 (b := nrT T) (by omega) _ _) ?_
          rw [hn1, Option.isSome_some, if_pos rfl, m1, zbd1, m4.1]
          refine Eq.trans (nb_test hx m2 (b := nrT T) (by omega) _ _) ?_
          rw [hn2, Option.isSome_some, if_pos rfl, m2.2.2.2.2 k1, n2.2.2.2.2 g1, ← k3, ← g3, hab, if_pos rfl]
      · have hab' : ¬ nI b = nI a := fun q => hab (xl_inj (by omega) (by omega) q)
        refine Or.inr ⟨addF T a b, tE x (tS x (tE x (tS x e))), he2, addF_wf hT g2 k2, fun I hc hr => ?_, fun I hm hr => ?_⟩
        · obtain ⟨I1, n1, n2, n3⟩ := x_nextN hx hc.1 (b := nrT T) he hc.2.2 (by omega)
          obtain ⟨I2, m1, m2, m3⟩ := x_nextN hx n2.1 (b := nrT T) he1 n2.2.2 (by omega)
          obtain ⟨I7, a1, a2, a3⟩ := x_addF (I := I2) hT g2 k2 hab (hr.fr (fun c h1 h2 => (m3 c (by omega)).trans (n3 c (by omega))))
          obtain ⟨I9, b1, b2, b3, b4⟩ := x_after hx he2 m2 ((frC.of1 n3 hc.1 n2.1).tr (frC.of1 m3 n2.1 m2.1)) a3 a2
          refine ⟨I9, ?_, b2, b3, b4⟩
          show f_X0_doFeud I = _
          unfold f_X0_doFeud
          rw [hr.1, n1, zbd2, hn1, if_neg (opt_m1 (by omega)), n3 10 (by decide), hr.1, m1, zbd2, hn2, if_neg (opt_m1 (by omega)), show opt (some b) = nI b from rfl, show opt (some a) = nI a from rfl, if_neg hab', a1, zbd1, b1, zbd1]
        · obtain ⟨I1, n1, n2, n3, n4⟩ := tok2 hx hm.1 hr he hm.2.2.1
          obtain ⟨I2, m1, m2, m3, m4⟩ := tok2 hx n2.1 n4 he1 n2.2.2.1
          have v1 : I1 76 14 = nI a := by rw [n2.2.2.2.2 g1, ← g3]
          have v2 : I2 76 14 = nI b := by rw [m2.2.2.2.2 k1, ← k3]
          have e18 : ∀ q, (18 : Int32) + nI q = nI (18 + q) := fun q => by rw [xlit 18, nI_add]
          have xa : ((1 : Int32) <<< (nI a &&& 31)) = nI (2 ^ a) := by rw [xlit 1, xlit 31, xb_shl1 a (by omega)]
          have xb : ((1 : Int32) <<< (nI b &&& 31)) = nI (2 ^ b) := by rw [xlit 1, xlit 31, xb_shl1 b (by omega)]
          have ex : f_X8_readsFeud I = some (1, zk_sc I2 79 (upd (upd (I2 79) (18 + a) (nI (fdT T a ||| 2 ^ b))) (18 + b) (nI (fdT T b ||| 2 ^ a)))) := by
            unfold f_X8_readsFeud
            rw [n1, zbd1, n4.1]
            refine Eq.trans (nb_test hx n2 (b := nrT T) (by omega) _ _) ?_
            rw [hn1, Option.isSome_some, if_pos rfl, m1, zbd1, m4.1]
            refine Eq.trans (nb_test hx m2 (b := nrT T) (by omega) _ _) ?_
            rw [hn2, Option.isSome_some, if_pos rfl, v2, v1, if_neg hab']
            simp only [zk_lt, zk_sc_n _ _ (show ¬ 76 = 79 by decide), v2, e18, xa, xb, zck (zin (show 18 + a < 38 by omega) (by decide)), zck (zin (show 18 + b < 38 by omega) (by decide)), nI_clamp (show 18 + a < 2 ^ 31 by omega), nI_clamp (show 18 + b < 2 ^ 31 by omega), zk_sc_s, sc_sc, pk_un (show 18 + b ≠ 18 + a by omega), (m4.2.2.1 a g2).2.2.1, (m4.2.2.1 b k2).2.2.1, xb_or]
          refine ⟨_, ex, (n3.tr m3).tr (frM.sc _), ?_, ?_⟩
          · rw [zk_sc_n _ _ (by decide)]; exact m2.2.2.1
          · obtain ⟨r1, r2, r3, r4⟩ := m4
            unfold repM
            rw [zk_sc_s]
            refine ⟨?_, ?_, fun r hrr => ⟨?_, ?_, ?_, ?_⟩, fun b hb => ?_⟩
            · rw [pk_un (by omega), pk_un (by omega)]; exact r1
            · rw [pk_un (by omega), pk_un (by omega)]; exact r2
            · have hrr : r < nrT T := hrr
              rw [pk_un (by omega), pk_un (by omega)]; exact (r3 r hrr).1
            · have hrr : r < nrT T := hrr
              rw [pk_un (by omega), pk_un (by omega)]; exact (r3 r hrr).2.1
            · have hrr : r < nrT T := hrr
              show _ = nI (if r = b then fdT T b ||| 2 ^ a else if r = a then fdT T a ||| 2 ^ b else fdT T r)
              by_cases h : r = b
              · rw [if_pos h, h, pk_us]
              · rw [if_neg h, pk_un (by omega)]
                by_cases h' : r = a
                · rw [if_pos h', h', pk_us]
                · rw [if_neg h', pk_un (by omega)]; exact (r3 r hrr).2.2.1
            · have hrr : r < nrT T := hrr
              rw [pk_un (by omega), pk_un (by omega)]; exact (r3 r hrr).2.2.2
            · have hb : b < nbT T := hb
              rw [pk_un (by omega), pk_un (by omega)]
              exact r4 b hb

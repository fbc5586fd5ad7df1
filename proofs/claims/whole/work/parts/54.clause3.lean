def setMv (T : TD) (a v : Nat) : TD := (nrT T, nbT T, kdT T, rkT T, fdT T, (fun r => if r = a then v else mvT T r), frT T)
theorem setMv_wf {T : TD} {a v : Nat} (hT : wfT T) (hv : v ≤ 99) : wfT (setMv T a v) := by
  obtain ⟨w1, w2, w3, w4⟩ := hT
  refine ⟨w1, w2, fun r hr => ?_, w4⟩
  obtain ⟨v1, v2, v3, v4⟩ := w3 r hr
  refine ⟨v1, v2, v3, ?_⟩
  show (if r = a then v else mvT T r) ≤ 99
  by_cases h : r = a
  · rw [if_pos h]; exact hv
  · rw [if_neg h]; exact v4
theorem cl_move {x : TX} {T : TD} {p e : Nat} (hx : wfX x) (hT : wfT T) (hp : p ≤ x.1) (hee : e = tE x p) : clS x T p e (fun I => f_X0_doMove I) (fun I => f_X8_readsMove I) := by
  have he : e ≤ x.1 := by rw [hee]; exact tE_le hp
  have hnr := hT.1
  have hL := hx.1
  have hp1 := tS_le he
  have he1 := tE_le hp1
  have hp2 := tS_le he1
  have he2 := tE_le hp2
  cases hn1 : nb x (tS x e) (tE x (tS x e)) (nrT T) with
  | none =>
    refine Or.inl ⟨tS x e, hp1, fun I hc hr => ?_, fun I hm hr => ?_⟩
    · obtain ⟨I1, n1, n2, n3⟩ := x_nextN hx hc.1 (b := nrT T) he hc.2.2 (by omega)
      refine ⟨I1, ?_, frC.of1 n3 hc.1 n2.1, n2.2.1⟩
      show f_X0_doMove I = _
      unfold f_X0_doMove
      rw [hr.1, n1, zbd2, hn1, if_pos opt_none]
    · obtain ⟨I1, n1, n2, n3, n4⟩ := tok2 hx hm.1 hr he hm.2.2.1
      refine ⟨I1, ?_, n3, n2.2.1⟩
      show f_X8_readsMove I = _
      unfold f_X8_readsMove
      rw [n1, zbd1, n4.1, zjp1]
      refine Eq.trans (nb_test hx n2 (b := nrT T) (by omega) _ _) ?_
      rw [hn1]
      rfl
  | some a =>
    obtain ⟨g1, g2, g3⟩ := nb_some hn1
    have e26 : (26 : Int32) + nI a = nI (26 + a) := by rw [xlit 26, nI_add]
    cases hn2 : nb x (tS x (tE x (tS x e))) (tE x (tS x (tE x (tS x e)))) 100 with
    | none =>
      refine Or.inl ⟨tS x (tE x (tS x e)), hp2, fun I hc hr => ?_, fun I hm hr => ?_⟩
      · obtain ⟨I1, n1, n2, n3⟩ := x_nextN hx hc.1 (b := nrT T) he hc.2.2 (by omega)
        obtain ⟨I2, m1, m2, m3⟩ := x_nextN hx n2.1 (b := 100) he1 n2.2.2 (by omega)
        refine ⟨I2, ?_, (frC.of1 n3 hc.1 n2.1).tr (frC.of1 m3 n2.1 m2.1), m2.2.1⟩
        show f_X0_doMove I = _
        unfold f_X0_doMove
        rw [hr.1, n1, zbd2, hn1, if_neg (opt_m1 (by omega)), show (100 : Int32) = nI 100 from rfl, m1, zbd2, hn2, if_pos opt_none]
      · obtain ⟨I1, n1, n2, n3, n4⟩ := tok2 hx hm.1 hr he hm.2.2.1
        obtain ⟨I2, w, m1, m2, m3, m4, m5⟩ := x8_numb hx n2.1 he1 n2.2.2.1 (b := 100) (pl := 26 + a) (by decide) (by omega)
        refine ⟨I2, ?_, n3.tr m3, m2.2.1⟩
        show f_X8_readsMove I = _
        unfold f_X8_readsMove
        rw [n1, zbd1, n4.1, zjp1]
        refine Eq.trans (nb_test hx n2 (b := nrT T) (by omega) _ _) ?_
        rw [hn1, Option.isSome_some, if_pos rfl, n2.2.2.2.2 g1, ← g3, e26, nb99, m1, zbd2, hn2]
        rfl
    | some v =>
      obtain ⟨k1, k2, k3⟩ := nb_some hn2
      refine Or.inr ⟨setMv T a v, tE x (tS x (tE x (tS x e))), he2, setMv_wf hT (by omega), fun I hc hr => ?_, fun I hm hr => ?_⟩
      · obtain ⟨I1, n1, n2, n3⟩ := x_nextN hx hc.1 (b := nrT T) he hc.2.2 (by omega)
        obtain ⟨I2, m1, m2, m3⟩ := x_nextN hx n2.1 (b := 100) he1 n2.2.2 (by omega)
        have hr2 : repC T I2 10 := hr.fr (fun c h1 h2 => (m3 c (by omega)).trans (n3 c (by omega)))
        have hr3 : repC (setMv T a v) (zk_sc I2 14 (upd (I2 14) a (nI v))) 10 := by
          obtain ⟨r1, r2, r3, r4⟩ := hr2
          refine ⟨?_, ?_, fun r hr => ⟨?_, ?_, ?_, ?_⟩, fun b hb => ?_⟩
          · rw [zk_sc_n _ _ (by decide)]; exact r1
          · rw [zk_sc_n _ _ (by decide)]; exact r2
          · rw [zk_sc_n _ _ (by decide)]; exact (r3 r hr).1
          · rw [zk_sc_n _ _ (by decide)]; exact (r3 r hr).2.1
          · rw [zk_sc_n _ _ (by decide)]; exact (r3 r hr).2.2.1
          · rw [show (10 + 4 : Nat) = 14 from rfl, zk_sc_s]
            show _ = nI (if r = a then v else mvT T r)
            by_cases h : r = a
            · rw [if_pos h, h, pk_us]
            · rw [if_neg h, pk_un h]; exact (r3 r hr).2.2.2
          · rw [zk_sc_n _ _ (by decide)]; exact r4 b hb
        obtain ⟨I9, b1, b2, b3, b4⟩ := x_after hx he2 m2 ((frC.of1 n3 hc.1 n2.1).tr (frC.of1 m3 n2.1 m2.1)) (fun c h => zk_sc_n _ _ (by omega)) hr3
        refine ⟨I9, ?_, b2, b3, b4⟩
        show f_X0_doMove I = _
        unfold f_X0_doMove
        rw [hr.1, n1, zbd2, hn1, if_neg (opt_m1 (by omega)), show (100 : Int32) = nI 100 from rfl, m1, zbd2, hn2, if_neg (opt_m1 (by omega)), show opt (some v) = nI v from rfl, show opt (some a) = nI a from rfl, zck (zin (show a < 8 by omega) (by decide)), nI_clamp (show a < 2 ^ 31 by omega), zlt, b1, zbd1]
      · obtain ⟨I1, n1, n2, n3, n4⟩ := tok2 hx hm.1 hr he hm.2.2.1
        obtain ⟨I2, w, m1, m2, m3, m4, m5⟩ := x8_numb hx n2.1 he1 n2.2.2.1 (b := 100) (pl := 26 + a) (by decide) (by omega)
        refine ⟨I2, ?_, n3.tr m3, m2.2.2.1, ?_⟩
        · show f_X8_readsMove I = _
          unfold f_X8_readsMove
          rw [n1, zbd1, n4.1, zjp1]
          refine Eq.trans (nb_test hx n2 (b := nrT T) (by omega) _ _) ?_
          rw [hn1, Option.isSome_some, if_pos rfl, n2.2.2.2.2 g1, ← g3, e26, nb99, m1, zbd2, hn2]
          rfl
        · obtain ⟨r1, r2, r3, r4⟩ := n4
          unfold repM
          rw [m4, m5 v hn2]
          refine ⟨?_, ?_, fun r hrr => ⟨?_, ?_, ?_, ?_⟩, fun b hb => ?_⟩
          · rw [pk_un (by omega)]; exact r1
          · rw [pk_un (by omega)]; exact r2
          · have hrr : r < nrT T := hrr
            rw [pk_un (by omega)]; exact (r3 r hrr).1
          · have hrr : r < nrT T := hrr
            rw [pk_un (by omega)]; exact (r3 r hrr).2.1
          · have hrr : r < nrT T := hrr
            rw [pk_un (by omega)]; exact (r3 r hrr).2.2.1
          · have hrr : r < nrT T := hrr
            show _ = nI (if r = a then v else mvT T r)
            by_cases h : r = a
            · rw [if_pos h, h, pk_us]
            · rw [if_neg h, pk_un (by omega)]; exact (r3 r hrr).2.2.2
          · have hb : b < nbT T := hb
            rw [pk_un (by omega)]
            exact r4 b hb
def addB (T : TD) (v : Nat) : TD := (nrT T, nbT T + 1, kdT T, rkT T, fdT T, mvT T, (fun b => if b = nbT T then v else frT T b))
theorem cl_book {x : TX} {T : TD} {p e : Nat} (hx : wfX x) (hT : wfT T) (hp : p ≤ x.1) (hee : e = tE x p) : clS x T p e (fun I => f_X0_doBook I) (fun I => f_X8_readsBook I) := by
  have he : e ≤ x.1 := by rw [hee]; exact tE_le hp
  have hnr := hT.1
  have hnb := hT.2.1
  have hL := hx.1
  by_cases h4 : nbT T = 4
  · refine Or.inl ⟨p, hp, fun I hc hr => ⟨I, ?_, frC.rf, hc.2.1⟩, fun I hm hr => ⟨I, ?_, frM.rf, hm.2.1⟩⟩
    · show f_X0_doBook I = _
      unfold f_X0_doBook
      rw [hr.2.1, h4, if_neg (by decide)]
    · show f_X8_readsBook I = _
      unfold f_X8_readsBook
      rw [hr.2.1, h4, if_pos (show nI 4 = (4 : Int32) from rfl)]
  · have c1 : nI (nbT T) < (4 : Int32) := nI_lt (b := 4) (by omega) (by decide)
    have c2 : ¬ nI (nbT T) = (4 : Int32) := fun q => h4 (xl_inj (b := 4) (by omega) (by decide) q)
    have e34 : (34 : Int32) + nI (nbT T) = nI (34 + nbT T) := by rw [xlit 34, nI_add]
    have n1' : nI (nrT T) - 1 = nI (nrT T) - nI 1 := rfl
    cases hn1 : nb x (tS x e) (tE x (tS x e)) (nrT T) with
    | none =>
      refine Or.inl ⟨tS x e, tS_le he, fun I hc hr => ?_, fun I hm hr => ?_⟩
      · obtain ⟨I1, n1, n2, n3⟩ := x_nextN hx hc.1 (b := nrT T) he hc.2.2 (by omega)
        refine ⟨I1, ?_, frC.of1 n3 hc.1 n2.1, n2.2.1⟩
        show f_X0_doBook I = _
        unfold f_X0_doBook
        rw [hr.2.1, if_pos c1, hr.1, n1, zbd2, hn1, if_pos opt_none]
      · obtain ⟨I1, w, m1, m2, m3, m4, m5⟩ := x8_numb hx hm.1 he hm.2.2.1 (b := nrT T) (pl := 34 + nbT T) (by omega) (by omega)
        refine ⟨I1, ?_, m3, m2.2.1⟩
        show f_X8_readsBook I = _
        unfold f_X8_readsBook
        rw [hr.2.1, if_neg c2, hr.1, e34, n1', m1, zbd2, hn1]
        rfl
    | some v =>
      obtain ⟨g1, g2, g3⟩ := nb_some hn1
      refine Or.inr ⟨addB T v, tE x (tS x e), tE_le (tS_le he), ⟨hnr, show nbT T + 1 ≤ 4 by omega, hT.2.2.1, fun b hb => ?_⟩, fun I hc hr => ?_, fun I hm hr => ?_⟩
      · have hb : b < nbT T + 1 := hb
        show (if b = nbT T then v else frT T b) < nrT T
        by_cases h : b = nbT T
        · rw [if_pos h]; exact g2
        · rw [if_neg h]; exact hT.2.2.2 b (by omega)
      · obtain ⟨I1, n1, n2, n3⟩ := x_nextN hx hc.1 (b := nrT T) he hc.2.2 (by omega)
        have hr2 : repC T I1 10 := hr.fr (fun c h1 h2 => n3 c (by omega))
        have hr3 : repC (addB T v) (zk_sc (zk_sc I1 15 (upd (I1 15) (nbT T) (nI v))) 10 (upd (I1 10) 1 (nI (nbT T + 1)))) 10 := by
          obtain ⟨r1, r2, r3, r4⟩ := hr2
          refine ⟨?_, ?_, fun r hr => ?_, fun b hb => ?_⟩
          · rw [zk_sc_s, pk_un (by decide)]; exact r1
          · rw [zk_sc_s, pk_us]; rfl
          · rw [zk_sc_n _ _ (by decide), zk_sc_n _ _ (by decide), zk_sc_n _ _ (by decide), zk_sc_n _ _ (by decide), zk_sc_n _ _ (by decide), zk_sc_n _ _ (by decide), zk_sc_n _ _ (by decide), zk_sc_n _ _ (by decide)]; exact r3 r hr
          · have hb : b < nbT T + 1 := hb
            rw [zk_sc_n _ _ (by decide), show (10 + 5 : Nat) = 15 from rfl, zk_sc_s]
            show _ = nI (if b = nbT T then v else frT T b)
            by_cases h : b = nbT T
            · rw [if_pos h, h, pk_us]
            · rw [if_neg h, pk_un h]; exact r4 b (by omega)
        obtain ⟨I9, b1, b2, b3, b4⟩ := x_after hx (tE_le (tS_le he)) n2 (frC.of1 n3 hc.1 n2.1) (fun c h => by rw [zk_sc_n _ _ (by omega), zk_sc_n _ _ (by omega)]) hr3
        refine ⟨I9, ?_, b2, b3, b4⟩
        show f_X0_doBook I = _
        have ea : f_X6_addBook I1 10 (nI v) = some (zk_sc (zk_sc I1 15 (upd (I1 15) (nbT T) (nI v))) 10 (upd (I1 10) 1 (nI (nbT T + 1)))) := by
          unfold f_X6_addBook
          rw [hr2.2.1, zck (zin (show nbT T < 4 by omega) (by decide)), nI_clamp (show nbT T < 2 ^ 31 by omega), zlt, zlt, zk_sc_n _ _ (show ¬ 10 = 10 + 5 by decide), hr2.2.1, nI_1]
        unfold f_X0_doBook
        rw [hr.2.1, if_pos c1, hr.1, n1, zbd2, hn1, if_neg (opt_m1 (by omega)), show opt (some v) = nI v from rfl, ea, zbd1, b1, zbd1]
      · obtain ⟨I1, w, m1, m2, m3, m4, m5⟩ := x8_numb hx hm.1 he hm.2.2.1 (b := nrT T) (pl := 34 + nbT T) (by omega) (by omega)
        have ex : f_X8_readsBook I = some (1, zk_sc I1 79 (upd (upd (I 79) (34 + nbT T) w) 1 (nI (nbT T + 1)))) := by
          unfold f_X8_readsBook
          rw [hr.2.1, if_neg c2, hr.1, e34, n1', m1, zbd2, hn1, Option.isSome_some, if_pos rfl, if_neg n10, zlt, m4, pk_un (by omega), hr.2.1, nI_1]
        refine ⟨_, ex, m3.tr (frM.sc _), ?_, ?_⟩
        · rw [zk_sc_n _ _ (by decide)]; exact m2.2.2.1
        · obtain ⟨r1, r2, r3, r4⟩ := hr
          unfold repM
          rw [zk_sc_s, m5 v hn1]
          refine ⟨?_, ?_, fun r hrr => ?_, fun b hb => ?_⟩
          · rw [pk_un (by omega), pk_un (by omega)]; exact r1
          · rw [pk_us]; rfl
          · have hrr : r < nrT T := hrr
            rw [pk_un (by omega), pk_un (by omega), pk_un (by omega), pk_un (by omega), pk_un (by omega), pk_un (by omega), pk_un (by omega), pk_un (by omega)]
            exact r3 r hrr
          · have hb : b < nbT T + 1 := hb
            rw [pk_un (by omega)]
            show _ = nI (if b = nbT T then v else frT T b)
            by_cases h : b = nbT T
            · rw [if_pos h, h, pk_us]
            · rw [if_neg h, pk_un (by omega)]; exact r4 b (by omega)

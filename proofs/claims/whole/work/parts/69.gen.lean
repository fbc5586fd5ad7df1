/-- measureOf is right, for a measure given by its value -/
theorem ms_gen {T : TD} {dy h w0 : Nat} {I : zk_I} {J : zk_J} {a1 : Int32} {tb : Nat} {val tf : Nat → Nat → Nat} {jn : Nat → Nat → Nat} (hT : wfT T) (hB : begC T dy h w0 I) (h1 : ¬ a1 = (1 : Int32)) (h4 : ¬ a1 = (4 : Int32)) (h6 : ¬ a1 = (6 : Int32)) (h7 : ¬ a1 = (7 : Int32))
    (hth : ∀ s x, s < 256 → x < nrT T → f_X3_throughOne I a1 (lN (val (s ||| 2 ^ x) x)) (nI s) (nI x) = some (lN (tf x (val (s ||| 2 ^ x) x))))
    (hb : ∀ s w n v, s < 256 → n ≤ nrT T → jF (chN T dy h s w) (fun x => tf x (val (s ||| 2 ^ x) x)) jn n = some v → v < 2 ^ 62)
    (hj : ∀ s x u, s < 256 → x < nrT T → u < 2 ^ 62 → f_X3_join a1 (lN u) (lN (tf x (val (s ||| 2 ^ x) x))) = lN (jn u (tf x (val (s ||| 2 ^ x) x))))
    (hv0 : ∀ s w, s < 256 → chN T dy h s w = 0 → val s w = 0)
    (hv1 : ∀ s w, s < 256 → ¬ chN T dy h s w = 0 → jF (chN T dy h s w) (fun x => tf x (val (s ||| 2 ^ x) x)) jn (nrT T) = some (val s w)) : msOK T h (fun s w => lN (val s w)) I J a1 tb := by
  intro J' s w hs hsub hw hsw ho hf
  have hpw := pow_le8 hT.1
  have e := x_msS (J := J') (a1 := a1) (tb := tb) (th := fun x => tf x (val (s ||| 2 ^ x) x)) (jn := jn) hT hB hs hsub hw h1 h4 h6 h7 (fun x hx hbit => ?_) (fun n v hn hv => hb s w n v (by omega) hn hv) (fun x u hx hbit hu => hj s x u (by omega) hx hu)
  · rw [e]
    by_cases h0 : chN T dy h s w = 0
    · rw [if_pos h0]
      show some (0 : Int64) = some (lN (val s w))
      rw [hv0 s w (by omega) h0]
      rfl
    · rw [if_neg h0, hv1 s w (by omega) h0]
      rfl
  · rw [flD_behind hT hf hs hsub hbit]
    exact hth s x (by omega) hx

section ZMA
variable {X : zk_X} {d pc npc tg : Nat} {mt : zk_Mt} {L : List (Option Value)} {st : List Value} {M M' : zk_M} {dc ds : Nat} {rv : Option Value}
theorem c_mmin {idx : Nat} {x y : Int32} (h : zk_at mt pc = some (.invokestatic idx, npc, tg)) (w1 : Cond.methodLink mt.1.cls idx Lib.Math.min.name ∈ zk_tbl) (hd1 : 1 ≤ d) (h8 : (st.map fun v => v.category).sum ≤ 8) (k : zC X d mt npc L (.int (if y < x then y else x) :: st) M dc ds rv M') : zC X d mt pc L (.int y :: .int x :: st) M dc ds rv M' := by
  intro E p l e R s m args below meth c H locs cells slots Q ls hC hR hS hl hr hk
  obtain ⟨hn, hd⟩ := zk_d hC.2.2.1 h rfl
  subst hn
  exact va_mmin hC.1 hC.2.1 (hC.2.2.2.2.1.trans hl.1.symm) hC.2.2.2.2.2.1 (hC.2.2.2.2.2.2.1 _ w1) (hC.2.2.2.2.2.2.1 _ lm_J9_min_7cf53_1) (hC.2.2.2.2.2.2.1 _ lm_J9) (hC.2.2.2.2.2.2.1 _ lm_J9_min_7cf53_2) (Nat.le_trans hd1 hr.1) (by rw [zk_cat]; have := hr.2.1; omega) (by have := hr.2.2.1; omega) (by have := hr.2.2.2.1; omega) hd (k E p l e R s m args below meth c H locs cells slots Q ls hC hR hS hl hr hk)
theorem c_mmaxl {idx : Nat} {x y : Int64} (h : zk_at mt pc = some (.invokestatic idx, npc, tg)) (w1 : Cond.methodLink mt.1.cls idx Lib.MathLoose.max_long.x ∈ zk_tbl) (hd1 : 1 ≤ d) (h8 : (st.map fun v => v.category).sum ≤ 8) (k : zC X d mt npc L (.long (if y < x then x else y) :: st) M dc ds rv M') : zC X d mt pc L (.long y :: .long x :: st) M dc ds rv M' := by
  intro E p l e R s m args below meth c H locs cells slots Q ls hC hR hS hl hr hk
  obtain ⟨hn, hd⟩ := zk_d hC.2.2.1 h rfl
  subst hn
  exact va_mmax_long hC.1 hC.2.1 (hC.2.2.2.2.1.trans hl.1.symm) hC.2.2.2.2.2.1 (hC.2.2.2.2.2.2.1 _ w1) (hC.2.2.2.2.2.2.1 _ lm_J9_max_f86c9_1) (hC.2.2.2.2.2.2.1 _ lm_J9) (hC.2.2.2.2.2.2.1 _ lm_J9_max_f86c9_2) (Nat.le_trans hd1 hr.1) (by rw [zk_cat]; have := hr.2.1; omega) (by have := hr.2.2.1; omega) (by have := hr.2.2.2.1; omega) hd (k E p l e R s m args below meth c H locs cells slots Q ls hC hR hS hl hr hk)
theorem c_mminl {idx : Nat} {x y : Int64} (h : zk_at mt pc = some (.invokestatic idx, npc, tg)) (w1 : Cond.methodLink mt.1.cls idx Lib.MathLoose.min_long.x ∈ zk_tbl) (hd1 : 1 ≤ d) (h8 : (st.map fun v => v.category).sum ≤ 8) (k : zC X d mt npc L (.long (if y < x then y else x) :: st) M dc ds rv M') : zC X d mt pc L (.long y :: .long x :: st) M dc ds rv M' := by
  intro E p l e R s m args below meth c H locs cells slots Q ls hC hR hS hl hr hk
  obtain ⟨hn, hd⟩ := zk_d hC.2.2.1 h rfl
  subst hn
  exact va_mmin_long hC.1 hC.2.1 (hC.2.2.2.2.1.trans hl.1.symm) hC.2.2.2.2.2.1 (hC.2.2.2.2.2.2.1 _ w1) (hC.2.2.2.2.2.2.1 _ lm_J9_min_f86c9_1) (hC.2.2.2.2.2.2.1 _ lm_J9) (hC.2.2.2.2.2.2.1 _ lm_J9_min_f86c9_2) (Nat.le_trans hd1 hr.1) (by rw [zk_cat]; have := hr.2.1; omega) (by have := hr.2.2.1; omega) (by have := hr.2.2.2.1; omega) hd (k E p l e R s m args below meth c H locs cells slots Q ls hC hR hS hl hr hk)
end ZMA

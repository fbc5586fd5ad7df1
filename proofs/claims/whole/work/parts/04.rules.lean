/-! the rows of the judgement, one an instruction -/
section ZR
variable {X : zk_X} {d pc npc tg : Nat} {mt : zk_Mt} {L : List (Option Value)} {st : List Value} {M M' : zk_M} {dc ds : Nat} {rv : Option Value}
def zk_get : List (Option Value) → Nat → Option Value
  | [], _ => none
  | o :: _, 0 => o
  | _ :: t, n + 1 => zk_get t n
theorem zk_get_ok : ∀ {L : List (Option Value)} {i : Nat} {v : Value}, zk_get L i = some v → L[i]? = some (some v)
  | [], _, _, h => by cases h
  | _ :: _, 0, _, h => by rw [List.getElem?_cons_zero]; exact congrArg some h
  | _ :: t, n + 1, _, h => by rw [List.getElem?_cons_succ]; exact zk_get_ok (L := t) h
theorem c_iadd {x y : Int32} (h : zk_at mt pc = some (.iadd, npc, tg)) (k : zC X d mt npc L (.int (x + y) :: st) M dc ds rv M') : zC X d mt pc L (.int y :: .int x :: st) M dc ds rv M' := by
  intro E p l e R s m args below meth c H locs cells slots Q ls hC hR hS hl hr hk
  obtain ⟨hn, hd⟩ := zk_d hC.2.2.1 h rfl
  subst hn
  exact lv_iadd hC.1 hC.2.1 hd (k E p l e R s m args below meth c H locs cells slots Q ls hC hR hS hl hr hk)
theorem c_isub {x y : Int32} (h : zk_at mt pc = some (.isub, npc, tg)) (k : zC X d mt npc L (.int (x - y) :: st) M dc ds rv M') : zC X d mt pc L (.int y :: .int x :: st) M dc ds rv M' := by
  intro E p l e R s m args below meth c H locs cells slots Q ls hC hR hS hl hr hk
  obtain ⟨hn, hd⟩ := zk_d hC.2.2.1 h rfl
  subst hn
  exact lv_isub hC.1 hC.2.1 hd (k E p l e R s m args below meth c H locs cells slots Q ls hC hR hS hl hr hk)
theorem c_imul {x y : Int32} (h : zk_at mt pc = some (.imul, npc, tg)) (k : zC X d mt npc L (.int (x * y) :: st) M dc ds rv M') : zC X d mt pc L (.int y :: .int x :: st) M dc ds rv M' := by
  intro E p l e R s m args below meth c H locs cells slots Q ls hC hR hS hl hr hk
  obtain ⟨hn, hd⟩ := zk_d hC.2.2.1 h rfl
  subst hn
  exact lv_imul hC.1 hC.2.1 hd (k E p l e R s m args below meth c H locs cells slots Q ls hC hR hS hl hr hk)
theorem c_iand {x y : Int32} (h : zk_at mt pc = some (.iand, npc, tg)) (k : zC X d mt npc L (.int (x &&& y) :: st) M dc ds rv M') : zC X d mt pc L (.int y :: .int x :: st) M dc ds rv M' := by
  intro E p l e R s m args below meth c H locs cells slots Q ls hC hR hS hl hr hk
  obtain ⟨hn, hd⟩ := zk_d hC.2.2.1 h rfl
  subst hn
  exact lv_iand hC.1 hC.2.1 hd (k E p l e R s m args below meth c H locs cells slots Q ls hC hR hS hl hr hk)
theorem c_ior {x y : Int32} (h : zk_at mt pc = some (.ior, npc, tg)) (k : zC X d mt npc L (.int (x ||| y) :: st) M dc ds rv M') : zC X d mt pc L (.int y :: .int x :: st) M dc ds rv M' := by
  intro E p l e R s m args below meth c H locs cells slots Q ls hC hR hS hl hr hk
  obtain ⟨hn, hd⟩ := zk_d hC.2.2.1 h rfl
  subst hn
  exact lv_ior hC.1 hC.2.1 hd (k E p l e R s m args below meth c H locs cells slots Q ls hC hR hS hl hr hk)
theorem c_ixor {x y : Int32} (h : zk_at mt pc = some (.ixor, npc, tg)) (k : zC X d mt npc L (.int (x ^^^ y) :: st) M dc ds rv M') : zC X d mt pc L (.int y :: .int x :: st) M dc ds rv M' := by
  intro E p l e R s m args below meth c H locs cells slots Q ls hC hR hS hl hr hk
  obtain ⟨hn, hd⟩ := zk_d hC.2.2.1 h rfl
  subst hn
  exact lv_ixor hC.1 hC.2.1 hd (k E p l e R s m args below meth c H locs cells slots Q ls hC hR hS hl hr hk)
theorem c_ishl {x y : Int32} (h : zk_at mt pc = some (.ishl, npc, tg)) (k : zC X d mt npc L (.int (x <<< (y &&& 31)) :: st) M dc ds rv M') : zC X d mt pc L (.int y :: .int x :: st) M dc ds rv M' := by
  intro E p l e R s m args below meth c H locs cells slots Q ls hC hR hS hl hr hk
  obtain ⟨hn, hd⟩ := zk_d hC.2.2.1 h rfl
  subst hn
  exact lv_ishl hC.1 hC.2.1 hd (k E p l e R s m args below meth c H locs cells slots Q ls hC hR hS hl hr hk)
theorem c_ishr {x y : Int32} (h : zk_at mt pc = some (.ishr, npc, tg)) (k : zC X d mt npc L (.int (x >>> (y &&& 31)) :: st) M dc ds rv M') : zC X d mt pc L (.int y :: .int x :: st) M dc ds rv M' := by
  intro E p l e R s m args below meth c H locs cells slots Q ls hC hR hS hl hr hk
  obtain ⟨hn, hd⟩ := zk_d hC.2.2.1 h rfl
  subst hn
  exact lv_ishr hC.1 hC.2.1 hd (k E p l e R s m args below meth c H locs cells slots Q ls hC hR hS hl hr hk)
theorem c_ladd {x y : Int64} (h : zk_at mt pc = some (.ladd, npc, tg)) (k : zC X d mt npc L (.long (x + y) :: st) M dc ds rv M') : zC X d mt pc L (.long y :: .long x :: st) M dc ds rv M' := by
  intro E p l e R s m args below meth c H locs cells slots Q ls hC hR hS hl hr hk
  obtain ⟨hn, hd⟩ := zk_d hC.2.2.1 h rfl
  subst hn
  exact lv_ladd hC.1 hC.2.1 hd (k E p l e R s m args below meth c H locs cells slots Q ls hC hR hS hl hr hk)
theorem c_lsub {x y : Int64} (h : zk_at mt pc = some (.lsub, npc, tg)) (k : zC X d mt npc L (.long (x - y) :: st) M dc ds rv M') : zC X d mt pc L (.long y :: .long x :: st) M dc ds rv M' := by
  intro E p l e R s m args below meth c H locs cells slots Q ls hC hR hS hl hr hk
  obtain ⟨hn, hd⟩ := zk_d hC.2.2.1 h rfl
  subst hn
  exact lv_lsub hC.1 hC.2.1 hd (k E p l e R s m args below meth c H locs cells slots Q ls hC hR hS hl hr hk)
theorem c_lmul {x y : Int64} (h : zk_at mt pc = some (.lmul, npc, tg)) (k : zC X d mt npc L (.long (x * y) :: st) M dc ds rv M') : zC X d mt pc L (.long y :: .long x :: st) M dc ds rv M' := by
  intro E p l e R s m args below meth c H locs cells slots Q ls hC hR hS hl hr hk
  obtain ⟨hn, hd⟩ := zk_d hC.2.2.1 h rfl
  subst hn
  exact lv_lmul hC.1 hC.2.1 hd (k E p l e R s m args below meth c H locs cells slots Q ls hC hR hS hl hr hk)
theorem c_land {x y : Int64} (h : zk_at mt pc = some (.land, npc, tg)) (k : zC X d mt npc L (.long (x &&& y) :: st) M dc ds rv M') : zC X d mt pc L (.long y :: .long x :: st) M dc ds rv M' := by
  intro E p l e R s m args below meth c H locs cells slots Q ls hC hR hS hl hr hk
  obtain ⟨hn, hd⟩ := zk_d hC.2.2.1 h rfl
  subst hn
  exact lv_land hC.1 hC.2.1 hd (k E p l e R s m args below meth c H locs cells slots Q ls hC hR hS hl hr hk)
theorem c_lor {x y : Int64} (h : zk_at mt pc = some (.lor, npc, tg)) (k : zC X d mt npc L (.long (x ||| y) :: st) M dc ds rv M') : zC X d mt pc L (.long y :: .long x :: st) M dc ds rv M' := by
  intro E p l e R s m args below meth c H locs cells slots Q ls hC hR hS hl hr hk
  obtain ⟨hn, hd⟩ := zk_d hC.2.2.1 h rfl
  subst hn
  exact lv_lor hC.1 hC.2.1 hd (k E p l e R s m args below meth c H locs cells slots Q ls hC hR hS hl hr hk)
theorem c_idiv {x y : Int32} (h : zk_at mt pc = some (.idiv, npc, tg)) (hne : ¬ y = 0) (k : zC X d mt npc L (.int (x / y) :: st) M dc ds rv M') : zC X d mt pc L (.int y :: .int x :: st) M dc ds rv M' := by
  intro E p l e R s m args below meth c H locs cells slots Q ls hC hR hS hl hr hk
  obtain ⟨hn, hd⟩ := zk_d hC.2.2.1 h rfl
  subst hn
  exact lv_idiv hC.1 hC.2.1 hd hne (k E p l e R s m args below meth c H locs cells slots Q ls hC hR hS hl hr hk)
theorem c_irem {x y : Int32} (h : zk_at mt pc = some (.irem, npc, tg)) (hne : ¬ y = 0) (k : zC X d mt npc L (.int (x - x / y * y) :: st) M dc ds rv M') : zC X d mt pc L (.int y :: .int x :: st) M dc ds rv M' := by
  intro E p l e R s m args below meth c H locs cells slots Q ls hC hR hS hl hr hk
  obtain ⟨hn, hd⟩ := zk_d hC.2.2.1 h rfl
  subst hn
  exact lv_irem hC.1 hC.2.1 hd hne (k E p l e R s m args below meth c H locs cells slots Q ls hC hR hS hl hr hk)
theorem c_ldiv {x y : Int64} (h : zk_at mt pc = some (.ldiv, npc, tg)) (hne : ¬ y = 0) (k : zC X d mt npc L (.long (x / y) :: st) M dc ds rv M') : zC X d mt pc L (.long y :: .long x :: st) M dc ds rv M' := by
  intro E p l e R s m args below meth c H locs cells slots Q ls hC hR hS hl hr hk
  obtain ⟨hn, hd⟩ := zk_d hC.2.2.1 h rfl
  subst hn
  exact lv_ldiv hC.1 hC.2.1 hd hne (k E p l e R s m args below meth c H locs cells slots Q ls hC hR hS hl hr hk)
theorem c_lrem {x y : Int64} (h : zk_at mt pc = some (.lrem, npc, tg)) (hne : ¬ y = 0) (k : zC X d mt npc L (.long (x - x / y * y) :: st) M dc ds rv M') : zC X d mt pc L (.long y :: .long x :: st) M dc ds rv M' := by
  intro E p l e R s m args below meth c H locs cells slots Q ls hC hR hS hl hr hk
  obtain ⟨hn, hd⟩ := zk_d hC.2.2.1 h rfl
  subst hn
  exact lv_lrem hC.1 hC.2.1 hd hne (k E p l e R s m args below meth c H locs cells slots Q ls hC hR hS hl hr hk)
theorem c_iushr {x y : Int32} (h : zk_at mt pc = some (.iushr, npc, tg)) (k : zC X d mt npc L (.int ((x.toUInt32 >>> (y.toUInt32 &&& Int32.toUInt32 31)).toInt32) :: st) M dc ds rv M') : zC X d mt pc L (.int y :: .int x :: st) M dc ds rv M' := by
  intro E p l e R s m args below meth c H locs cells slots Q ls hC hR hS hl hr hk
  obtain ⟨hn, hd⟩ := zk_d hC.2.2.1 h rfl
  subst hn
  exact lv_iushr hC.1 hC.2.1 hd rfl (k E p l e R s m args below meth c H locs cells slots Q ls hC hR hS hl hr hk)
theorem c_lshl {x : Int64} {y : Int32} (h : zk_at mt pc = some (.lshl, npc, tg)) (k : zC X d mt npc L (.long (x <<< (y.toInt64 &&& 63)) :: st) M dc ds rv M') : zC X d mt pc L (.int y :: .long x :: st) M dc ds rv M' := by
  intro E p l e R s m args below meth c H locs cells slots Q ls hC hR hS hl hr hk
  obtain ⟨hn, hd⟩ := zk_d hC.2.2.1 h rfl
  subst hn
  exact lv_lshl hC.1 hC.2.1 hd rfl (k E p l e R s m args below meth c H locs cells slots Q ls hC hR hS hl hr hk)
theorem c_i2l {x : Int32} (h : zk_at mt pc = some (.i2l, npc, tg)) (k : zC X d mt npc L (.long x.toInt64 :: st) M dc ds rv M') : zC X d mt pc L (.int x :: st) M dc ds rv M' := by
  intro E p l e R s m args below meth c H locs cells slots Q ls hC hR hS hl hr hk
  obtain ⟨hn, hd⟩ := zk_d hC.2.2.1 h rfl
  subst hn
  exact lv_i2l hC.1 hC.2.1 hd rfl (k E p l e R s m args below meth c H locs cells slots Q ls hC hR hS hl hr hk)
theorem c_l2i {x : Int64} (h : zk_at mt pc = some (.l2i, npc, tg)) (k : zC X d mt npc L (.int x.toInt32 :: st) M dc ds rv M') : zC X d mt pc L (.long x :: st) M dc ds rv M' := by
  intro E p l e R s m args below meth c H locs cells slots Q ls hC hR hS hl hr hk
  obtain ⟨hn, hd⟩ := zk_d hC.2.2.1 h rfl
  subst hn
  exact lv_l2i hC.1 hC.2.1 hd rfl (k E p l e R s m args below meth c H locs cells slots Q ls hC hR hS hl hr hk)
theorem c_i2c {x : Int32} (h : zk_at mt pc = some (.i2c, npc, tg)) (k : zC X d mt npc L (.int (x.toUInt32 % 65536).toInt32 :: st) M dc ds rv M') : zC X d mt pc L (.int x :: st) M dc ds rv M' := by
  intro E p l e R s m args below meth c H locs cells slots Q ls hC hR hS hl hr hk
  obtain ⟨hn, hd⟩ := zk_d hC.2.2.1 h rfl
  subst hn
  exact lv_i2c hC.1 hC.2.1 hd rfl (k E p l e R s m args below meth c H locs cells slots Q ls hC hR hS hl hr hk)
theorem c_lcmp {x y : Int64} (h : zk_at mt pc = some (.lcmp, npc, tg)) (k : zC X d mt npc L (.int (lg_cmp x y) :: st) M dc ds rv M') : zC X d mt pc L (.long y :: .long x :: st) M dc ds rv M' := by
  intro E p l e R s m args below meth c H locs cells slots Q ls hC hR hS hl hr hk
  obtain ⟨hn, hd⟩ := zk_d hC.2.2.1 h rfl
  subst hn
  exact W.lcmp hC.1 hC.2.1 hd  (k E p l e R s m args below meth c H locs cells slots Q ls hC hR hS hl hr hk)
theorem c_iconst {n : Int} {v : Int32} (h : zk_at mt pc = some (.iconst n, npc, tg)) (hv : Int32.ofInt n = v) (k : zC X d mt npc L (.int v :: st) M dc ds rv M') : zC X d mt pc L (st) M dc ds rv M' := by
  intro E p l e R s m args below meth c H locs cells slots Q ls hC hR hS hl hr hk
  obtain ⟨hn, hd⟩ := zk_d hC.2.2.1 h rfl
  subst hn
  exact lv_iconst hC.1 hC.2.1 hd hv (k E p l e R s m args below meth c H locs cells slots Q ls hC hR hS hl hr hk)
theorem c_bipush {n : Int} {v : Int32} (h : zk_at mt pc = some (.bipush n, npc, tg)) (hv : (Int8.ofInt n).toInt32 = v) (k : zC X d mt npc L (.int v :: st) M dc ds rv M') : zC X d mt pc L (st) M dc ds rv M' := by
  intro E p l e R s m args below meth c H locs cells slots Q ls hC hR hS hl hr hk
  obtain ⟨hn, hd⟩ := zk_d hC.2.2.1 h rfl
  subst hn
  exact lv_bipush hC.1 hC.2.1 hd hv (k E p l e R s m args below meth c H locs cells slots Q ls hC hR hS hl hr hk)
theorem c_sipush {n : Int} {v : Int32} (h : zk_at mt pc = some (.sipush n, npc, tg)) (hv : (Int16.ofInt n).toInt32 = v) (k : zC X d mt npc L (.int v :: st) M dc ds rv M') : zC X d mt pc L (st) M dc ds rv M' := by
  intro E p l e R s m args below meth c H locs cells slots Q ls hC hR hS hl hr hk
  obtain ⟨hn, hd⟩ := zk_d hC.2.2.1 h rfl
  subst hn
  exact lv_sipush hC.1 hC.2.1 hd hv (k E p l e R s m args below meth c H locs cells slots Q ls hC hR hS hl hr hk)
theorem c_lconst {n : Fin 2} {v : Int64} (h : zk_at mt pc = some (.lconst n, npc, tg)) (hv : Int64.ofNat (n : Nat) = v) (k : zC X d mt npc L (.long v :: st) M dc ds rv M') : zC X d mt pc L (st) M dc ds rv M' := by
  intro E p l e R s m args below meth c H locs cells slots Q ls hC hR hS hl hr hk
  obtain ⟨hn, hd⟩ := zk_d hC.2.2.1 h rfl
  subst hn
  exact lv_lconst hC.1 hC.2.1 hd hv (k E p l e R s m args below meth c H locs cells slots Q ls hC hR hS hl hr hk)
theorem c_iload_n {n : Fin 4} {x : Int32} (h : zk_at mt pc = some (.iload_n n, npc, tg)) (hL : zk_get L n.val = some (.int x)) (k : zC X d mt npc L (.int x :: st) M dc ds rv M') : zC X d mt pc L (st) M dc ds rv M' := by
  intro E p l e R s m args below meth c H locs cells slots Q ls hC hR hS hl hr hk
  obtain ⟨hn, hd⟩ := zk_d hC.2.2.1 h rfl
  subst hn
  exact lv_iload_n hC.1 hC.2.1 hd rfl (hl.2.2 _ _ (zk_get_ok hL)) (k E p l e R s m args below meth c H locs cells slots Q ls hC hR hS hl hr hk)
theorem c_iload {i : Nat} {x : Int32} (h : zk_at mt pc = some (.iload i, npc, tg)) (hL : zk_get L i = some (.int x)) (k : zC X d mt npc L (.int x :: st) M dc ds rv M') : zC X d mt pc L (st) M dc ds rv M' := by
  intro E p l e R s m args below meth c H locs cells slots Q ls hC hR hS hl hr hk
  obtain ⟨hn, hd⟩ := zk_d hC.2.2.1 h rfl
  subst hn
  exact lv_iload hC.1 hC.2.1 hd (hl.2.2 _ _ (zk_get_ok hL)) (k E p l e R s m args below meth c H locs cells slots Q ls hC hR hS hl hr hk)
theorem c_lload_n {n : Fin 4} {x : Int64} (h : zk_at mt pc = some (.lload_n n, npc, tg)) (hL : zk_get L n.val = some (.long x)) (k : zC X d mt npc L (.long x :: st) M dc ds rv M') : zC X d mt pc L (st) M dc ds rv M' := by
  intro E p l e R s m args below meth c H locs cells slots Q ls hC hR hS hl hr hk
  obtain ⟨hn, hd⟩ := zk_d hC.2.2.1 h rfl
  subst hn
  exact lv_lload_n hC.1 hC.2.1 hd rfl (hl.2.2 _ _ (zk_get_ok hL)) (k E p l e R s m args below meth c H locs cells slots Q ls hC hR hS hl hr hk)
theorem c_lload {i : Nat} {x : Int64} (h : zk_at mt pc = some (.lload i, npc, tg)) (hL : zk_get L i = some (.long x)) (k : zC X d mt npc L (.long x :: st) M dc ds rv M') : zC X d mt pc L (st) M dc ds rv M' := by
  intro E p l e R s m args below meth c H locs cells slots Q ls hC hR hS hl hr hk
  obtain ⟨hn, hd⟩ := zk_d hC.2.2.1 h rfl
  subst hn
  exact lv_lload hC.1 hC.2.1 hd (hl.2.2 _ _ (zk_get_ok hL)) (k E p l e R s m args below meth c H locs cells slots Q ls hC hR hS hl hr hk)
theorem c_aload_n {n : Fin 4} {x : Nat} (h : zk_at mt pc = some (.aload_n n, npc, tg)) (hL : zk_get L n.val = some (.ref x)) (k : zC X d mt npc L (.ref x :: st) M dc ds rv M') : zC X d mt pc L (st) M dc ds rv M' := by
  intro E p l e R s m args below meth c H locs cells slots Q ls hC hR hS hl hr hk
  obtain ⟨hn, hd⟩ := zk_d hC.2.2.1 h rfl
  subst hn
  exact lv_aload_n hC.1 hC.2.1 hd rfl (hl.2.2 _ _ (zk_get_ok hL)) (k E p l e R s m args below meth c H locs cells slots Q ls hC hR hS hl hr hk)
theorem c_aload {i : Nat} {x : Nat} (h : zk_at mt pc = some (.aload i, npc, tg)) (hL : zk_get L i = some (.ref x)) (k : zC X d mt npc L (.ref x :: st) M dc ds rv M') : zC X d mt pc L (st) M dc ds rv M' := by
  intro E p l e R s m args below meth c H locs cells slots Q ls hC hR hS hl hr hk
  obtain ⟨hn, hd⟩ := zk_d hC.2.2.1 h rfl
  subst hn
  exact lv_aload hC.1 hC.2.1 hd (hl.2.2 _ _ (zk_get_ok hL)) (k E p l e R s m args below meth c H locs cells slots Q ls hC hR hS hl hr hk)
theorem c_dup {v : Value} (h : zk_at mt pc = some (.dup, npc, tg)) (hv : v.category = 1) (k : zC X d mt npc L (v :: v :: st) M dc ds rv M') : zC X d mt pc L (v :: st) M dc ds rv M' := by
  intro E p l e R s m args below meth c H locs cells slots Q ls hC hR hS hl hr hk
  obtain ⟨hn, hd⟩ := zk_d hC.2.2.1 h rfl
  subst hn
  exact lv_dup hC.1 hC.2.1 hd ((zk_tr_cat E v).trans hv) (k E p l e R s m args below meth c H locs cells slots Q ls hC hR hS hl hr hk)
theorem c_pop {v : Value} (h : zk_at mt pc = some (.pop, npc, tg)) (hv : v.category = 1) (k : zC X d mt npc L (st) M dc ds rv M') : zC X d mt pc L (v :: st) M dc ds rv M' := by
  intro E p l e R s m args below meth c H locs cells slots Q ls hC hR hS hl hr hk
  obtain ⟨hn, hd⟩ := zk_d hC.2.2.1 h rfl
  subst hn
  exact lv_pop hC.1 hC.2.1 hd ((zk_tr_cat E v).trans hv) (k E p l e R s m args below meth c H locs cells slots Q ls hC hR hS hl hr hk)
theorem c_dup2 {v w : Value} (h : zk_at mt pc = some (.dup2, npc, tg)) (hv : v.category = 1) (hw : w.category = 1) (k : zC X d mt npc L (v :: w :: v :: w :: st) M dc ds rv M') : zC X d mt pc L (v :: w :: st) M dc ds rv M' := by
  intro E p l e R s m args below meth c H locs cells slots Q ls hC hR hS hl hr hk
  obtain ⟨hn, hd⟩ := zk_d hC.2.2.1 h rfl
  subst hn
  exact lv_dup2_11 hC.1 hC.2.1 hd ((zk_tr_cat E v).trans hv) ((zk_tr_cat E w).trans hw) (k E p l e R s m args below meth c H locs cells slots Q ls hC hR hS hl hr hk)
theorem c_dup2l {v : Value} (h : zk_at mt pc = some (.dup2, npc, tg)) (hv : v.category = 2) (k : zC X d mt npc L (v :: v :: st) M dc ds rv M') : zC X d mt pc L (v :: st) M dc ds rv M' := by
  intro E p l e R s m args below meth c H locs cells slots Q ls hC hR hS hl hr hk
  obtain ⟨hn, hd⟩ := zk_d hC.2.2.1 h rfl
  subst hn
  exact lv_dup2_2 hC.1 hC.2.1 hd ((zk_tr_cat E v).trans hv) (k E p l e R s m args below meth c H locs cells slots Q ls hC hR hS hl hr hk)
theorem c_istore_n {n : Fin 4} {x : Int32} (h : zk_at mt pc = some (.istore_n n, npc, tg)) (hi : n.val < mt.2.2.1) (hd2 : zk_nod L = true) (k : zC X d mt npc (zk_set L n.val (.int x)) st M dc ds rv M') : zC X d mt pc L (.int x :: st) M dc ds rv M' := by
  intro E p l e R s m args below meth c H locs cells slots Q ls hC hR hS hl hr hk
  obtain ⟨hn, hd⟩ := zk_d hC.2.2.1 h rfl
  subst hn
  exact lv_istore_n hC.1 hC.2.1 hd rfl hl.has hi rfl (fun ls2 h2 => k E p l e R s m args below meth c H locs cells slots Q ls2 hC hR hS (zk_lv.set (v := .int x) hd2 h2) hr hk)
theorem c_istore {i : Nat} {x : Int32} (h : zk_at mt pc = some (.istore i, npc, tg)) (hi : i < mt.2.2.1) (hd2 : zk_nod L = true) (k : zC X d mt npc (zk_set L i (.int x)) st M dc ds rv M') : zC X d mt pc L (.int x :: st) M dc ds rv M' := by
  intro E p l e R s m args below meth c H locs cells slots Q ls hC hR hS hl hr hk
  obtain ⟨hn, hd⟩ := zk_d hC.2.2.1 h rfl
  subst hn
  exact lv_istore hC.1 hC.2.1 hd hl.has hi rfl (fun ls2 h2 => k E p l e R s m args below meth c H locs cells slots Q ls2 hC hR hS (zk_lv.set (v := .int x) hd2 h2) hr hk)
theorem c_lstore_n {n : Fin 4} {x : Int64} (h : zk_at mt pc = some (.lstore_n n, npc, tg)) (hi : n.val + 1 < mt.2.2.1) (hd2 : zk_nod L = true) (k : zC X d mt npc (zk_set2 L n.val (.long x)) st M dc ds rv M') : zC X d mt pc L (.long x :: st) M dc ds rv M' := by
  intro E p l e R s m args below meth c H locs cells slots Q ls hC hR hS hl hr hk
  obtain ⟨hn, hd⟩ := zk_d hC.2.2.1 h rfl
  subst hn
  exact lv_lstore_n hC.1 hC.2.1 hd rfl hl.has hi rfl (fun ls2 h2 => k E p l e R s m args below meth c H locs cells slots Q ls2 hC hR hS (zk_lv.set2 (v := .long x) hd2 h2) hr hk)
theorem c_lstore {i : Nat} {x : Int64} (h : zk_at mt pc = some (.lstore i, npc, tg)) (hi : i + 1 < mt.2.2.1) (hd2 : zk_nod L = true) (k : zC X d mt npc (zk_set2 L i (.long x)) st M dc ds rv M') : zC X d mt pc L (.long x :: st) M dc ds rv M' := by
  intro E p l e R s m args below meth c H locs cells slots Q ls hC hR hS hl hr hk
  obtain ⟨hn, hd⟩ := zk_d hC.2.2.1 h rfl
  subst hn
  exact lv_lstore hC.1 hC.2.1 hd hl.has hi rfl (fun ls2 h2 => k E p l e R s m args below meth c H locs cells slots Q ls2 hC hR hS (zk_lv.set2 (v := .long x) hd2 h2) hr hk)
theorem c_astore_n {n : Fin 4} {x : Nat} (h : zk_at mt pc = some (.astore_n n, npc, tg)) (hi : n.val < mt.2.2.1) (hd2 : zk_nod L = true) (k : zC X d mt npc (zk_set L n.val (.ref x)) st M dc ds rv M') : zC X d mt pc L (.ref x :: st) M dc ds rv M' := by
  intro E p l e R s m args below meth c H locs cells slots Q ls hC hR hS hl hr hk
  obtain ⟨hn, hd⟩ := zk_d hC.2.2.1 h rfl
  subst hn
  exact lv_astore_n hC.1 hC.2.1 hd rfl hl.has hi rfl (fun ls2 h2 => k E p l e R s m args below meth c H locs cells slots Q ls2 hC hR hS (zk_lv.set (v := .ref x) hd2 h2) hr hk)
theorem c_astore {i : Nat} {x : Nat} (h : zk_at mt pc = some (.astore i, npc, tg)) (hi : i < mt.2.2.1) (hd2 : zk_nod L = true) (k : zC X d mt npc (zk_set L i (.ref x)) st M dc ds rv M') : zC X d mt pc L (.ref x :: st) M dc ds rv M' := by
  intro E p l e R s m args below meth c H locs cells slots Q ls hC hR hS hl hr hk
  obtain ⟨hn, hd⟩ := zk_d hC.2.2.1 h rfl
  subst hn
  exact lv_astore hC.1 hC.2.1 hd hl.has hi rfl (fun ls2 h2 => k E p l e R s m args below meth c H locs cells slots Q ls2 hC hR hS (zk_lv.set (v := .ref x) hd2 h2) hr hk)
theorem zk_pr_at {E : zk_E} {L : List (Option Value)} {i : Nat} {v : Value} (h : L[i]? = some (some v)) : ∃ k : Nat, (zk_pr E L)[k]? = some (i, zk_tr E v) :=
  List.getElem?_of_mem (zk_pr_mem.mpr ⟨v, h, rfl⟩)
theorem c_iinc {i : Nat} {n : Int} {x v : Int32} (h : zk_at mt pc = some (.iinc i n, npc, tg)) (hL : zk_get L i = some (.int x)) (hv : Int32.ofInt n = v) (hi : i < mt.2.2.1) (hd2 : zk_nod L = true) (k : zC X d mt npc (zk_set L i (.int (x + v))) st M dc ds rv M') : zC X d mt pc L st M dc ds rv M' := by
  intro E p l e R s m args below meth c H locs cells slots Q ls hC hR hS hl hr hk
  obtain ⟨hn, hd⟩ := zk_d hC.2.2.1 h rfl
  subst hn
  obtain ⟨q, hq⟩ := zk_pr_at (E := E) (zk_get_ok hL)
  exact lv_iinc (k := q) (x := x) (v := x + v) hC.1 hC.2.1 hd hl.has hq (by rw [hv]) hi rfl (fun ls2 h2 => k E p l e R s m args below meth c H locs cells slots Q ls2 hC hR hS (zk_lv.set (v := .int (x + v)) hd2 h2) hr hk)
theorem c_if_eq {x : Int32} {o : Int} (h : zk_at mt pc = some (.ifCond .eq o, npc, tg)) (kt : x = 0 → zC X d mt tg L st M dc ds rv M') (kf : ¬ x = 0 → zC X d mt npc L st M dc ds rv M') : zC X d mt pc L (.int x :: st) M dc ds rv M' := by
  intro E p l e R s m args below meth c H locs cells slots Q ls hC hR hS hl hr hk
  obtain ⟨hn, hd⟩ := zk_d hC.2.2.1 h rfl
  subst hn
  exact lv_if_eq hC.1 hC.2.1 hd ((zk_row hC.2.2.1 h).2.2 _ rfl) (fun q => kt q E p l e R s m args below meth c H locs cells slots Q ls hC hR hS hl hr hk) (fun q => kf q E p l e R s m args below meth c H locs cells slots Q ls hC hR hS hl hr hk)
theorem c_icmp_eq {x y : Int32} {o : Int} (h : zk_at mt pc = some (.if_icmp .eq o, npc, tg)) (kt : x = y → zC X d mt tg L st M dc ds rv M') (kf : ¬ x = y → zC X d mt npc L st M dc ds rv M') : zC X d mt pc L (.int y :: .int x :: st) M dc ds rv M' := by
  intro E p l e R s m args below meth c H locs cells slots Q ls hC hR hS hl hr hk
  obtain ⟨hn, hd⟩ := zk_d hC.2.2.1 h rfl
  subst hn
  exact lv_icmp_eq hC.1 hC.2.1 hd ((zk_row hC.2.2.1 h).2.2 _ rfl) (fun q => kt q E p l e R s m args below meth c H locs cells slots Q ls hC hR hS hl hr hk) (fun q => kf q E p l e R s m args below meth c H locs cells slots Q ls hC hR hS hl hr hk)
theorem c_if_ne {x : Int32} {o : Int} (h : zk_at mt pc = some (.ifCond .ne o, npc, tg)) (kt : ¬ x = 0 → zC X d mt tg L st M dc ds rv M') (kf : x = 0 → zC X d mt npc L st M dc ds rv M') : zC X d mt pc L (.int x :: st) M dc ds rv M' := by
  intro E p l e R s m args below meth c H locs cells slots Q ls hC hR hS hl hr hk
  obtain ⟨hn, hd⟩ := zk_d hC.2.2.1 h rfl
  subst hn
  exact lv_if_ne hC.1 hC.2.1 hd ((zk_row hC.2.2.1 h).2.2 _ rfl) (fun q => kt q E p l e R s m args below meth c H locs cells slots Q ls hC hR hS hl hr hk) (fun q => kf q E p l e R s m args below meth c H locs cells slots Q ls hC hR hS hl hr hk)
theorem c_icmp_ne {x y : Int32} {o : Int} (h : zk_at mt pc = some (.if_icmp .ne o, npc, tg)) (kt : ¬ x = y → zC X d mt tg L st M dc ds rv M') (kf : x = y → zC X d mt npc L st M dc ds rv M') : zC X d mt pc L (.int y :: .int x :: st) M dc ds rv M' := by
  intro E p l e R s m args below meth c H locs cells slots Q ls hC hR hS hl hr hk
  obtain ⟨hn, hd⟩ := zk_d hC.2.2.1 h rfl
  subst hn
  exact lv_icmp_ne hC.1 hC.2.1 hd ((zk_row hC.2.2.1 h).2.2 _ rfl) (fun q => kt q E p l e R s m args below meth c H locs cells slots Q ls hC hR hS hl hr hk) (fun q => kf q E p l e R s m args below meth c H locs cells slots Q ls hC hR hS hl hr hk)
theorem c_if_lt {x : Int32} {o : Int} (h : zk_at mt pc = some (.ifCond .lt o, npc, tg)) (kt : x < 0 → zC X d mt tg L st M dc ds rv M') (kf : ¬ x < 0 → zC X d mt npc L st M dc ds rv M') : zC X d mt pc L (.int x :: st) M dc ds rv M' := by
  intro E p l e R s m args below meth c H locs cells slots Q ls hC hR hS hl hr hk
  obtain ⟨hn, hd⟩ := zk_d hC.2.2.1 h rfl
  subst hn
  exact lv_if_lt hC.1 hC.2.1 hd ((zk_row hC.2.2.1 h).2.2 _ rfl) (fun q => kt q E p l e R s m args below meth c H locs cells slots Q ls hC hR hS hl hr hk) (fun q => kf q E p l e R s m args below meth c H locs cells slots Q ls hC hR hS hl hr hk)
theorem c_icmp_lt {x y : Int32} {o : Int} (h : zk_at mt pc = some (.if_icmp .lt o, npc, tg)) (kt : x < y → zC X d mt tg L st M dc ds rv M') (kf : ¬ x < y → zC X d mt npc L st M dc ds rv M') : zC X d mt pc L (.int y :: .int x :: st) M dc ds rv M' := by
  intro E p l e R s m args below meth c H locs cells slots Q ls hC hR hS hl hr hk
  obtain ⟨hn, hd⟩ := zk_d hC.2.2.1 h rfl
  subst hn
  exact lv_icmp_lt hC.1 hC.2.1 hd ((zk_row hC.2.2.1 h).2.2 _ rfl) (fun q => kt q E p l e R s m args below meth c H locs cells slots Q ls hC hR hS hl hr hk) (fun q => kf q E p l e R s m args below meth c H locs cells slots Q ls hC hR hS hl hr hk)
theorem c_if_ge {x : Int32} {o : Int} (h : zk_at mt pc = some (.ifCond .ge o, npc, tg)) (kt : 0 ≤ x → zC X d mt tg L st M dc ds rv M') (kf : ¬ 0 ≤ x → zC X d mt npc L st M dc ds rv M') : zC X d mt pc L (.int x :: st) M dc ds rv M' := by
  intro E p l e R s m args below meth c H locs cells slots Q ls hC hR hS hl hr hk
  obtain ⟨hn, hd⟩ := zk_d hC.2.2.1 h rfl
  subst hn
  exact lv_if_ge hC.1 hC.2.1 hd ((zk_row hC.2.2.1 h).2.2 _ rfl) (fun q => kt q E p l e R s m args below meth c H locs cells slots Q ls hC hR hS hl hr hk) (fun q => kf q E p l e R s m args below meth c H locs cells slots Q ls hC hR hS hl hr hk)
theorem c_icmp_ge {x y : Int32} {o : Int} (h : zk_at mt pc = some (.if_icmp .ge o, npc, tg)) (kt : y ≤ x → zC X d mt tg L st M dc ds rv M') (kf : ¬ y ≤ x → zC X d mt npc L st M dc ds rv M') : zC X d mt pc L (.int y :: .int x :: st) M dc ds rv M' := by
  intro E p l e R s m args below meth c H locs cells slots Q ls hC hR hS hl hr hk
  obtain ⟨hn, hd⟩ := zk_d hC.2.2.1 h rfl
  subst hn
  exact lv_icmp_ge hC.1 hC.2.1 hd ((zk_row hC.2.2.1 h).2.2 _ rfl) (fun q => kt q E p l e R s m args below meth c H locs cells slots Q ls hC hR hS hl hr hk) (fun q => kf q E p l e R s m args below meth c H locs cells slots Q ls hC hR hS hl hr hk)
theorem c_if_gt {x : Int32} {o : Int} (h : zk_at mt pc = some (.ifCond .gt o, npc, tg)) (kt : 0 < x → zC X d mt tg L st M dc ds rv M') (kf : ¬ 0 < x → zC X d mt npc L st M dc ds rv M') : zC X d mt pc L (.int x :: st) M dc ds rv M' := by
  intro E p l e R s m args below meth c H locs cells slots Q ls hC hR hS hl hr hk
  obtain ⟨hn, hd⟩ := zk_d hC.2.2.1 h rfl
  subst hn
  exact lv_if_gt hC.1 hC.2.1 hd ((zk_row hC.2.2.1 h).2.2 _ rfl) (fun q => kt q E p l e R s m args below meth c H locs cells slots Q ls hC hR hS hl hr hk) (fun q => kf q E p l e R s m args below meth c H locs cells slots Q ls hC hR hS hl hr hk)
theorem c_icmp_gt {x y : Int32} {o : Int} (h : zk_at mt pc = some (.if_icmp .gt o, npc, tg)) (kt : y < x → zC X d mt tg L st M dc ds rv M') (kf : ¬ y < x → zC X d mt npc L st M dc ds rv M') : zC X d mt pc L (.int y :: .int x :: st) M dc ds rv M' := by
  intro E p l e R s m args below meth c H locs cells slots Q ls hC hR hS hl hr hk
  obtain ⟨hn, hd⟩ := zk_d hC.2.2.1 h rfl
  subst hn
  exact lv_icmp_gt hC.1 hC.2.1 hd ((zk_row hC.2.2.1 h).2.2 _ rfl) (fun q => kt q E p l e R s m args below meth c H locs cells slots Q ls hC hR hS hl hr hk) (fun q => kf q E p l e R s m args below meth c H locs cells slots Q ls hC hR hS hl hr hk)
theorem c_if_le {x : Int32} {o : Int} (h : zk_at mt pc = some (.ifCond .le o, npc, tg)) (kt : x ≤ 0 → zC X d mt tg L st M dc ds rv M') (kf : ¬ x ≤ 0 → zC X d mt npc L st M dc ds rv M') : zC X d mt pc L (.int x :: st) M dc ds rv M' := by
  intro E p l e R s m args below meth c H locs cells slots Q ls hC hR hS hl hr hk
  obtain ⟨hn, hd⟩ := zk_d hC.2.2.1 h rfl
  subst hn
  exact lv_if_le hC.1 hC.2.1 hd ((zk_row hC.2.2.1 h).2.2 _ rfl) (fun q => kt q E p l e R s m args below meth c H locs cells slots Q ls hC hR hS hl hr hk) (fun q => kf q E p l e R s m args below meth c H locs cells slots Q ls hC hR hS hl hr hk)
theorem c_icmp_le {x y : Int32} {o : Int} (h : zk_at mt pc = some (.if_icmp .le o, npc, tg)) (kt : x ≤ y → zC X d mt tg L st M dc ds rv M') (kf : ¬ x ≤ y → zC X d mt npc L st M dc ds rv M') : zC X d mt pc L (.int y :: .int x :: st) M dc ds rv M' := by
  intro E p l e R s m args below meth c H locs cells slots Q ls hC hR hS hl hr hk
  obtain ⟨hn, hd⟩ := zk_d hC.2.2.1 h rfl
  subst hn
  exact lv_icmp_le hC.1 hC.2.1 hd ((zk_row hC.2.2.1 h).2.2 _ rfl) (fun q => kt q E p l e R s m args below meth c H locs cells slots Q ls hC hR hS hl hr hk) (fun q => kf q E p l e R s m args below meth c H locs cells slots Q ls hC hR hS hl hr hk)
theorem c_goto {o : Int} (h : zk_at mt pc = some (.goto o, npc, tg)) (k : zC X d mt tg L st M dc ds rv M') : zC X d mt pc L st M dc ds rv M' := by
  intro E p l e R s m args below meth c H locs cells slots Q ls hC hR hS hl hr hk
  obtain ⟨hn, hd⟩ := zk_d hC.2.2.1 h rfl
  subst hn
  exact lv_goto hC.1 hC.2.1 hd ((zk_row hC.2.2.1 h).2.2 _ rfl) (k E p l e R s m args below meth c H locs cells slots Q ls hC hR hS hl hr hk)
theorem c_swIn {dflt lo hi : Int} {offs : Array Int} {x : Int32} {off : Int} {tgt : Nat} (h : zk_at mt pc = some (.tableswitch dflt lo hi offs, npc, tg)) (h1 : ¬ x.toInt < lo) (h2 : ¬ hi < x.toInt) (ho : offs[(x.toInt - lo).toNat]? = some off) (ht : (pc : Int) + off = (tgt : Int)) (k : zC X d mt tgt L st M dc ds rv M') : zC X d mt pc L (.int x :: st) M dc ds rv M' := by
  intro E p l e R s m args below meth c H locs cells slots Q ls hC hR hS hl hr hk
  exact lv_tableIn hC.1 hC.2.1 (zk_row hC.2.2.1 h).1 h1 h2 ho ht (k E p l e R s m args below meth c H locs cells slots Q ls hC hR hS hl hr hk)
theorem c_swOut {dflt lo hi : Int} {offs : Array Int} {x : Int32} {tgt : Nat} (h : zk_at mt pc = some (.tableswitch dflt lo hi offs, npc, tg)) (h1 : x.toInt < lo ∨ hi < x.toInt) (ht : (pc : Int) + dflt = (tgt : Int)) (k : zC X d mt tgt L st M dc ds rv M') : zC X d mt pc L (.int x :: st) M dc ds rv M' := by
  intro E p l e R s m args below meth c H locs cells slots Q ls hC hR hS hl hr hk
  exact lv_tableOut hC.1 hC.2.1 (zk_row hC.2.2.1 h).1 h1 ht (k E p l e R s m args below meth c H locs cells slots Q ls hC hR hS hl hr hk)
theorem c_ireturn {v : Int32} {ty : FieldType} (h : zk_at mt pc = some (.ireturn, npc, tg)) (hty : mt.2.2.2.1 = some ty) (hv : narrow ty (.int v) = .int v) : zC X d mt pc L [.int v] M 0 0 (some (.int v)) M := by
  intro E p l e R s m args below meth c H locs cells slots Q ls hC hR hS hl hr hk
  obtain ⟨hn, hd⟩ := zk_d hC.2.2.1 h rfl
  subst hn
  exact hk pc ls H locs (Or.inr (Or.inl ⟨v, ty, rfl, hty, hv, hd⟩)) hR hS
theorem c_lreturn {v : Int64} (h : zk_at mt pc = some (.lreturn, npc, tg)) (hty : mt.2.2.2.1 = some .long) : zC X d mt pc L [.long v] M 0 0 (some (.long v)) M := by
  intro E p l e R s m args below meth c H locs cells slots Q ls hC hR hS hl hr hk
  obtain ⟨hn, hd⟩ := zk_d hC.2.2.1 h rfl
  subst hn
  exact hk pc ls H locs (Or.inr (Or.inr ⟨v, rfl, hty, hd⟩)) hR hS
theorem c_return (h : zk_at mt pc = some (.return_, npc, tg)) (hty : mt.2.2.2.1 = none) : zC X d mt pc L [] M 0 0 none M := by
  intro E p l e R s m args below meth c H locs cells slots Q ls hC hR hS hl hr hk
  obtain ⟨hn, hd⟩ := zk_d hC.2.2.1 h rfl
  subst hn
  exact hk pc ls H locs (Or.inl ⟨rfl, hty, hd⟩) hR hS
theorem c_ldcw {i : Nat} {v : Int32} (h : zk_at mt pc = some (.ldc_w i, npc, tg)) (hw : Cond.constant mt.1.cls i v ∈ zk_tbl) (k : zC X d mt npc L (.int v :: st) M dc ds rv M') : zC X d mt pc L st M dc ds rv M' := by
  intro E p l e R s m args below meth c H locs cells slots Q ls hC hR hS hl hr hk
  obtain ⟨hn, hd⟩ := zk_d hC.2.2.1 h rfl
  subst hn
  exact lv_ldcw hC.1 hC.2.1 hC.2.2.2.2.2.1 (hC.2.2.2.2.2.2.1 _ hw) hd (k E p l e R s m args below meth c H locs cells slots Q ls hC hR hS hl hr hk)
theorem c_ldc2 {i : Nat} {v : Int64} (h : zk_at mt pc = some (.ldc2_w i, npc, tg)) (hw : Cond.constantLong mt.1.cls i v ∈ zk_tbl) (k : zC X d mt npc L (.long v :: st) M dc ds rv M') : zC X d mt pc L st M dc ds rv M' := by
  intro E p l e R s m args below meth c H locs cells slots Q ls hC hR hS hl hr hk
  obtain ⟨hn, hd⟩ := zk_d hC.2.2.1 h rfl
  subst hn
  exact lv_ldc2 hC.1 hC.2.1 hC.2.2.2.2.2.1 (hC.2.2.2.2.2.2.1 _ hw) hd (k E p l e R s m args below meth c H locs cells slots Q ls hC hR hS hl hr hk)
end ZR

/-! the law's loop -/
def D00 : DD := (0, (fun _ => 0), (fun _ => 0), fun _ => 0)
def S00 : ST := ((0, fun _ => 0), (0, 0, (fun _ => 0), (fun _ => 0), (fun _ => 0), (fun _ => 0), fun _ => 0), D00, (0, fun _ => D00), (fun _ => none), (0, (fun _ => 0), fun _ => 0))
theorem inv00 : inv S00 z_I0 := by
  have no : ∀ {P : Prop} {i : Nat}, i < 0 → P := fun h => absurd h (Nat.not_lt_zero _)
  refine ⟨⟨⟨Nat.zero_le _, fun j hj => no hj⟩, ⟨Nat.zero_le _, Nat.zero_le _, fun r hr => no hr, fun b hb => no hb⟩, ⟨Nat.zero_le _, fun b hb => no hb⟩, ⟨Nat.zero_le _, fun i hi => no hi⟩, (fun k D hk hD => nomatch hD), ⟨Nat.zero_le _, fun i hi => no hi⟩⟩, ⟨⟨rfl, fun j hj => no hj⟩, ⟨rfl, rfl, fun r hr => no hr, fun b hb => no hb⟩, ⟨rfl, fun b hb => no hb⟩, ⟨rfl, 0, by decide, rfl, fun i hi => no hi⟩, ⟨0, by decide, rfl, fun k hk => ⟨fun _ => Nat.zero_testBit k, fun D hD => nomatch hD⟩⟩, ⟨rfl, fun i hi => no hi⟩⟩, ⟨⟨rfl, fun j hj => no hj⟩, ⟨rfl, rfl, fun r hr => no hr, fun b hb => no hb⟩, ⟨rfl, rfl, fun b hb => no hb⟩, ⟨rfl, fun i hi => no hi⟩, fun k hk => ⟨fun _ => rfl, fun D hD => nomatch hD⟩, ⟨rfl, fun i hi => no hi⟩⟩⟩
theorem law_ex {L k : Nat} (hL : L ≤ 256) (hk : k ≤ 65) : (Int32.ofNat L - (4 : Int32) < nI (4 * k)) ↔ L < 4 * k + 4 := by
  show (nI L - nI 4 < nI (4 * k)) ↔ _
  rw [Int32.lt_iff_toInt_lt, pk_sub_toInt (by omega) (by decide), nI_toInt (by omega)]
  omega
theorem law_body {X : zk_X} {k n : Nat} {S : ST} {I : zk_I} {J : zk_J} (hL : X.1 ≤ 256) (hk : 4 * k + 4 ≤ X.1) (hi : inv S I) (K : zk_I → zk_J → Option (Int32 × zk_I × zk_J)) (hF : ∀ S' I' J', inv S' I' → ∃ (IR : zk_I) (JR : zk_J), l_law_18 X K n (nI (4 * (k + 1))) I' J' = some (1, IR, JR)) : ∃ (IR : zk_I) (JR : zk_J), l_law_18 X K (n + 1) (nI (4 * k)) I J = some (1, IR, JR) := by
  have z0 : zk_in (nI (4 * k)) X.1 = true := zin (by omega) (by omega)
  have z1 : zk_in (nI (4 * k + 1)) X.1 = true := zin (by omega) (by omega)
  have z2 : zk_in (nI (4 * k + 2)) X.1 = true := zin (by omega) (by omega)
  have z3 : zk_in (nI (4 * k + 3)) X.1 = true := zin (by omega) (by omega)
  have e1 : nI (4 * k) + (1 : Int32) = nI (4 * k + 1) := by rw [xlit 1, nI_add]
  have e2 : nI (4 * k) + (2 : Int32) = nI (4 * k + 2) := by rw [xlit 2, nI_add]
  have e3 : nI (4 * k) + (3 : Int32) = nI (4 * k + 3) := by rw [xlit 3, nI_add]
  have e4 : nI (4 * k) + (4 : Int32) = nI (4 * (k + 1)) := by rw [xlit 4, nI_add, show 4 * k + 4 = 4 * (k + 1) by omega]
  have hex : ¬ Int32.ofNat X.1 - (4 : Int32) < nI (4 * k) := fun q => by
    have := (law_ex hL (by omega)).mp q
    omega
  rw [l_law_18, if_neg hex, zck z0, zjp2, e1, e2, e3, e4]
  have hG : ∀ S' I' J', inv S' I' → ∃ (IR : zk_I) (JR : zk_J), (fun (I4 : zk_I) (J5 : zk_J) => l_law_18 X K n (nI (4 * (k + 1))) I4 J5) I' J' = some (1, IR, JR) := hF
  generalize (fun (I4 : zk_I) (J5 : zk_J) => l_law_18 X K n (nI (4 * (k + 1))) I4 J5) = F at hG ⊢
  generalize hop : X.2 (nI (4 * k)).toNatClampNeg &&& (31 : Int32) = op
  generalize X.2 (nI (4 * k + 1)).toNatClampNeg = a1
  generalize X.2 (nI (4 * k + 2)).toNatClampNeg = a2
  generalize X.2 (nI (4 * k + 3)).toNatClampNeg = a3
  by_cases h0 : op = (0 : Int32)
  · rw [if_pos h0]
    obtain ⟨S', r, I1, I2, c1, c2, c3⟩ := (o_write hi.1 a1).go hi
    have c1 : f_X7_write I a1 = some (r, I1) := c1
    have c2 : f_X8_write I1 a1 = some (r, I2) := c2
    rw [zck z1, c1, zbd2, zck z1, c2, zbd2, if_pos rfl]
    exact hG S' I2 J c3
  rw [if_neg h0]
  by_cases h1 : op = (1 : Int32)
  · rw [if_pos h1]
    obtain ⟨S', r, I1, I2, c1, c2, c3⟩ := (o_erase hi.1).go hi
    have c1 : f_X7_erase I = some (r, I1) := c1
    have c2 : f_X8_erase I1 = some (r, I2) := c2
    rw [c1, zbd2, c2, zbd2, if_pos rfl]
    exact hG S' I2 J c3
  rw [if_neg h1]
  by_cases h2 : op = (2 : Int32)
  · rw [if_pos h2]
    obtain ⟨S', r, I1, I2, c1, c2, c3⟩ := (o_fault hi.1).go hi
    have c1 : f_X7_fault I = some (r, I1) := c1
    have c2 : f_X8_fault I1 = some (r, I2) := c2
    rw [c1, zbd2, c2, zbd2, if_pos rfl]
    exact hG S' I2 J c3
  rw [if_neg h2]
  by_cases h3 : op = (3 : Int32)
  · rw [if_pos h3]
    obtain ⟨S', r, I1, I2, c1, c2, c3⟩ := (o_library hi.1).go hi
    have c1 : f_X7_library I = some (r, I1) := c1
    have c2 : f_X8_library I1 = some (r, I2) := c2
    rw [c1, zbd2, c2, zbd2, if_pos rfl]
    exact hG S' I2 J c3
  rw [if_neg h3]
  by_cases h4 : op = (4 : Int32)
  · rw [if_pos h4]
    obtain ⟨r, c1, c2⟩ := o_reader hi a1 a2
    rw [zck z1, zck z2, c1, zbd1, zck z1, zck z2, c2, zbd1, if_pos rfl]
    exact hG S I J hi
  rw [if_neg h4]
  by_cases h5 : op = (5 : Int32)
  · rw [if_pos h5]
    obtain ⟨r, c1, c2⟩ := o_book hi a1 a2
    rw [zck z1, zck z2, c1, zbd1, zck z1, zck z2, c2, zbd1, if_pos rfl]
    exact hG S I J hi
  rw [if_neg h5]
  by_cases h6 : op = (6 : Int32)
  · rw [if_pos h6]
    obtain ⟨r, c1, c2⟩ := o_as hi a1 a2
    rw [zck z1, zck z2, c1, zbd1, zck z1, zck z2, c2, zbd1, if_pos rfl]
    exact hG S I J hi
  rw [if_neg h6]
  by_cases h7 : op = (7 : Int32)
  · rw [if_pos h7]
    obtain ⟨r, c1, c2⟩ := o_may hi a1 a2
    rw [zck z1, zck z2, c1, zbd1, zck z1, zck z2, c2, zbd1, if_pos rfl]
    exact hG S I J hi
  rw [if_neg h7]
  by_cases h8 : op = (8 : Int32)
  · rw [if_pos h8]
    obtain ⟨S', r, I1, I2, c1, c2, c3⟩ := (o_name hi.1 a1 a2).go hi
    have c1 : f_X7_name I a1 a2 = some (r, I1) := c1
    have c2 : f_X8_name I1 a1 a2 = some (r, I2) := c2
    rw [zck z1, zck z2, c1, zbd2, zck z1, zck z2, c2, zbd2, if_pos rfl]
    exact hG S' I2 J c3
  rw [if_neg h8]
  by_cases h9 : op = (9 : Int32)
  · rw [if_pos h9]
    obtain ⟨S', r, I1, I2, c1, c2, c3⟩ := (o_day hi.1).go hi
    have c1 : f_X7_day I = some (r, I1) := c1
    have c2 : f_X8_day I1 = some (r, I2) := c2
    rw [c1, zbd2, c2, zbd2, if_pos rfl]
    exact hG S' I2 J c3
  rw [if_neg h9]
  by_cases h10 : op = (10 : Int32)
  · rw [if_pos h10]
    obtain ⟨S', r, I1, I2, c1, c2, c3⟩ := (o_undo hi.1).go hi
    have c1 : f_X7_undo I = some (r, I1) := c1
    have c2 : f_X8_undo I1 = some (r, I2) := c2
    rw [c1, zbd2, c2, zbd2, if_pos rfl]
    exact hG S' I2 J c3
  rw [if_neg h10]
  by_cases h11 : op = (11 : Int32)
  · rw [if_pos h11]
    obtain ⟨S', r, I1, I2, c1, c2, c3⟩ := (o_keep hi.1 a1).go hi
    have c1 : f_X7_keep I a1 = some (r, I1) := c1
    have c2 : f_X8_keep I1 a1 = some (r, I2) := c2
    rw [zck z1, c1, zbd2, zck z1, c2, zbd2, if_pos rfl]
    exact hG S' I2 J c3
  rw [if_neg h11]
  by_cases h12 : op = (12 : Int32)
  · rw [if_pos h12]
    obtain ⟨S', r, I1, I2, c1, c2, c3⟩ := (o_back hi.1 a1).go hi
    have c1 : f_X7_back I a1 = some (r, I1) := c1
    have c2 : f_X8_back I1 a1 = some (r, I2) := c2
    rw [zck z1, c1, zbd2, zck z1, c2, zbd2, if_pos rfl]
    exact hG S' I2 J c3
  rw [if_neg h12]
  by_cases h13 : op = (13 : Int32)
  · rw [if_pos h13]
    obtain ⟨r, I1, J1, I2, c1, c2, c3⟩ := (o_longest hi.1 a1 a2).go hi J
    have c1 : f_X7_longest I J a1 a2 = some (r, I1, J1) := c1
    have c2 : f_X8_longest I1 a1 a2 = some (r, I2) := c2
    rw [zck z1, zck z2, c1, zbd3, zck z1, zck z2, c2, zbd2, if_pos rfl]
    exact hG S I2 J1 c3
  rw [if_neg h13]
  by_cases h14 : op = (14 : Int32)
  · rw [if_pos h14]
    obtain ⟨r, I1, J1, I2, c1, c2, c3⟩ := (o_row hi.1 a1 a2).go hi J
    have c1 : f_X7_row I J a1 a2 = some (r, I1, J1) := c1
    have c2 : f_X8_row I1 a1 a2 = some (r, I2) := c2
    rw [zck z1, zck z2, c1, zbd3, zck z1, zck z2, c2, zbd2, if_pos rfl]
    exact hG S I2 J1 c3
  rw [if_neg h14]
  by_cases h15 : op = (15 : Int32)
  · rw [if_pos h15]
    obtain ⟨r, I1, J1, I2, c1, c2, c3⟩ := (o_shortest hi.1 a1).go hi J
    have c1 : f_X7_shortest I J a1 = some (r, I1, J1) := c1
    have c2 : f_X8_shortest I1 a1 = some (r, I2) := c2
    rw [zck z1, c1, zbd3, zck z1, c2, zbd2, if_pos rfl]
    exact hG S I2 J1 c3
  rw [if_neg h15]
  by_cases h16 : op = (16 : Int32)
  · rw [if_pos h16]
    obtain ⟨r, I1, J1, I2, c1, c2, c3⟩ := (o_can hi.1 a1).go hi J
    have c1 : f_X7_can I J a1 = some (r, I1, J1) := c1
    have c2 : f_X8_can I1 a1 = some (r, I2) := c2
    rw [zck z1, c1, zbd3, zck z1, c2, zbd2, if_pos rfl]
    exact hG S I2 J1 c3
  rw [if_neg h16]
  by_cases h17 : op = (17 : Int32)
  · rw [if_pos h17]
    obtain ⟨r, I1, J1, I2, c1, c2, c3⟩ := (o_all hi.1 a1).go hi J
    have c1 : f_X7_all I J a1 = some (r, I1, J1) := c1
    have c2 : f_X8_all I1 a1 = some (r, I2) := c2
    rw [zck z1, c1, zbd3, zck z1, c2, zbd2, if_pos rfl]
    exact hG S I2 J1 c3
  rw [if_neg h17]
  by_cases h18 : op = (18 : Int32)
  · rw [if_pos h18]
    obtain ⟨r, I1, J1, I2, c1, c2, c3⟩ := (o_fame hi.1 a1).go hi J
    have c1 : f_X7_fame I J a1 = some (r, I1, J1) := c1
    have c2 : f_X8_fame I1 a1 = some (r, I2) := c2
    rw [zck z1, c1, zbd3, zck z1, c2, zbd2, if_pos rfl]
    exact hG S I2 J1 c3
  rw [if_neg h18]
  by_cases h19 : op = (19 : Int32)
  · rw [if_pos h19]
    obtain ⟨r, I1, J1, J2, c1, c2, c3⟩ := (o_mean hi.1 a1 a2).go hi J
    have c1 : f_X7_mean I J a1 a2 = some (r, I1, J1) := c1
    have c2 : f_X8_mean I1 J1 a1 a2 = some (r, J2) := c2
    rw [zck z1, zck z2, c1, zbd3, zck z1, zck z2, c2, zbd2, if_pos (cmp0.mpr rfl)]
    exact hG S I1 J2 c3
  rw [if_neg h19]
  by_cases h20 : op = (20 : Int32)
  · rw [if_pos h20]
    obtain ⟨r, I1, J1, J2, c1, c2, c3⟩ := (o_odds hi.1 a1 a2 a3).go hi J
    have c1 : f_X7_odds I J a1 a2 a3 = some (r, I1, J1) := c1
    have c2 : f_X8_odds I1 J1 a1 a2 a3 = some (r, J2) := c2
    rw [zck z1, zck z2, zck z3, c1, zbd3, zck z1, zck z2, zck z3, c2, zbd2, if_pos (cmp0.mpr rfl)]
    exact hG S I1 J2 c3
  rw [if_neg h20]
  by_cases h21 : op = (21 : Int32)
  · rw [if_pos h21]
    obtain ⟨r, I1, J1, I2, c1, c2, c3⟩ := (o_turns hi.1 a1 a2).go hi J
    have c1 : f_X7_turns I J a1 a2 = some (r, I1, J1) := c1
    have c2 : f_X8_turns I1 a1 a2 = some (r, I2) := c2
    rw [zck z1, zck z2, c1, zbd3, zck z1, zck z2, c2, zbd2, if_pos rfl]
    exact hG S I2 J1 c3
  rw [if_neg h21]
  by_cases h22 : op = (22 : Int32)
  · rw [if_pos h22]
    obtain ⟨S', r, I1, I2, c1, c2, c3⟩ := (o_clubs hi.1 a1).go hi
    have c1 : f_X7_clubs I a1 = some (r, I1) := c1
    have c2 : f_X8_clubs I1 a1 = some (r, I2) := c2
    rw [zck z1, c1, zbd2, zck z1, c2, zbd2, if_pos rfl]
    exact hG S' I2 J c3
  rw [if_neg h22]
  by_cases h23 : op = (23 : Int32)
  · rw [if_pos h23]
    obtain ⟨r, I1, J2, c1, c2, c3⟩ := (o_meet hi.1 a1 a2).go hi J
    have c1 : f_X7_meet I a1 a2 = some (r, I1) := c1
    have c2 : f_X8_meet I1 J a1 a2 = some (r, J2) := c2
    rw [zck z1, zck z2, c1, zbd2, zck z1, zck z2, c2, zbd2, if_pos rfl]
    exact hG S I1 J2 c3
  rw [if_neg h23]
  by_cases h24 : op = (24 : Int32)
  · rw [if_pos h24]
    obtain ⟨S', r, I1, I2, c1, c2, c3⟩ := (o_slip hi.1 a1 a2).go hi
    have c1 : f_X7_slip I a1 a2 = some (r, I1) := c1
    have c2 : f_X8_slip I1 a1 a2 = some (r, I2) := c2
    rw [zck z1, zck z2, c1, zbd2, zck z1, zck z2, c2, zbd2, if_pos rfl]
    exact hG S' I2 J c3
  rw [if_neg h24]
  by_cases h25 : op = (25 : Int32)
  · rw [if_pos h25]
    obtain ⟨S', r, I1, I2, c1, c2, c3⟩ := (o_burn hi.1).go hi
    have c1 : f_X7_burn I = some (r, I1) := c1
    have c2 : f_X8_burn I1 = some (r, I2) := c2
    rw [c1, zbd2, c2, zbd2, if_pos rfl]
    exact hG S' I2 J c3
  rw [if_neg h25]
  by_cases h26 : op = (26 : Int32)
  · rw [if_pos h26]
    obtain ⟨S', r, I1, I2, c1, c2, c3⟩ := (o_forged hi.1 a1).go hi
    have c1 : f_X7_forged I a1 = some (r, I1) := c1
    have c2 : f_X8_forged I1 a1 = some (r, I2) := c2
    rw [zck z1, c1, zbd2, zck z1, c2, zbd2, if_pos rfl]
    exact hG S' I2 J c3
  rw [if_neg h26]
  by_cases h27 : op = (27 : Int32)
  · rw [if_pos h27]
    obtain ⟨S', r, I1, I2, c1, c2, c3⟩ := (o_holder hi.1).go hi
    have c1 : f_X7_holder I = some (r, I1) := c1
    have c2 : f_X8_holder I1 = some (r, I2) := c2
    rw [c1, zbd2, c2, zbd2, if_pos rfl]
    exact hG S' I2 J c3
  rw [if_neg h27]
  by_cases h28 : op = (28 : Int32)
  · rw [if_pos h28]
    obtain ⟨r, c1, c2⟩ := o_count hi a1
    rw [zck z1, c1, zbd1, zck z1, c2, zbd1, if_pos rfl]
    exact hG S I J hi
  rw [if_neg h28]
  exact hG S I J hi
theorem law_loop {X : zk_X} (hL : X.1 ≤ 256) : ∀ m k n S (I : zk_I) (J : zk_J), k + m = 65 → m < n → inv S I → ∃ (IR : zk_I) (JR : zk_J), l_law_18 X (fun (I279 : zk_I) (J280 : zk_J) => some ((1 : Int32), I279, J280)) n (nI (4 * k)) I J = some (1, IR, JR) := by
  intro m
  induction m with
  | zero =>
    intro k n S I J hk hn hi
    obtain ⟨n, rfl⟩ : ∃ k, n = k + 1 := ⟨n - 1, by omega⟩
    refine ⟨I, J, ?_⟩
    rw [l_law_18, if_pos ((law_ex hL (by omega)).mpr (by omega))]
  | succ m ih =>
    intro k n S I J hk hn hi
    obtain ⟨n, rfl⟩ : ∃ k, n = k + 1 := ⟨n - 1, by omega⟩
    by_cases hx : X.1 < 4 * k + 4
    · refine ⟨I, J, ?_⟩
      rw [l_law_18, if_pos ((law_ex hL (by omega)).mpr hx)]
    · exact law_body hL (by omega) hi _ (fun S' I' J' hi' => ih (k + 1) n S' I' J' (by omega) (by omega) hi')
theorem law_pure (X : zk_X) (hL : X.1 ≤ 256) : ∃ (IR : zk_I) (JR : zk_J), f_law X z_I0 z_J0 = some (1, IR, JR) := law_loop hL 65 0 3000 S00 z_I0 z_J0 (by omega) (by omega) inv00

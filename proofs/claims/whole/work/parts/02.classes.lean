/-! classes: names, fields, types -/
def zk_tbl : List Cond := lw_tbl.filter goodWord
theorem zk_mem {w : Cond} (i : Nat) (h : tables_1[i]? = some w) (g : goodWord w = true) : w ∈ zk_tbl := List.mem_filter.mpr ⟨List.mem_append_right _ (List.mem_of_getElem? h), g⟩
theorem zk_memS {w : Cond} (i : Nat) (h : (k2_sels lw_privs)[i]? = some w) (g : goodWord w = true) : w ∈ zk_tbl := List.mem_filter.mpr ⟨List.mem_append_left _ (List.mem_of_getElem? h), g⟩
def zk_n0 : String := "NamedNext$Clauses"
def zk_t0 : u_T := fun k => match k with
  | 0 => ("NamedNext$Clauses", "draft", "LNamedNext$Told;", true)
  | 1 => ("NamedNext$Clauses", "done", "I", false)
  | _ => ("NamedNext$Clauses", "text", "LNamedNext$Text;", true)
def zk_y0 : Nat → FieldType := fun k => match k with
  | 0 => .object "NamedNext$Told"
  | 1 => .int
  | _ => .object "NamedNext$Text"
theorem zk_nm0 : ∀ a, a < 3 → ∀ b, b < 3 → a ≠ b → (zk_t0 a).2.1 ≠ (zk_t0 b).2.1 := by decide +kernel
theorem zk_ty0 : ∀ k, k < 3 → parseFieldDescriptor (zk_t0 k).2.2.1 = some (zk_y0 k) := by decide +kernel
theorem zk_l0_0 : u_lay zk_n0 zk_t0 0 ∈ zk_tbl := zk_mem 104 (by decide +kernel) (by decide +kernel)
theorem zk_l0_1 : u_lay zk_n0 zk_t0 1 ∈ zk_tbl := zk_mem 106 (by decide +kernel) (by decide +kernel)
theorem zk_l0_2 : u_lay zk_n0 zk_t0 2 ∈ zk_tbl := zk_mem 108 (by decide +kernel) (by decide +kernel)
theorem zk_in0 : ∀ w ∈ u_ws zk_n0 zk_t0 3, w ∈ zk_tbl := by
  intro w hw
  obtain ⟨k, hk, rfl⟩ := List.mem_map.mp hw
  have hk := List.mem_range.mp hk
  match k, hk with
  | 0, _ => exact zk_l0_0
  | 1, _ => exact zk_l0_1
  | 2, _ => exact zk_l0_2
  | k + 3, h => exact absurd h (by omega)
def zk_n1 : String := "NamedNext$Days"
def zk_t1 : u_T := fun k => match k with
  | 0 => ("NamedNext$Days", "today", "I", false)
  | 1 => ("NamedNext$Days", "holders", "[I", true)
  | 2 => ("NamedNext$Days", "had", "[I", true)
  | _ => ("NamedNext$Days", "lastNamed", "[I", true)
def zk_y1 : Nat → FieldType := fun k => match k with
  | 0 => .int
  | 1 => .array .int
  | 2 => .array .int
  | _ => .array .int
theorem zk_nm1 : ∀ a, a < 4 → ∀ b, b < 4 → a ≠ b → (zk_t1 a).2.1 ≠ (zk_t1 b).2.1 := by decide +kernel
theorem zk_ty1 : ∀ k, k < 4 → parseFieldDescriptor (zk_t1 k).2.2.1 = some (zk_y1 k) := by decide +kernel
theorem zk_l1_0 : u_lay zk_n1 zk_t1 0 ∈ zk_tbl := zk_mem 128 (by decide +kernel) (by decide +kernel)
theorem zk_l1_1 : u_lay zk_n1 zk_t1 1 ∈ zk_tbl := zk_mem 130 (by decide +kernel) (by decide +kernel)
theorem zk_l1_2 : u_lay zk_n1 zk_t1 2 ∈ zk_tbl := zk_mem 132 (by decide +kernel) (by decide +kernel)
theorem zk_l1_3 : u_lay zk_n1 zk_t1 3 ∈ zk_tbl := zk_mem 134 (by decide +kernel) (by decide +kernel)
theorem zk_in1 : ∀ w ∈ u_ws zk_n1 zk_t1 4, w ∈ zk_tbl := by
  intro w hw
  obtain ⟨k, hk, rfl⟩ := List.mem_map.mp hw
  have hk := List.mem_range.mp hk
  match k, hk with
  | 0, _ => exact zk_l1_0
  | 1, _ => exact zk_l1_1
  | 2, _ => exact zk_l1_2
  | 3, _ => exact zk_l1_3
  | k + 4, h => exact absurd h (by omega)
def zk_n2 : String := "NamedNext$Past"
def zk_t2 : u_T := fun k => match k with
  | 0 => ("NamedNext$Past", "size", "I", false)
  | 1 => ("NamedNext$Past", "next", "I", false)
  | _ => ("NamedNext$Past", "ring", "[LNamedNext$Days;", true)
def zk_y2 : Nat → FieldType := fun k => match k with
  | 0 => .int
  | 1 => .int
  | _ => .array (.object "NamedNext$Days")
theorem zk_nm2 : ∀ a, a < 3 → ∀ b, b < 3 → a ≠ b → (zk_t2 a).2.1 ≠ (zk_t2 b).2.1 := by decide +kernel
theorem zk_ty2 : ∀ k, k < 3 → parseFieldDescriptor (zk_t2 k).2.2.1 = some (zk_y2 k) := by decide +kernel
theorem zk_l2_0 : u_lay zk_n2 zk_t2 0 ∈ zk_tbl := zk_mem 150 (by decide +kernel) (by decide +kernel)
theorem zk_l2_1 : u_lay zk_n2 zk_t2 1 ∈ zk_tbl := zk_mem 152 (by decide +kernel) (by decide +kernel)
theorem zk_l2_2 : u_lay zk_n2 zk_t2 2 ∈ zk_tbl := zk_mem 154 (by decide +kernel) (by decide +kernel)
theorem zk_in2 : ∀ w ∈ u_ws zk_n2 zk_t2 3, w ∈ zk_tbl := by
  intro w hw
  obtain ⟨k, hk, rfl⟩ := List.mem_map.mp hw
  have hk := List.mem_range.mp hk
  match k, hk with
  | 0, _ => exact zk_l2_0
  | 1, _ => exact zk_l2_1
  | 2, _ => exact zk_l2_2
  | k + 3, h => exact absurd h (by omega)
def zk_n3 : String := "NamedNext$Rows"
def zk_t3 : u_T := fun k => match k with
  | 0 => ("NamedNext$Rows", "asked", "I", false)
  | 1 => ("NamedNext$Rows", "told", "LNamedNext$Told;", true)
  | 2 => ("NamedNext$Rows", "liked", "[I", true)
  | 3 => ("NamedNext$Rows", "hereAfter", "[I", true)
  | 4 => ("NamedNext$Rows", "openBehind", "[I", true)
  | 5 => ("NamedNext$Rows", "holdersBySet", "[I", true)
  | 6 => ("NamedNext$Rows", "most", "[J", true)
  | 7 => ("NamedNext$Rows", "worth", "[J", true)
  | 8 => ("NamedNext$Rows", "hadNow", "I", false)
  | _ => ("NamedNext$Rows", "holderNow", "I", false)
def zk_y3 : Nat → FieldType := fun k => match k with
  | 0 => .int
  | 1 => .object "NamedNext$Told"
  | 2 => .array .int
  | 3 => .array .int
  | 4 => .array .int
  | 5 => .array .int
  | 6 => .array .long
  | 7 => .array .long
  | 8 => .int
  | _ => .int
theorem zk_nm3 : ∀ a, a < 10 → ∀ b, b < 10 → a ≠ b → (zk_t3 a).2.1 ≠ (zk_t3 b).2.1 := by decide +kernel
theorem zk_ty3 : ∀ k, k < 10 → parseFieldDescriptor (zk_t3 k).2.2.1 = some (zk_y3 k) := by decide +kernel
theorem zk_l3_0 : u_lay zk_n3 zk_t3 0 ∈ zk_tbl := zk_mem 174 (by decide +kernel) (by decide +kernel)
theorem zk_l3_1 : u_lay zk_n3 zk_t3 1 ∈ zk_tbl := zk_mem 176 (by decide +kernel) (by decide +kernel)
theorem zk_l3_2 : u_lay zk_n3 zk_t3 2 ∈ zk_tbl := zk_mem 178 (by decide +kernel) (by decide +kernel)
theorem zk_l3_3 : u_lay zk_n3 zk_t3 3 ∈ zk_tbl := zk_mem 180 (by decide +kernel) (by decide +kernel)
theorem zk_l3_4 : u_lay zk_n3 zk_t3 4 ∈ zk_tbl := zk_mem 182 (by decide +kernel) (by decide +kernel)
theorem zk_l3_5 : u_lay zk_n3 zk_t3 5 ∈ zk_tbl := zk_mem 184 (by decide +kernel) (by decide +kernel)
theorem zk_l3_6 : u_lay zk_n3 zk_t3 6 ∈ zk_tbl := zk_mem 186 (by decide +kernel) (by decide +kernel)
theorem zk_l3_7 : u_lay zk_n3 zk_t3 7 ∈ zk_tbl := zk_mem 188 (by decide +kernel) (by decide +kernel)
theorem zk_l3_8 : u_lay zk_n3 zk_t3 8 ∈ zk_tbl := zk_mem 190 (by decide +kernel) (by decide +kernel)
theorem zk_l3_9 : u_lay zk_n3 zk_t3 9 ∈ zk_tbl := zk_mem 192 (by decide +kernel) (by decide +kernel)
theorem zk_in3 : ∀ w ∈ u_ws zk_n3 zk_t3 10, w ∈ zk_tbl := by
  intro w hw
  obtain ⟨k, hk, rfl⟩ := List.mem_map.mp hw
  have hk := List.mem_range.mp hk
  match k, hk with
  | 0, _ => exact zk_l3_0
  | 1, _ => exact zk_l3_1
  | 2, _ => exact zk_l3_2
  | 3, _ => exact zk_l3_3
  | 4, _ => exact zk_l3_4
  | 5, _ => exact zk_l3_5
  | 6, _ => exact zk_l3_6
  | 7, _ => exact zk_l3_7
  | 8, _ => exact zk_l3_8
  | 9, _ => exact zk_l3_9
  | k + 10, h => exact absurd h (by omega)
def zk_n4 : String := "NamedNext$Slips"
def zk_t4 : u_T := fun k => match k with
  | 0 => ("NamedNext$Slips", "size", "I", false)
  | 1 => ("NamedNext$Slips", "namers", "[I", true)
  | 2 => ("NamedNext$Slips", "named", "[I", true)
  | _ => ("NamedNext$Slips", "nextOf", "[I", true)
def zk_y4 : Nat → FieldType := fun k => match k with
  | 0 => .int
  | 1 => .array .int
  | 2 => .array .int
  | _ => .array .int
theorem zk_nm4 : ∀ a, a < 4 → ∀ b, b < 4 → a ≠ b → (zk_t4 a).2.1 ≠ (zk_t4 b).2.1 := by decide +kernel
theorem zk_ty4 : ∀ k, k < 4 → parseFieldDescriptor (zk_t4 k).2.2.1 = some (zk_y4 k) := by decide +kernel
theorem zk_l4_0 : u_lay zk_n4 zk_t4 0 ∈ zk_tbl := zk_mem 207 (by decide +kernel) (by decide +kernel)
theorem zk_l4_1 : u_lay zk_n4 zk_t4 1 ∈ zk_tbl := zk_mem 209 (by decide +kernel) (by decide +kernel)
theorem zk_l4_2 : u_lay zk_n4 zk_t4 2 ∈ zk_tbl := zk_mem 211 (by decide +kernel) (by decide +kernel)
theorem zk_l4_3 : u_lay zk_n4 zk_t4 3 ∈ zk_tbl := zk_mem 213 (by decide +kernel) (by decide +kernel)
theorem zk_in4 : ∀ w ∈ u_ws zk_n4 zk_t4 4, w ∈ zk_tbl := by
  intro w hw
  obtain ⟨k, hk, rfl⟩ := List.mem_map.mp hw
  have hk := List.mem_range.mp hk
  match k, hk with
  | 0, _ => exact zk_l4_0
  | 1, _ => exact zk_l4_1
  | 2, _ => exact zk_l4_2
  | 3, _ => exact zk_l4_3
  | k + 4, h => exact absurd h (by omega)
def zk_n5 : String := "NamedNext$Text"
def zk_t5 : u_T := fun k => match k with
  | 0 => ("NamedNext$Text", "letters", "[C", true)
  | 1 => ("NamedNext$Text", "length", "I", false)
  | 2 => ("NamedNext$Text", "start", "I", false)
  | _ => ("NamedNext$Text", "end", "I", false)
def zk_y5 : Nat → FieldType := fun k => match k with
  | 0 => .array .char
  | 1 => .int
  | 2 => .int
  | _ => .int
theorem zk_nm5 : ∀ a, a < 4 → ∀ b, b < 4 → a ≠ b → (zk_t5 a).2.1 ≠ (zk_t5 b).2.1 := by decide +kernel
theorem zk_ty5 : ∀ k, k < 4 → parseFieldDescriptor (zk_t5 k).2.2.1 = some (zk_y5 k) := by decide +kernel
theorem zk_l5_0 : u_lay zk_n5 zk_t5 0 ∈ zk_tbl := zk_mem 38 (by decide +kernel) (by decide +kernel)
theorem zk_l5_1 : u_lay zk_n5 zk_t5 1 ∈ zk_tbl := zk_mem 40 (by decide +kernel) (by decide +kernel)
theorem zk_l5_2 : u_lay zk_n5 zk_t5 2 ∈ zk_tbl := zk_mem 42 (by decide +kernel) (by decide +kernel)
theorem zk_l5_3 : u_lay zk_n5 zk_t5 3 ∈ zk_tbl := zk_mem 44 (by decide +kernel) (by decide +kernel)
theorem zk_in5 : ∀ w ∈ u_ws zk_n5 zk_t5 4, w ∈ zk_tbl := by
  intro w hw
  obtain ⟨k, hk, rfl⟩ := List.mem_map.mp hw
  have hk := List.mem_range.mp hk
  match k, hk with
  | 0, _ => exact zk_l5_0
  | 1, _ => exact zk_l5_1
  | 2, _ => exact zk_l5_2
  | 3, _ => exact zk_l5_3
  | k + 4, h => exact absurd h (by omega)
def zk_n6 : String := "NamedNext$Told"
def zk_t6 : u_T := fun k => match k with
  | 0 => ("NamedNext$Told", "readers", "I", false)
  | 1 => ("NamedNext$Told", "books", "I", false)
  | 2 => ("NamedNext$Told", "kinds", "[I", true)
  | 3 => ("NamedNext$Told", "ranks", "[I", true)
  | 4 => ("NamedNext$Told", "feuds", "[I", true)
  | 5 => ("NamedNext$Told", "moves", "[I", true)
  | _ => ("NamedNext$Told", "firsts", "[I", true)
def zk_y6 : Nat → FieldType := fun k => match k with
  | 0 => .int
  | 1 => .int
  | 2 => .array .int
  | 3 => .array .int
  | 4 => .array .int
  | 5 => .array .int
  | _ => .array .int
theorem zk_nm6 : ∀ a, a < 7 → ∀ b, b < 7 → a ≠ b → (zk_t6 a).2.1 ≠ (zk_t6 b).2.1 := by decide +kernel
theorem zk_ty6 : ∀ k, k < 7 → parseFieldDescriptor (zk_t6 k).2.2.1 = some (zk_y6 k) := by decide +kernel
theorem zk_l6_0 : u_lay zk_n6 zk_t6 0 ∈ zk_tbl := zk_mem 75 (by decide +kernel) (by decide +kernel)
theorem zk_l6_1 : u_lay zk_n6 zk_t6 1 ∈ zk_tbl := zk_mem 77 (by decide +kernel) (by decide +kernel)
theorem zk_l6_2 : u_lay zk_n6 zk_t6 2 ∈ zk_tbl := zk_mem 79 (by decide +kernel) (by decide +kernel)
theorem zk_l6_3 : u_lay zk_n6 zk_t6 3 ∈ zk_tbl := zk_mem 81 (by decide +kernel) (by decide +kernel)
theorem zk_l6_4 : u_lay zk_n6 zk_t6 4 ∈ zk_tbl := zk_mem 83 (by decide +kernel) (by decide +kernel)
theorem zk_l6_5 : u_lay zk_n6 zk_t6 5 ∈ zk_tbl := zk_mem 85 (by decide +kernel) (by decide +kernel)
theorem zk_l6_6 : u_lay zk_n6 zk_t6 6 ∈ zk_tbl := zk_mem 87 (by decide +kernel) (by decide +kernel)
theorem zk_in6 : ∀ w ∈ u_ws zk_n6 zk_t6 7, w ∈ zk_tbl := by
  intro w hw
  obtain ⟨k, hk, rfl⟩ := List.mem_map.mp hw
  have hk := List.mem_range.mp hk
  match k, hk with
  | 0, _ => exact zk_l6_0
  | 1, _ => exact zk_l6_1
  | 2, _ => exact zk_l6_2
  | 3, _ => exact zk_l6_3
  | 4, _ => exact zk_l6_4
  | 5, _ => exact zk_l6_5
  | 6, _ => exact zk_l6_6
  | k + 7, h => exact absurd h (by omega)
def zk_n7 : String := "NamedNext"
def zk_t7 : u_T := fun k => match k with
  | 0 => ("NamedNext", "text", "LNamedNext$Text;", true)
  | 1 => ("NamedNext", "told", "LNamedNext$Told;", true)
  | 2 => ("NamedNext", "clauses", "LNamedNext$Clauses;", true)
  | 3 => ("NamedNext", "days", "LNamedNext$Days;", true)
  | 4 => ("NamedNext", "past", "LNamedNext$Past;", true)
  | 5 => ("NamedNext", "kept", "[LNamedNext$Days;", true)
  | 6 => ("NamedNext", "keptSlots", "I", false)
  | 7 => ("NamedNext", "rows", "LNamedNext$Rows;", true)
  | 8 => ("NamedNext", "placesOfOne", "[I", true)
  | 9 => ("NamedNext", "placesOfOther", "[I", true)
  | _ => ("NamedNext", "slips", "LNamedNext$Slips;", true)
def zk_y7 : Nat → FieldType := fun k => match k with
  | 0 => .object "NamedNext$Text"
  | 1 => .object "NamedNext$Told"
  | 2 => .object "NamedNext$Clauses"
  | 3 => .object "NamedNext$Days"
  | 4 => .object "NamedNext$Past"
  | 5 => .array (.object "NamedNext$Days")
  | 6 => .int
  | 7 => .object "NamedNext$Rows"
  | 8 => .array .int
  | 9 => .array .int
  | _ => .object "NamedNext$Slips"
theorem zk_nm7 : ∀ a, a < 11 → ∀ b, b < 11 → a ≠ b → (zk_t7 a).2.1 ≠ (zk_t7 b).2.1 := by decide +kernel
theorem zk_ty7 : ∀ k, k < 11 → parseFieldDescriptor (zk_t7 k).2.2.1 = some (zk_y7 k) := by decide +kernel
theorem zk_l7_0 : u_lay zk_n7 zk_t7 0 ∈ zk_tbl := zk_mem 227 (by decide +kernel) (by decide +kernel)
theorem zk_l7_1 : u_lay zk_n7 zk_t7 1 ∈ zk_tbl := zk_mem 229 (by decide +kernel) (by decide +kernel)
theorem zk_l7_2 : u_lay zk_n7 zk_t7 2 ∈ zk_tbl := zk_mem 231 (by decide +kernel) (by decide +kernel)
theorem zk_l7_3 : u_lay zk_n7 zk_t7 3 ∈ zk_tbl := zk_mem 233 (by decide +kernel) (by decide +kernel)
theorem zk_l7_4 : u_lay zk_n7 zk_t7 4 ∈ zk_tbl := zk_mem 235 (by decide +kernel) (by decide +kernel)
theorem zk_l7_5 : u_lay zk_n7 zk_t7 5 ∈ zk_tbl := zk_mem 237 (by decide +kernel) (by decide +kernel)
theorem zk_l7_6 : u_lay zk_n7 zk_t7 6 ∈ zk_tbl := zk_mem 239 (by decide +kernel) (by decide +kernel)
theorem zk_l7_7 : u_lay zk_n7 zk_t7 7 ∈ zk_tbl := zk_mem 241 (by decide +kernel) (by decide +kernel)
theorem zk_l7_8 : u_lay zk_n7 zk_t7 8 ∈ zk_tbl := zk_mem 243 (by decide +kernel) (by decide +kernel)
theorem zk_l7_9 : u_lay zk_n7 zk_t7 9 ∈ zk_tbl := zk_mem 245 (by decide +kernel) (by decide +kernel)
theorem zk_l7_10 : u_lay zk_n7 zk_t7 10 ∈ zk_tbl := zk_mem 247 (by decide +kernel) (by decide +kernel)
theorem zk_in7 : ∀ w ∈ u_ws zk_n7 zk_t7 11, w ∈ zk_tbl := by
  intro w hw
  obtain ⟨k, hk, rfl⟩ := List.mem_map.mp hw
  have hk := List.mem_range.mp hk
  match k, hk with
  | 0, _ => exact zk_l7_0
  | 1, _ => exact zk_l7_1
  | 2, _ => exact zk_l7_2
  | 3, _ => exact zk_l7_3
  | 4, _ => exact zk_l7_4
  | 5, _ => exact zk_l7_5
  | 6, _ => exact zk_l7_6
  | 7, _ => exact zk_l7_7
  | 8, _ => exact zk_l7_8
  | 9, _ => exact zk_l7_9
  | 10, _ => exact zk_l7_10
  | k + 11, h => exact absurd h (by omega)
def zk_n8 : String := "NamedNextModel"
def zk_t8 : u_T := fun k => match k with
  | 0 => ("NamedNextModel", "text", "[I", true)
  | 1 => ("NamedNextModel", "typed", "I", false)
  | 2 => ("NamedNextModel", "told", "[I", true)
  | 3 => ("NamedNextModel", "draft", "[I", true)
  | 4 => ("NamedNextModel", "s", "[I", true)
  | 5 => ("NamedNextModel", "past", "[I", true)
  | 6 => ("NamedNextModel", "known", "I", false)
  | 7 => ("NamedNextModel", "images", "[I", true)
  | 8 => ("NamedNextModel", "kept", "[Z", true)
  | 9 => ("NamedNextModel", "slips", "[I", true)
  | 10 => ("NamedNextModel", "many", "I", false)
  | 11 => ("NamedNextModel", "sort", "I", false)
  | 12 => ("NamedNextModel", "start", "I", false)
  | 13 => ("NamedNextModel", "at", "I", false)
  | 14 => ("NamedNextModel", "value", "I", false)
  | 15 => ("NamedNextModel", "longs", "[I", true)
  | 16 => ("NamedNextModel", "rows", "[I", true)
  | 17 => ("NamedNextModel", "alls", "[I", true)
  | 18 => ("NamedNextModel", "shorts", "[I", true)
  | 19 => ("NamedNextModel", "cans", "[I", true)
  | 20 => ("NamedNextModel", "fames", "[I", true)
  | 21 => ("NamedNextModel", "wins", "[Z", true)
  | 22 => ("NamedNextModel", "odds", "[J", true)
  | _ => ("NamedNextModel", "names", "[I", true)
def zk_y8 : Nat → FieldType := fun k => match k with
  | 0 => .array .int
  | 1 => .int
  | 2 => .array .int
  | 3 => .array .int
  | 4 => .array .int
  | 5 => .array .int
  | 6 => .int
  | 7 => .array .int
  | 8 => .array .boolean
  | 9 => .array .int
  | 10 => .int
  | 11 => .int
  | 12 => .int
  | 13 => .int
  | 14 => .int
  | 15 => .array .int
  | 16 => .array .int
  | 17 => .array .int
  | 18 => .array .int
  | 19 => .array .int
  | 20 => .array .int
  | 21 => .array .boolean
  | 22 => .array .long
  | _ => .array .int
theorem zk_nm8 : ∀ a, a < 24 → ∀ b, b < 24 → a ≠ b → (zk_t8 a).2.1 ≠ (zk_t8 b).2.1 := by decide +kernel
theorem zk_ty8 : ∀ k, k < 24 → parseFieldDescriptor (zk_t8 k).2.2.1 = some (zk_y8 k) := by decide +kernel
theorem zk_l8_0 : u_lay zk_n8 zk_t8 0 ∈ zk_tbl := zk_mem 778 (by decide +kernel) (by decide +kernel)
theorem zk_l8_1 : u_lay zk_n8 zk_t8 1 ∈ zk_tbl := zk_mem 780 (by decide +kernel) (by decide +kernel)
theorem zk_l8_2 : u_lay zk_n8 zk_t8 2 ∈ zk_tbl := zk_mem 782 (by decide +kernel) (by decide +kernel)
theorem zk_l8_3 : u_lay zk_n8 zk_t8 3 ∈ zk_tbl := zk_mem 784 (by decide +kernel) (by decide +kernel)
theorem zk_l8_4 : u_lay zk_n8 zk_t8 4 ∈ zk_tbl := zk_mem 786 (by decide +kernel) (by decide +kernel)
theorem zk_l8_5 : u_lay zk_n8 zk_t8 5 ∈ zk_tbl := zk_mem 788 (by decide +kernel) (by decide +kernel)
theorem zk_l8_6 : u_lay zk_n8 zk_t8 6 ∈ zk_tbl := zk_mem 790 (by decide +kernel) (by decide +kernel)
theorem zk_l8_7 : u_lay zk_n8 zk_t8 7 ∈ zk_tbl := zk_mem 792 (by decide +kernel) (by decide +kernel)
theorem zk_l8_8 : u_lay zk_n8 zk_t8 8 ∈ zk_tbl := zk_mem 794 (by decide +kernel) (by decide +kernel)
theorem zk_l8_9 : u_lay zk_n8 zk_t8 9 ∈ zk_tbl := zk_mem 796 (by decide +kernel) (by decide +kernel)
theorem zk_l8_10 : u_lay zk_n8 zk_t8 10 ∈ zk_tbl := zk_mem 798 (by decide +kernel) (by decide +kernel)
theorem zk_l8_11 : u_lay zk_n8 zk_t8 11 ∈ zk_tbl := zk_mem 800 (by decide +kernel) (by decide +kernel)
theorem zk_l8_12 : u_lay zk_n8 zk_t8 12 ∈ zk_tbl := zk_mem 802 (by decide +kernel) (by decide +kernel)
theorem zk_l8_13 : u_lay zk_n8 zk_t8 13 ∈ zk_tbl := zk_mem 804 (by decide +kernel) (by decide +kernel)
theorem zk_l8_14 : u_lay zk_n8 zk_t8 14 ∈ zk_tbl := zk_mem 806 (by decide +kernel) (by decide +kernel)
theorem zk_l8_15 : u_lay zk_n8 zk_t8 15 ∈ zk_tbl := zk_mem 808 (by decide +kernel) (by decide +kernel)
theorem zk_l8_16 : u_lay zk_n8 zk_t8 16 ∈ zk_tbl := zk_mem 810 (by decide +kernel) (by decide +kernel)
theorem zk_l8_17 : u_lay zk_n8 zk_t8 17 ∈ zk_tbl := zk_mem 812 (by decide +kernel) (by decide +kernel)
theorem zk_l8_18 : u_lay zk_n8 zk_t8 18 ∈ zk_tbl := zk_mem 814 (by decide +kernel) (by decide +kernel)
theorem zk_l8_19 : u_lay zk_n8 zk_t8 19 ∈ zk_tbl := zk_mem 816 (by decide +kernel) (by decide +kernel)
theorem zk_l8_20 : u_lay zk_n8 zk_t8 20 ∈ zk_tbl := zk_mem 818 (by decide +kernel) (by decide +kernel)
theorem zk_l8_21 : u_lay zk_n8 zk_t8 21 ∈ zk_tbl := zk_mem 820 (by decide +kernel) (by decide +kernel)
theorem zk_l8_22 : u_lay zk_n8 zk_t8 22 ∈ zk_tbl := zk_mem 822 (by decide +kernel) (by decide +kernel)
theorem zk_l8_23 : u_lay zk_n8 zk_t8 23 ∈ zk_tbl := zk_mem 824 (by decide +kernel) (by decide +kernel)
theorem zk_in8 : ∀ w ∈ u_ws zk_n8 zk_t8 24, w ∈ zk_tbl := by
  intro w hw
  obtain ⟨k, hk, rfl⟩ := List.mem_map.mp hw
  have hk := List.mem_range.mp hk
  match k, hk with
  | 0, _ => exact zk_l8_0
  | 1, _ => exact zk_l8_1
  | 2, _ => exact zk_l8_2
  | 3, _ => exact zk_l8_3
  | 4, _ => exact zk_l8_4
  | 5, _ => exact zk_l8_5
  | 6, _ => exact zk_l8_6
  | 7, _ => exact zk_l8_7
  | 8, _ => exact zk_l8_8
  | 9, _ => exact zk_l8_9
  | 10, _ => exact zk_l8_10
  | 11, _ => exact zk_l8_11
  | 12, _ => exact zk_l8_12
  | 13, _ => exact zk_l8_13
  | 14, _ => exact zk_l8_14
  | 15, _ => exact zk_l8_15
  | 16, _ => exact zk_l8_16
  | 17, _ => exact zk_l8_17
  | 18, _ => exact zk_l8_18
  | 19, _ => exact zk_l8_19
  | 20, _ => exact zk_l8_20
  | 21, _ => exact zk_l8_21
  | 22, _ => exact zk_l8_22
  | 23, _ => exact zk_l8_23
  | k + 24, h => exact absurd h (by omega)
abbrev zk_cl : List vw_C := [(zk_n0, zk_t0, 3), (zk_n1, zk_t1, 4), (zk_n2, zk_t2, 3), (zk_n3, zk_t3, 10), (zk_n4, zk_t4, 4), (zk_n5, zk_t5, 4), (zk_n6, zk_t6, 7), (zk_n7, zk_t7, 11), (zk_n8, zk_t8, 24)]
/-- is the field a reference? by class -/
def zk_ft (k : Nat) : List Bool := match k with
  | 0 => [true, false, true]
  | 1 => [false, true, true, true]
  | 2 => [false, false, true]
  | 3 => [false, true, true, true, true, true, true, true, false, false]
  | 4 => [false, true, true, true]
  | 5 => [true, false, false, false]
  | 6 => [false, false, true, true, true, true, true]
  | 7 => [true, true, true, true, true, true, false, true, true, true, true]
  | 8 => [true, false, true, true, true, true, false, true, true, true, false, false, false, false, false, true, true, true, true, true, true, true, true, true]
  | _ => []

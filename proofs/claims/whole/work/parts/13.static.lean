/-! the cells that the two constructors make -/
def z_St : List (Nat × Nat) := [(7, 0), (5, 0), (23, 160), (6, 0), (20, 8), (20, 8), (20, 8), (20, 8), (20, 4), (0, 0), (6, 0), (20, 8), (20, 8), (20, 8), (20, 8), (20, 4), (1, 0), (20, 4), (20, 4), (20, 4), (2, 0), (24, 8), (1, 0), (20, 4), (20, 4), (20, 4), (1, 0), (20, 4), (20, 4), (20, 4), (1, 0), (20, 4), (20, 4), (20, 4), (1, 0), (20, 4), (20, 4), (20, 4), (1, 0), (20, 4), (20, 4), (20, 4), (1, 0), (20, 4), (20, 4), (20, 4), (1, 0), (20, 4), (20, 4), (20, 4), (1, 0), (20, 4), (20, 4), (20, 4), (24, 2), (1, 0), (20, 4), (20, 4), (20, 4), (1, 0), (20, 4), (20, 4), (20, 4), (3, 0), (20, 8), (20, 8), (20, 256), (20, 256), (21, 2048), (21, 2048), (20, 8), (20, 8), (4, 0), (20, 8), (20, 8), (20, 8), (8, 0), (20, 160), (20, 38), (20, 38), (20, 14), (20, 112), (20, 28), (22, 2), (20, 8), (20, 2048), (20, 2048), (20, 2048), (20, 2048), (20, 2048), (20, 2048), (22, 2048), (21, 2048), (20, 8)]
def z_Rt : List (List (Option Nat)) := [[some 1, some 3, some 9, some 16, some 20, some 54, none, some 63, some 70, some 71, some 72], [some 2], [], [none, none, some 4, some 5, some 6, some 7, some 8], [], [], [], [], [], [some 10, none, some 1], [none, none, some 11, some 12, some 13, some 14, some 15], [], [], [], [], [], [none, some 17, some 18, some 19], [], [], [], [none, none, some 21], [some 22, some 26, some 30, some 34, some 38, some 42, some 46, some 50], [none, some 23, some 24, some 25], [], [], [], [none, some 27, some 28, some 29], [], [], [], [none, some 31, some 32, some 33], [], [], [], [none, some 35, some 36, some 37], [], [], [], [none, some 39, some 40, some 41], [], [], [], [none, some 43, some 44, some 45], [], [], [], [none, some 47, some 48, some 49], [], [], [], [none, some 51, some 52, some 53], [], [], [], [some 55, some 59], [none, some 56, some 57, some 58], [], [], [], [none, some 60, some 61, some 62], [], [], [], [none, some 3, some 64, some 65, some 66, some 67, some 68, some 69], [], [], [], [], [], [], [], [], [none, some 73, some 74, some 75], [], [], [], [some 77, none, some 78, some 79, some 80, some 81, none, some 82, some 83, some 84, none, none, none, none, none, some 85, some 86, some 87, some 88, some 89, some 90, some 91, some 92, some 93], [], [], [], [], [], [], [], [], [], [], [], [], [], [], [], [], []]
def z_S (c : Nat) : Nat × Nat := z_St.getD c (99, 0)
def z_R (c j : Nat) : Option Nat := (z_Rt.getD c []).getD j none
def z_Z : zk_Z := (94, z_S, z_R)
def z_isT (t : Nat) : Bool := Nat.beq t 3 || Nat.beq t 10
def z_isD (t : Nat) : Bool := Nat.beq t 16 || Nat.beq t 22 || Nat.beq t 26 || Nat.beq t 30 || Nat.beq t 34 || Nat.beq t 38 || Nat.beq t 42 || Nat.beq t 46 || Nat.beq t 50 || Nat.beq t 55 || Nat.beq t 59
def z_isB (t : Nat) : Bool := Nat.beq t 68 || Nat.beq t 69
def z_isP (t : Nat) : Bool := Nat.beq t 70 || Nat.beq t 71
theorem z_isT_c {t : Nat} (h : z_isT t = true) : t = 3 ∨ t = 10 := by
  simpa [z_isT, Bool.or_eq_true, Nat.beq_eq_true_eq] using h
theorem z_isB_c {t : Nat} (h : z_isB t = true) : t = 68 ∨ t = 69 := by
  simpa [z_isB, Bool.or_eq_true, Nat.beq_eq_true_eq] using h
theorem z_isP_c {t : Nat} (h : z_isP t = true) : t = 70 ∨ t = 71 := by
  simpa [z_isP, Bool.or_eq_true, Nat.beq_eq_true_eq] using h
theorem z_isD_c {t : Nat} (h : z_isD t = true) : t = 16 ∨ t = 22 ∨ t = 26 ∨ t = 30 ∨ t = 34 ∨ t = 38 ∨ t = 42 ∨ t = 46 ∨ t = 50 ∨ t = 55 ∨ t = 59 := by
  simpa [z_isD, Bool.or_eq_true, Nat.beq_eq_true_eq, or_assoc] using h
theorem zT_S {t : Nat} (h : z_isT t = true) : (z_Z.2.1 t).1 = 6 := by rcases z_isT_c h with rfl | rfl <;> rfl
theorem zT_z {t : Nat} (h : z_isT t = true) : t < z_Z.1 := by rcases z_isT_c h with rfl | rfl <;> decide
theorem zT_r2 {t : Nat} (h : z_isT t = true) : z_Z.2.2 t 2 = some (t + 1) := by rcases z_isT_c h with rfl | rfl <;> rfl
theorem zT_a1 {t : Nat} (h : z_isT t = true) : z_Z.2.1 (t + 1) = (20, 8) := by rcases z_isT_c h with rfl | rfl <;> rfl
theorem zT_z1 {t : Nat} (h : z_isT t = true) : t + 1 < z_Z.1 := by rcases z_isT_c h with rfl | rfl <;> decide
theorem zT_r3 {t : Nat} (h : z_isT t = true) : z_Z.2.2 t 3 = some (t + 2) := by rcases z_isT_c h with rfl | rfl <;> rfl
theorem zT_a2 {t : Nat} (h : z_isT t = true) : z_Z.2.1 (t + 2) = (20, 8) := by rcases z_isT_c h with rfl | rfl <;> rfl
theorem zT_z2 {t : Nat} (h : z_isT t = true) : t + 2 < z_Z.1 := by rcases z_isT_c h with rfl | rfl <;> decide
theorem zT_r4 {t : Nat} (h : z_isT t = true) : z_Z.2.2 t 4 = some (t + 3) := by rcases z_isT_c h with rfl | rfl <;> rfl
theorem zT_a3 {t : Nat} (h : z_isT t = true) : z_Z.2.1 (t + 3) = (20, 8) := by rcases z_isT_c h with rfl | rfl <;> rfl
theorem zT_z3 {t : Nat} (h : z_isT t = true) : t + 3 < z_Z.1 := by rcases z_isT_c h with rfl | rfl <;> decide
theorem zT_r5 {t : Nat} (h : z_isT t = true) : z_Z.2.2 t 5 = some (t + 4) := by rcases z_isT_c h with rfl | rfl <;> rfl
theorem zT_a4 {t : Nat} (h : z_isT t = true) : z_Z.2.1 (t + 4) = (20, 8) := by rcases z_isT_c h with rfl | rfl <;> rfl
theorem zT_z4 {t : Nat} (h : z_isT t = true) : t + 4 < z_Z.1 := by rcases z_isT_c h with rfl | rfl <;> decide
theorem zT_r6 {t : Nat} (h : z_isT t = true) : z_Z.2.2 t 6 = some (t + 5) := by rcases z_isT_c h with rfl | rfl <;> rfl
theorem zT_a5 {t : Nat} (h : z_isT t = true) : z_Z.2.1 (t + 5) = (20, 4) := by rcases z_isT_c h with rfl | rfl <;> rfl
theorem zT_z5 {t : Nat} (h : z_isT t = true) : t + 5 < z_Z.1 := by rcases z_isT_c h with rfl | rfl <;> decide
theorem zD_S {t : Nat} (h : z_isD t = true) : (z_Z.2.1 t).1 = 1 := by rcases z_isD_c h with rfl | rfl | rfl | rfl | rfl | rfl | rfl | rfl | rfl | rfl | rfl <;> rfl
theorem zD_z {t : Nat} (h : z_isD t = true) : t < z_Z.1 := by rcases z_isD_c h with rfl | rfl | rfl | rfl | rfl | rfl | rfl | rfl | rfl | rfl | rfl <;> decide
theorem zD_r1 {t : Nat} (h : z_isD t = true) : z_Z.2.2 t 1 = some (t + 1) := by rcases z_isD_c h with rfl | rfl | rfl | rfl | rfl | rfl | rfl | rfl | rfl | rfl | rfl <;> rfl
theorem zD_a1 {t : Nat} (h : z_isD t = true) : z_Z.2.1 (t + 1) = (20, 4) := by rcases z_isD_c h with rfl | rfl | rfl | rfl | rfl | rfl | rfl | rfl | rfl | rfl | rfl <;> rfl
theorem zD_z1 {t : Nat} (h : z_isD t = true) : t + 1 < z_Z.1 := by rcases z_isD_c h with rfl | rfl | rfl | rfl | rfl | rfl | rfl | rfl | rfl | rfl | rfl <;> decide
theorem zD_r2 {t : Nat} (h : z_isD t = true) : z_Z.2.2 t 2 = some (t + 2) := by rcases z_isD_c h with rfl | rfl | rfl | rfl | rfl | rfl | rfl | rfl | rfl | rfl | rfl <;> rfl
theorem zD_a2 {t : Nat} (h : z_isD t = true) : z_Z.2.1 (t + 2) = (20, 4) := by rcases z_isD_c h with rfl | rfl | rfl | rfl | rfl | rfl | rfl | rfl | rfl | rfl | rfl <;> rfl
theorem zD_z2 {t : Nat} (h : z_isD t = true) : t + 2 < z_Z.1 := by rcases z_isD_c h with rfl | rfl | rfl | rfl | rfl | rfl | rfl | rfl | rfl | rfl | rfl <;> decide
theorem zD_r3 {t : Nat} (h : z_isD t = true) : z_Z.2.2 t 3 = some (t + 3) := by rcases z_isD_c h with rfl | rfl | rfl | rfl | rfl | rfl | rfl | rfl | rfl | rfl | rfl <;> rfl
theorem zD_a3 {t : Nat} (h : z_isD t = true) : z_Z.2.1 (t + 3) = (20, 4) := by rcases z_isD_c h with rfl | rfl | rfl | rfl | rfl | rfl | rfl | rfl | rfl | rfl | rfl <;> rfl
theorem zD_z3 {t : Nat} (h : z_isD t = true) : t + 3 < z_Z.1 := by rcases z_isD_c h with rfl | rfl | rfl | rfl | rfl | rfl | rfl | rfl | rfl | rfl | rfl <;> decide
theorem zB_a {t : Nat} (h : z_isB t = true) : z_Z.2.1 t = (21, 2048) := by rcases z_isB_c h with rfl | rfl <;> rfl
theorem zB_z {t : Nat} (h : z_isB t = true) : t < z_Z.1 := by rcases z_isB_c h with rfl | rfl <;> decide
theorem zP_a {t : Nat} (h : z_isP t = true) : z_Z.2.1 t = (20, 8) := by rcases z_isP_c h with rfl | rfl <;> rfl
theorem zP_z {t : Nat} (h : z_isP t = true) : t < z_Z.1 := by rcases z_isP_c h with rfl | rfl <;> decide
theorem z_in_lt {i : Int32} {n : Nat} (h : zk_in i n = true) : i.toNatClampNeg < n := by
  simp only [zk_in, Bool.and_eq_true] at h
  exact Nat.le_of_ble_eq_true h.2
theorem z_ring : ∀ k, k < 8 → z_Z.2.2 21 k = some (22 + 4 * k) ∧ z_isD (22 + 4 * k) = true := by decide
theorem z_kept : ∀ k, k < 2 → z_Z.2.2 54 k = some (55 + 4 * k) ∧ z_isD (55 + 4 * k) = true := by decide
/-! words of the functions -/
def zk_ck {α : Type} (b : Bool) (x : Option α) : Option α := bif b then x else none
def zk_lt {α γ : Type} (e : α) (F : α → γ) : γ := F e
def zk_01 (x : Int32) : Bool := decide (x = 0) || decide (x = 1)
theorem zk_ck_e {α : Type} {b : Bool} {x : Option α} {r : α} (h : zk_ck b x = some r) : b = true ∧ x = some r := by
  cases b
  · cases h
  · exact ⟨rfl, h⟩
theorem zk_lt_g {α γ : Type} {e : α} {F : α → γ} {R : γ} (h : zk_lt e F = R) : ∃ v, v = e ∧ F v = R := ⟨e, rfl, h⟩
theorem zk_01_n {x : Int32} (h : zk_01 x = true) : narrow .boolean (.int x) = .int x := by
  simp only [zk_01, Bool.or_eq_true, decide_eq_true_eq] at h
  rcases h with rfl | rfl <;> rfl
theorem zk_nb0 : narrow .boolean (.int (0 : Int32)) = .int 0 := rfl
theorem zk_nb1 : narrow .boolean (.int (1 : Int32)) = .int 1 := rfl
theorem zk_01_of {x : Int32} (h : x = 0 ∨ x = 1) : zk_01 x = true := by rcases h with rfl | rfl <;> rfl
def zk_jp0 {γ : Type} (F : γ) (B : (γ) → γ) : γ := B F
theorem zk_jp0_e {γ : Type} {F : γ} {B : (γ) → γ} {R : γ} {P : Prop} {Z : Prop} (h : zk_jp0 F B = R) (j : F  = R → Z ) (w : ∀ K : γ, (K  = R → Z ) → B K = R → P) : P := w F j h
def zk_jp1 {A0 γ : Type} (F : A0 → γ) (B : (A0 → γ) → γ) : γ := B F
theorem zk_jp1_e {A0 γ : Type} {F : A0 → γ} {B : (A0 → γ) → γ} {R : γ} {P : Prop} {Z : A0 → Prop} (h : zk_jp1 F B = R) (j : ∀ v0, F v0 = R → Z v0) (w : ∀ K : A0 → γ, (∀ v0, K v0 = R → Z v0) → B K = R → P) : P := w F j h
def zk_jp2 {A0 A1 γ : Type} (F : A0 → A1 → γ) (B : (A0 → A1 → γ) → γ) : γ := B F
theorem zk_jp2_e {A0 A1 γ : Type} {F : A0 → A1 → γ} {B : (A0 → A1 → γ) → γ} {R : γ} {P : Prop} {Z : A0 → A1 → Prop} (h : zk_jp2 F B = R) (j : ∀ v0 v1, F v0 v1 = R → Z v0 v1) (w : ∀ K : A0 → A1 → γ, (∀ v0 v1, K v0 v1 = R → Z v0 v1) → B K = R → P) : P := w F j h
def zk_jp3 {A0 A1 A2 γ : Type} (F : A0 → A1 → A2 → γ) (B : (A0 → A1 → A2 → γ) → γ) : γ := B F
theorem zk_jp3_e {A0 A1 A2 γ : Type} {F : A0 → A1 → A2 → γ} {B : (A0 → A1 → A2 → γ) → γ} {R : γ} {P : Prop} {Z : A0 → A1 → A2 → Prop} (h : zk_jp3 F B = R) (j : ∀ v0 v1 v2, F v0 v1 v2 = R → Z v0 v1 v2) (w : ∀ K : A0 → A1 → A2 → γ, (∀ v0 v1 v2, K v0 v1 v2 = R → Z v0 v1 v2) → B K = R → P) : P := w F j h
def zk_jp4 {A0 A1 A2 A3 γ : Type} (F : A0 → A1 → A2 → A3 → γ) (B : (A0 → A1 → A2 → A3 → γ) → γ) : γ := B F
theorem zk_jp4_e {A0 A1 A2 A3 γ : Type} {F : A0 → A1 → A2 → A3 → γ} {B : (A0 → A1 → A2 → A3 → γ) → γ} {R : γ} {P : Prop} {Z : A0 → A1 → A2 → A3 → Prop} (h : zk_jp4 F B = R) (j : ∀ v0 v1 v2 v3, F v0 v1 v2 v3 = R → Z v0 v1 v2 v3) (w : ∀ K : A0 → A1 → A2 → A3 → γ, (∀ v0 v1 v2 v3, K v0 v1 v2 v3 = R → Z v0 v1 v2 v3) → B K = R → P) : P := w F j h
def zk_jp5 {A0 A1 A2 A3 A4 γ : Type} (F : A0 → A1 → A2 → A3 → A4 → γ) (B : (A0 → A1 → A2 → A3 → A4 → γ) → γ) : γ := B F
theorem zk_jp5_e {A0 A1 A2 A3 A4 γ : Type} {F : A0 → A1 → A2 → A3 → A4 → γ} {B : (A0 → A1 → A2 → A3 → A4 → γ) → γ} {R : γ} {P : Prop} {Z : A0 → A1 → A2 → A3 → A4 → Prop} (h : zk_jp5 F B = R) (j : ∀ v0 v1 v2 v3 v4, F v0 v1 v2 v3 v4 = R → Z v0 v1 v2 v3 v4) (w : ∀ K : A0 → A1 → A2 → A3 → A4 → γ, (∀ v0 v1 v2 v3 v4, K v0 v1 v2 v3 v4 = R → Z v0 v1 v2 v3 v4) → B K = R → P) : P := w F j h
def zk_jp6 {A0 A1 A2 A3 A4 A5 γ : Type} (F : A0 → A1 → A2 → A3 → A4 → A5 → γ) (B : (A0 → A1 → A2 → A3 → A4 → A5 → γ) → γ) : γ := B F
theorem zk_jp6_e {A0 A1 A2 A3 A4 A5 γ : Type} {F : A0 → A1 → A2 → A3 → A4 → A5 → γ} {B : (A0 → A1 → A2 → A3 → A4 → A5 → γ) → γ} {R : γ} {P : Prop} {Z : A0 → A1 → A2 → A3 → A4 → A5 → Prop} (h : zk_jp6 F B = R) (j : ∀ v0 v1 v2 v3 v4 v5, F v0 v1 v2 v3 v4 v5 = R → Z v0 v1 v2 v3 v4 v5) (w : ∀ K : A0 → A1 → A2 → A3 → A4 → A5 → γ, (∀ v0 v1 v2 v3 v4 v5, K v0 v1 v2 v3 v4 v5 = R → Z v0 v1 v2 v3 v4 v5) → B K = R → P) : P := w F j h
def zk_jp7 {A0 A1 A2 A3 A4 A5 A6 γ : Type} (F : A0 → A1 → A2 → A3 → A4 → A5 → A6 → γ) (B : (A0 → A1 → A2 → A3 → A4 → A5 → A6 → γ) → γ) : γ := B F
theorem zk_jp7_e {A0 A1 A2 A3 A4 A5 A6 γ : Type} {F : A0 → A1 → A2 → A3 → A4 → A5 → A6 → γ} {B : (A0 → A1 → A2 → A3 → A4 → A5 → A6 → γ) → γ} {R : γ} {P : Prop} {Z : A0 → A1 → A2 → A3 → A4 → A5 → A6 → Prop} (h : zk_jp7 F B = R) (j : ∀ v0 v1 v2 v3 v4 v5 v6, F v0 v1 v2 v3 v4 v5 v6 = R → Z v0 v1 v2 v3 v4 v5 v6) (w : ∀ K : A0 → A1 → A2 → A3 → A4 → A5 → A6 → γ, (∀ v0 v1 v2 v3 v4 v5 v6, K v0 v1 v2 v3 v4 v5 v6 = R → Z v0 v1 v2 v3 v4 v5 v6) → B K = R → P) : P := w F j h
theorem zk_lt1K {A0 γ : Type} {e0 : A0} {F : A0 → γ} {R : γ} {P : Prop} {Z : A0 → Prop} (h : zk_lt e0 (fun v0 => F v0) = R) (j : ∀ v0, F v0 = R → Z v0) (w : Z e0 → P) : P := w (j e0 h)
theorem zk_lt2K {A0 A1 γ : Type} {e0 : A0} {e1 : A1} {F : A0 → A1 → γ} {R : γ} {P : Prop} {Z : A0 → A1 → Prop} (h : zk_lt e0 (fun v0 => zk_lt e1 (fun v1 => F v0 v1)) = R) (j : ∀ v0 v1, F v0 v1 = R → Z v0 v1) (w : Z e0 e1 → P) : P := w (j e0 e1 h)
theorem zk_lt3K {A0 A1 A2 γ : Type} {e0 : A0} {e1 : A1} {e2 : A2} {F : A0 → A1 → A2 → γ} {R : γ} {P : Prop} {Z : A0 → A1 → A2 → Prop} (h : zk_lt e0 (fun v0 => zk_lt e1 (fun v1 => zk_lt e2 (fun v2 => F v0 v1 v2))) = R) (j : ∀ v0 v1 v2, F v0 v1 v2 = R → Z v0 v1 v2) (w : Z e0 e1 e2 → P) : P := w (j e0 e1 e2 h)
theorem zk_lt4K {A0 A1 A2 A3 γ : Type} {e0 : A0} {e1 : A1} {e2 : A2} {e3 : A3} {F : A0 → A1 → A2 → A3 → γ} {R : γ} {P : Prop} {Z : A0 → A1 → A2 → A3 → Prop} (h : zk_lt e0 (fun v0 => zk_lt e1 (fun v1 => zk_lt e2 (fun v2 => zk_lt e3 (fun v3 => F v0 v1 v2 v3)))) = R) (j : ∀ v0 v1 v2 v3, F v0 v1 v2 v3 = R → Z v0 v1 v2 v3) (w : Z e0 e1 e2 e3 → P) : P := w (j e0 e1 e2 e3 h)
def zk_bd1 {A0 β : Type} (x : Option (A0)) (F : A0 → Option β) : Option β := x.bind (fun p => F p)
theorem zk_bd1_e {A0 β : Type} {x : Option (A0)} {F : A0 → Option β} {r : β} (h : zk_bd1 x F = some r) : ∃ v0, x = some v0 ∧ F v0 = some r := by
  cases x with
  | none => cases h
  | some p => exact ⟨p, rfl, h⟩
theorem zk_bd1_s {A0 β : Type} (F : A0 → Option β) (v0 : A0) : zk_bd1 (some v0) F = F v0 := rfl
def zk_bd2 {A0 A1 β : Type} (x : Option (A0 × A1)) (F : A0 → A1 → Option β) : Option β := x.bind (fun p => F p.1 p.2)
theorem zk_bd2_e {A0 A1 β : Type} {x : Option (A0 × A1)} {F : A0 → A1 → Option β} {r : β} (h : zk_bd2 x F = some r) : ∃ v0 v1, x = some (v0, v1) ∧ F v0 v1 = some r := by
  cases x with
  | none => cases h
  | some p => exact ⟨p.1, p.2, rfl, h⟩
theorem zk_bd2_s {A0 A1 β : Type} (F : A0 → A1 → Option β) (v0 : A0) (v1 : A1) : zk_bd2 (some (v0, v1)) F = F v0 v1 := rfl
def zk_bd3 {A0 A1 A2 β : Type} (x : Option (A0 × A1 × A2)) (F : A0 → A1 → A2 → Option β) : Option β := x.bind (fun p => F p.1 p.2.1 p.2.2)
theorem zk_bd3_e {A0 A1 A2 β : Type} {x : Option (A0 × A1 × A2)} {F : A0 → A1 → A2 → Option β} {r : β} (h : zk_bd3 x F = some r) : ∃ v0 v1 v2, x = some (v0, v1, v2) ∧ F v0 v1 v2 = some r := by
  cases x with
  | none => cases h
  | some p => exact ⟨p.1, p.2.1, p.2.2, rfl, h⟩
theorem zk_bd3_s {A0 A1 A2 β : Type} (F : A0 → A1 → A2 → Option β) (v0 : A0) (v1 : A1) (v2 : A2) : zk_bd3 (some (v0, v1, v2)) F = F v0 v1 v2 := rfl
theorem zk_ck_t {α : Type} (x : Option α) : zk_ck true x = x := rfl
theorem zk_r1 {A : Type} {a a' : A} (h : some a = some a') : a = a' := Option.some.inj h
theorem zk_r2 {A B : Type} {a a' : A} {b b' : B} (h : some (a, b) = some (a', b')) : a = a' ∧ b = b' := by cases h; exact ⟨rfl, rfl⟩
theorem zk_r3 {A B C : Type} {a a' : A} {b b' : B} {c c' : C} (h : some (a, b, c) = some (a', b', c')) : a = a' ∧ b = b' ∧ c = c' := by cases h; exact ⟨rfl, rfl, rfl⟩
def zk_drop : List Bool → List (Option Value) → List (Option Value)
  | b :: bs, o :: os => (bif b then o else none) :: zk_drop bs os
  | _, _ => []
theorem zk_drop_get : ∀ (bs : List Bool) (L : List (Option Value)) (i : Nat) (v : Value), (zk_drop bs L)[i]? = some (some v) → L[i]? = some (some v)
  | [], L, i, v, h => by simp [zk_drop] at h
  | b :: bs, [], i, v, h => by simp [zk_drop] at h
  | b :: bs, o :: os, 0, v, h => by
    cases b
    · simp [zk_drop] at h
    · simpa [zk_drop] using h
  | b :: bs, o :: os, i + 1, v, h => by
    have := zk_drop_get bs os i v (by simpa [zk_drop] using h)
    simpa using this
section ZW
variable {X : zk_X} {d pc npc tg : Nat} {mt : zk_Mt} {L L2 : List (Option Value)} {st : List Value} {M M' : zk_M} {Z : zk_Z} {I I1 : zk_I} {J J1 : zk_J} {dc ds : Nat} {rv : Option Value}
theorem c_drop (bs : List Bool) (hL : zk_drop bs L = L2) (k : zC X d mt pc L2 st M dc ds rv M') : zC X d mt pc L st M dc ds rv M' := by
  subst hL
  intro E p l e R s m args below meth c H locs cells slots Q ls hC hR hS hl hr hk
  exact k E p l e R s m args below meth c H locs cells slots Q ls hC hR hS ⟨hl.1, hl.2.1, fun i v hi => hl.2.2 i v (zk_drop_get bs L i v hi)⟩ hr hk
theorem c_ent (hL : L = L2) (k : zC X d mt pc L2 st M dc ds rv M') : zC X d mt pc L st M dc ds rv M' := hL ▸ k
theorem c_topi {x y : Int32} (h : y = x) (k : zC X d mt pc L (.int y :: st) M dc ds rv M') : zC X d mt pc L (.int x :: st) M dc ds rv M' := h ▸ k
theorem c_topl {x y : Int64} (h : y = x) (k : zC X d mt pc L (.long y :: st) M dc ds rv M') : zC X d mt pc L (.long x :: st) M dc ds rv M' := h ▸ k
theorem c_memI (h : I1 = I) (k : zC X d mt pc L st (Z, I1, J) dc ds rv M') : zC X d mt pc L st (Z, I, J) dc ds rv M' := h ▸ k
theorem c_memJ (h : J1 = J) (k : zC X d mt pc L st (Z, I, J1) dc ds rv M') : zC X d mt pc L st (Z, I, J) dc ds rv M' := h ▸ k
theorem c_mono {d2 : Nat} (h : d2 ≤ d) (k : zC X d2 mt pc L st M dc ds rv M') : zC X d mt pc L st M dc ds rv M' := by
  intro E p l e R s m args below meth c H locs cells slots Q ls hC hR hS hl hr hk
  exact k E p l e R s m args below meth c H locs cells slots Q ls hC hR hS hl ⟨Nat.le_trans h hr.1, by have := hr.2.1; omega, hr.2.2⟩ hk
theorem e_istore_n {n : Fin 4} {x : Int32} (h : zk_at mt pc = some (.istore_n n, npc, tg)) (hi : Nat.ble (n.val + 1) mt.2.2.1 = true) (hd2 : zk_nod L = true) (hL : zk_set L n.val (.int x) = L2) (k : zC X d mt npc L2 st M dc ds rv M') : zC X d mt pc L (.int x :: st) M dc ds rv M' := by
  subst hL
  exact c_istore_n h (Nat.le_of_ble_eq_true hi) hd2 k
theorem e_istore {i : Nat} {x : Int32} (h : zk_at mt pc = some (.istore i, npc, tg)) (hi : Nat.ble (i + 1) mt.2.2.1 = true) (hd2 : zk_nod L = true) (hL : zk_set L i (.int x) = L2) (k : zC X d mt npc L2 st M dc ds rv M') : zC X d mt pc L (.int x :: st) M dc ds rv M' := by
  subst hL
  exact c_istore h (Nat.le_of_ble_eq_true hi) hd2 k
theorem e_lstore_n {n : Fin 4} {x : Int64} (h : zk_at mt pc = some (.lstore_n n, npc, tg)) (hi : Nat.ble (n.val + 1 + 1) mt.2.2.1 = true) (hd2 : zk_nod L = true) (hL : zk_set2 L n.val (.long x) = L2) (k : zC X d mt npc L2 st M dc ds rv M') : zC X d mt pc L (.long x :: st) M dc ds rv M' := by
  subst hL
  exact c_lstore_n h (Nat.le_of_ble_eq_true hi) hd2 k
theorem e_lstore {i : Nat} {x : Int64} (h : zk_at mt pc = some (.lstore i, npc, tg)) (hi : Nat.ble (i + 1 + 1) mt.2.2.1 = true) (hd2 : zk_nod L = true) (hL : zk_set2 L i (.long x) = L2) (k : zC X d mt npc L2 st M dc ds rv M') : zC X d mt pc L (.long x :: st) M dc ds rv M' := by
  subst hL
  exact c_lstore h (Nat.le_of_ble_eq_true hi) hd2 k
theorem e_astore_n {n : Fin 4} {x : Nat} (h : zk_at mt pc = some (.astore_n n, npc, tg)) (hi : Nat.ble (n.val + 1) mt.2.2.1 = true) (hd2 : zk_nod L = true) (hL : zk_set L n.val (.ref x) = L2) (k : zC X d mt npc L2 st M dc ds rv M') : zC X d mt pc L (.ref x :: st) M dc ds rv M' := by
  subst hL
  exact c_astore_n h (Nat.le_of_ble_eq_true hi) hd2 k
theorem e_astore {i : Nat} {x : Nat} (h : zk_at mt pc = some (.astore i, npc, tg)) (hi : Nat.ble (i + 1) mt.2.2.1 = true) (hd2 : zk_nod L = true) (hL : zk_set L i (.ref x) = L2) (k : zC X d mt npc L2 st M dc ds rv M') : zC X d mt pc L (.ref x :: st) M dc ds rv M' := by
  subst hL
  exact c_astore h (Nat.le_of_ble_eq_true hi) hd2 k
theorem e_iinc {i : Nat} {n : Int} {x v : Int32} (h : zk_at mt pc = some (.iinc i n, npc, tg)) (hL : zk_get L i = some (.int x)) (hv : Int32.ofInt n = v) (hi : Nat.ble (i + 1) mt.2.2.1 = true) (hd2 : zk_nod L = true) (hL2 : zk_set L i (.int (x + v)) = L2) (k : zC X d mt npc L2 st M dc ds rv M') : zC X d mt pc L st M dc ds rv M' := by
  subst hL2
  exact c_iinc h hL hv (Nat.le_of_ble_eq_true hi) hd2 k
end ZW

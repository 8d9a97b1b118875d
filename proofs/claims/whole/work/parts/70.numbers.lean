/-! THE PURE LAYER: numbers. wI, wJ: an Int as an int, as a long; both are ring maps, and keep order within bounds -/
def wI (a : Int) : Int32 := Int32.ofInt a
def wJ (a : Int) : Int64 := Int64.ofInt a
theorem wI_add (a b : Int) : wI a + wI b = wI (a + b) := (Int32.ofInt_add a b).symm
theorem wI_sub (a b : Int) : wI a - wI b = wI (a - b) := (Int32.ofInt_sub a b).symm
theorem wI_mul (a b : Int) : wI a * wI b = wI (a * b) := (Int32.ofInt_mul a b).symm
theorem wI_neg (a : Int) : - wI a = wI (-a) := (Int32.ofInt_neg a).symm
theorem wJ_add (a b : Int) : wJ a + wJ b = wJ (a + b) := (Int64.ofInt_add a b).symm
theorem wJ_sub (a b : Int) : wJ a - wJ b = wJ (a - b) := (Int64.ofInt_sub a b).symm
theorem wJ_mul (a b : Int) : wJ a * wJ b = wJ (a * b) := (Int64.ofInt_mul a b).symm
theorem wJ_neg (a : Int) : - wJ a = wJ (-a) := (Int64.ofInt_neg a).symm
theorem wI_toInt {a : Int} (h1 : -2147483648 ≤ a) (h2 : a < 2147483648) : (wI a).toInt = a := Int32.toInt_ofInt_of_le (by omega) (by omega)
theorem wJ_toInt {a : Int} (h1 : -9223372036854775808 ≤ a) (h2 : a < 9223372036854775808) : (wJ a).toInt = a := Int64.toInt_ofInt_of_le (by omega) (by omega)
theorem wI_lt {a b : Int} (h1 : -2147483648 ≤ a) (h2 : a < 2147483648) (h3 : -2147483648 ≤ b) (h4 : b < 2147483648) : wI a < wI b ↔ a < b := by
  rw [Int32.lt_iff_toInt_lt, wI_toInt h1 h2, wI_toInt h3 h4]
theorem wI_le {a b : Int} (h1 : -2147483648 ≤ a) (h2 : a < 2147483648) (h3 : -2147483648 ≤ b) (h4 : b < 2147483648) : wI a ≤ wI b ↔ a ≤ b := by
  rw [Int32.le_iff_toInt_le, wI_toInt h1 h2, wI_toInt h3 h4]
theorem wI_eq {a b : Int} (h1 : -2147483648 ≤ a) (h2 : a < 2147483648) (h3 : -2147483648 ≤ b) (h4 : b < 2147483648) : wI a = wI b ↔ a = b := by
  rw [← Int32.toInt_inj, wI_toInt h1 h2, wI_toInt h3 h4]
theorem wJ_lt {a b : Int} (h1 : -9223372036854775808 ≤ a) (h2 : a < 9223372036854775808) (h3 : -9223372036854775808 ≤ b) (h4 : b < 9223372036854775808) : wJ a < wJ b ↔ a < b := by
  rw [Int64.lt_iff_toInt_lt, wJ_toInt h1 h2, wJ_toInt h3 h4]
theorem wJ_le {a b : Int} (h1 : -9223372036854775808 ≤ a) (h2 : a < 9223372036854775808) (h3 : -9223372036854775808 ≤ b) (h4 : b < 9223372036854775808) : wJ a ≤ wJ b ↔ a ≤ b := by
  rw [Int64.le_iff_toInt_le, wJ_toInt h1 h2, wJ_toInt h3 h4]
theorem wJ_eq {a b : Int} (h1 : -9223372036854775808 ≤ a) (h2 : a < 9223372036854775808) (h3 : -9223372036854775808 ≤ b) (h4 : b < 9223372036854775808) : wJ a = wJ b ↔ a = b := by
  rw [← Int64.toInt_inj, wJ_toInt h1 h2, wJ_toInt h3 h4]
theorem wI_nat {a : Int} (h1 : -2147483648 ≤ a) (h2 : a < 2147483648) : (wI a).toNatClampNeg = a.toNat := Int32.toNatClampNeg_ofInt_of_le (by omega) (by omega)
theorem wI_l {a : Int} (h1 : -2147483648 ≤ a) (h2 : a < 2147483648) : (wI a).toInt64 = wJ a := Int64.toInt_inj.mp (by rw [Int32.toInt_toInt64, wI_toInt h1 h2, wJ_toInt (by omega) (by omega)])
theorem wJ_i (a : Int) : (wJ a).toInt32 = wI a := Int64.toInt32_ofInt
theorem wI_div {a b : Int} (h1 : 0 ≤ a) (h2 : a < 2147483648) (h3 : 0 ≤ b) (h4 : b < 2147483648) : wI a / wI b = wI (a / b) := by
  have e1 : Int32.minValue.toInt = -2147483648 := by decide
  have e2 : Int32.maxValue.toInt = 2147483647 := by decide
  rw [← Int.tdiv_eq_ediv_of_nonneg h1]
  exact (Int32.ofInt_tdiv (by omega) (by omega) (by omega) (by omega)).symm
theorem wI_tdiv {a b : Int} (h1 : -2147483648 ≤ a) (h2 : a < 2147483648) (h3 : -2147483648 ≤ b) (h4 : b < 2147483648) : wI a / wI b = wI (a.tdiv b) := by
  have e1 : Int32.minValue.toInt = -2147483648 := by decide
  have e2 : Int32.maxValue.toInt = 2147483647 := by decide
  exact (Int32.ofInt_tdiv (by omega) (by omega) (by omega) (by omega)).symm
theorem wJ_div {a b : Int} (h1 : 0 ≤ a) (h2 : a < 9223372036854775808) (h3 : 0 ≤ b) (h4 : b < 9223372036854775808) : wJ a / wJ b = wJ (a / b) := by
  have e1 : Int64.minValue.toInt = -9223372036854775808 := by decide
  have e2 : Int64.maxValue.toInt = 9223372036854775807 := by decide
  rw [← Int.tdiv_eq_ediv_of_nonneg h1]
  exact (Int64.ofInt_tdiv (by omega) (by omega) (by omega) (by omega)).symm
theorem wJ_tdiv {a b : Int} (h1 : -9223372036854775808 ≤ a) (h2 : a < 9223372036854775808) (h3 : -9223372036854775808 ≤ b) (h4 : b < 9223372036854775808) : wJ a / wJ b = wJ (a.tdiv b) := by
  have e1 : Int64.minValue.toInt = -9223372036854775808 := by decide
  have e2 : Int64.maxValue.toInt = 9223372036854775807 := by decide
  exact (Int64.ofInt_tdiv (by omega) (by omega) (by omega) (by omega)).symm
theorem wI_rem {a b : Int} (h1 : 0 ≤ a) (h2 : a < 2147483648) (h3 : 0 ≤ b) (h4 : b < 2147483648) : z_rem (wI a) (wI b) = wI (a % b) := by
  unfold z_rem
  rw [wI_div h1 h2 h3 h4, wI_mul, wI_sub, Int.mul_comm, Int.emod_def]
theorem wJ_rem {a b : Int} (h1 : 0 ≤ a) (h2 : a < 9223372036854775808) (h3 : 0 ≤ b) (h4 : b < 9223372036854775808) : z_reml (wJ a) (wJ b) = wJ (a % b) := by
  unfold z_reml
  rw [wJ_div h1 h2 h3 h4, wJ_mul, wJ_sub, Int.mul_comm, Int.emod_def]
theorem wI_in {a : Int} {n : Nat} (h1 : 0 ≤ a) (h2 : a < n) (h3 : n < 2147483648) : z_in (wI a) n = true := by
  unfold z_in
  refine decide_eq_true ?_
  rw [wI_nat (by omega) (by omega), show (0 : Int32) = wI 0 from rfl, wI_lt (by omega) (by omega) (by omega) (by omega)]
  omega
theorem wI_nz {a : Int} (h1 : 0 < a) (h2 : a < 2147483648) : z_nz (wI a) = true := by
  unfold z_nz
  refine decide_eq_true ?_
  rw [show (0 : Int32) = wI 0 from rfl, wI_eq (by omega) (by omega) (by omega) (by omega)]
  omega
theorem wJ_nz {a : Int} (h1 : 0 < a) (h2 : a < 9223372036854775808) : z_nzl (wJ a) = true := by
  unfold z_nzl
  refine decide_eq_true ?_
  rw [show (0 : Int64) = wJ 0 from rfl, wJ_eq (by omega) (by omega) (by omega) (by omega)]
  omega
theorem wI_of (x : Int32) : ∃ a : Int, x = wI a ∧ -2147483648 ≤ a ∧ a < 2147483648 := ⟨x.toInt, (Int32.ofInt_toInt x).symm, by have := Int32.le_toInt x; omega, by have := Int32.toInt_lt x; omega⟩
theorem wJ_of (x : Int64) : ∃ a : Int, x = wJ a ∧ -9223372036854775808 ≤ a ∧ a < 9223372036854775808 := ⟨x.toInt, (Int64.ofInt_toInt x).symm, by have := Int64.le_toInt x; omega, by have := Int64.toInt_lt x; omega⟩
theorem wI_b0 : z_b (wI 0) = true := by decide
theorem wI_b1 : z_b (wI 1) = true := by decide
theorem z_gd_t {β : Type} (k : Option β) : z_gd true k = k := of_eq_true (eq_self k)
theorem z_bd_s {α β : Type} (a : α) (f : α → Option β) : z_bd (some a) f = f a := of_eq_true (eq_self (f a))
theorem z_let_e {α β : Type} (e : α) (f : α → β) : z_let e f = f e := of_eq_true (eq_self (f e))
theorem z_jn_e {α β : Type} (k : α → β) (t : (α → β) → β) : z_jn k t = t k := of_eq_true (eq_self (t k))
theorem upd_s (f : Nat → Int32) (k : Nat) (x : Int32) : upd f k x k = x := by simp [upd]
theorem upd_n {f : Nat → Int32} {k j : Nat} {x : Int32} (h : j ≠ k) : upd f k x j = f j := by simp [upd, h]
theorem updL_s (f : Nat → Int64) (k : Nat) (x : Int64) : vp_updL f k x k = x := by simp [vp_updL]
theorem updL_n {f : Nat → Int64} {k j : Nat} {x : Int64} (h : j ≠ k) : vp_updL f k x j = f j := by simp [vp_updL, h]
theorem wI_0 : (0 : Int32) = wI 0 := by decide +kernel
theorem wI_1 : (1 : Int32) = wI 1 := by decide +kernel
theorem wI_2 : (2 : Int32) = wI 2 := by decide +kernel
theorem wI_3 : (3 : Int32) = wI 3 := by decide +kernel
theorem wI_4 : (4 : Int32) = wI 4 := by decide +kernel
theorem wI_5 : (5 : Int32) = wI 5 := by decide +kernel
theorem wI_6 : (6 : Int32) = wI 6 := by decide +kernel
theorem wI_7 : (7 : Int32) = wI 7 := by decide +kernel
theorem wI_8 : (8 : Int32) = wI 8 := by decide +kernel
theorem wI_9 : (9 : Int32) = wI 9 := by decide +kernel
theorem wI_10 : (10 : Int32) = wI 10 := by decide +kernel
theorem wI_11 : (11 : Int32) = wI 11 := by decide +kernel
theorem wI_12 : (12 : Int32) = wI 12 := by decide +kernel
theorem wI_16 : (16 : Int32) = wI 16 := by decide +kernel
theorem wI_18 : (18 : Int32) = wI 18 := by decide +kernel
theorem wI_20 : (20 : Int32) = wI 20 := by decide +kernel
theorem wI_24 : (24 : Int32) = wI 24 := by decide +kernel
theorem wI_31 : (31 : Int32) = wI 31 := by decide +kernel
theorem wI_32 : (32 : Int32) = wI 32 := by decide +kernel
theorem wI_36 : (36 : Int32) = wI 36 := by decide +kernel
theorem wI_45 : (45 : Int32) = wI 45 := by decide +kernel
theorem wI_48 : (48 : Int32) = wI 48 := by decide +kernel
theorem wI_57 : (57 : Int32) = wI 57 := by decide +kernel
theorem wI_59 : (59 : Int32) = wI 59 := by decide +kernel
theorem wI_60 : (60 : Int32) = wI 60 := by decide +kernel
theorem wI_78 : (78 : Int32) = wI 78 := by decide +kernel
theorem wI_97 : (97 : Int32) = wI 97 := by decide +kernel
theorem wI_99 : (99 : Int32) = wI 99 := by decide +kernel
theorem wI_100 : (100 : Int32) = wI 100 := by decide +kernel
theorem wI_111 : (111 : Int32) = wI 111 := by decide +kernel
theorem wI_119 : (119 : Int32) = wI 119 := by decide +kernel
theorem wI_120 : (120 : Int32) = wI 120 := by decide +kernel
theorem wI_122 : (122 : Int32) = wI 122 := by decide +kernel
theorem wI_132 : (132 : Int32) = wI 132 := by decide +kernel
theorem wI_156 : (156 : Int32) = wI 156 := by decide +kernel
theorem wI_200 : (200 : Int32) = wI 200 := by decide +kernel
theorem wI_255 : (255 : Int32) = wI 255 := by decide +kernel
theorem wI_576 : (576 : Int32) = wI 576 := by decide +kernel
theorem wI_999999 : (999999 : Int32) = wI 999999 := by decide +kernel
theorem wI_1000003 : (1000003 : Int32) = wI 1000003 := by decide +kernel
theorem wI_1103 : (1103 : Int32) = wI 1103 := by decide +kernel
theorem wI_12345 : (12345 : Int32) = wI 12345 := by decide +kernel
theorem wI_1000 : (1000 : Int32) = wI 1000 := by decide +kernel
theorem wI_1152 : (1152 : Int32) = wI 1152 := by decide +kernel
theorem wI_1560 : (1560 : Int32) = wI 1560 := by decide +kernel
theorem wJ_0 : (0 : Int64) = wJ 0 := by decide +kernel
theorem wJ_1 : (1 : Int64) = wJ 1 := by decide +kernel
theorem wJ_2 : (2 : Int64) = wJ 2 := by decide +kernel
theorem wJ_3 : (3 : Int64) = wJ 3 := by decide +kernel
theorem wJ_5 : (5 : Int64) = wJ 5 := by decide +kernel
theorem wJ_6 : (6 : Int64) = wJ 6 := by decide +kernel
theorem wJ_9 : (9 : Int64) = wJ 9 := by decide +kernel
theorem wJ_10 : (10 : Int64) = wJ 10 := by decide +kernel
theorem wJ_36 : (36 : Int64) = wJ 36 := by decide +kernel
theorem wJ_48 : (48 : Int64) = wJ 48 := by decide +kernel
theorem wJ_57 : (57 : Int64) = wJ 57 := by decide +kernel
theorem wJ_97 : (97 : Int64) = wJ 97 := by decide +kernel
theorem wJ_100 : (100 : Int64) = wJ 100 := by decide +kernel
theorem wJ_122 : (122 : Int64) = wJ 122 := by decide +kernel
theorem wJ_999999 : (999999 : Int64) = wJ 999999 := by decide +kernel
theorem wI_m1 : (-1 : Int32) = wI (-1) := by decide +kernel

/-! FRACTIONS: reduced alike, compared by their products -/
theorem nj_div {p q : Nat} (hp : p < 4611686018427387904) (hq : q < 4611686018427387904) : wJ p / wJ q = wJ ((p / q : Nat) : Int) := by
  rw [wJ_div (by omega) (by omega) (by omega) (by omega), Int.natCast_ediv]
theorem nj_rem {p q : Nat} (hp : p < 4611686018427387904) (hq : q < 4611686018427387904) : z_reml (wJ p) (wJ q) = wJ ((p % q : Nat) : Int) := by
  rw [wJ_rem (by omega) (by omega) (by omega) (by omega), Int.natCast_emod]
theorem nj_sub {p q : Nat} : wJ p - wJ ((p / q : Nat) : Int) * wJ q = wJ ((p % q : Nat) : Int) := by
  rw [wJ_mul, wJ_sub, Int.natCast_ediv, Int.natCast_emod, Int.emod_def, Int.mul_comm]
theorem nj_eq {p q : Nat} (hp : p < 4611686018427387904) (hq : q < 4611686018427387904) : wJ p = wJ q ↔ p = q := by
  rw [wJ_eq (by omega) (by omega) (by omega) (by omega)]; omega
theorem nj_le {p q : Nat} (hp : p < 4611686018427387904) (hq : q < 4611686018427387904) : wJ p ≤ wJ q ↔ p ≤ q := by
  rw [wJ_le (by omega) (by omega) (by omega) (by omega)]; omega
theorem nj_lt {p q : Nat} (hp : p < 4611686018427387904) (hq : q < 4611686018427387904) : wJ p < wJ q ↔ p < q := by
  rw [wJ_lt (by omega) (by omega) (by omega) (by omega)]; omega
theorem nj_nz {q : Nat} (h : 0 < q) (hq : q < 4611686018427387904) : z_nzl (wJ q) = true := wJ_nz (by omega) (by omega)
theorem nj_0 : (0 : Int64) = wJ ((0 : Nat) : Int) := rfl
/-- the sign of p by q less r by s -/
def cm4 (p q r s : Nat) : Int := if p * s < r * q then -1 else if p * s = r * q then 0 else 1
theorem cm4_lt {p q r s : Nat} (hq : 0 < q) (hs : 0 < s) (h : p / q < r / s) : p * s < r * q := by
  have h1 : p < q * (p / q + 1) := Nat.lt_mul_div_succ p hq
  have h2 : q * (p / q + 1) ≤ q * (r / s) := Nat.mul_le_mul_left q h
  have h3 : p * s < (q * (r / s)) * s := Nat.mul_lt_mul_of_pos_right (Nat.lt_of_lt_of_le h1 h2) hs
  have h4 : (q * (r / s)) * s = (r / s * s) * q := by ac_rfl
  have h5 : (r / s * s) * q ≤ r * q := Nat.mul_le_mul_right q (Nat.div_mul_le_self r s)
  omega
theorem cm4_step {p q r s : Nat} (h : p / q = r / s) : cm4 p q r s = - cm4 q (p % q) s (r % s) := by
  have h1 : q * (p / q) + p % q = p := Nat.div_add_mod p q
  have h2 : s * (r / s) + r % s = r := Nat.div_add_mod r s
  have e1 : p * s = q * (p / q) * s + q * 0 + (p % q) * s := by
    conv => lhs; rw [← h1]
    rw [Nat.add_mul]; omega
  have e2 : r * q = q * (p / q) * s + q * 0 + (r % s) * q := by
    conv => lhs; rw [← h2]
    rw [Nat.add_mul, ← h]
    have : s * (p / q) * q = q * (p / q) * s := by ac_rfl
    omega
  have e3 : q * (r % s) = (r % s) * q := Nat.mul_comm _ _
  have e4 : s * (p % q) = (p % q) * s := Nat.mul_comm _ _
  unfold cm4
  rw [e1, e2, e3, e4]
  repeat' split
  all_goals omega
theorem cm4_zero {p q r s : Nat} (hq : 0 < q) (hs : 0 < s) (h : p / q = r / s) (hz : p % q = 0 ∨ r % s = 0) : cm4 p q r s = if p % q = r % s then 0 else if p % q = 0 then -1 else 1 := by
  rw [cm4_step h]
  unfold cm4
  have e3 : q * (r % s) = 0 ↔ r % s = 0 := by rw [Nat.mul_eq_zero]; omega
  have e4 : s * (p % q) = 0 ↔ p % q = 0 := by rw [Nat.mul_eq_zero]; omega
  rcases hz with hz | hz
  · rw [hz] at e4 ⊢
    repeat' split
    all_goals omega
  · rw [hz] at e3 ⊢
    repeat' split
    all_goals omega
theorem cf_join {p q r s : Nat} {m : Int} (hm : m = 1 ∨ m = -1) (hq : 0 < q) (hs : 0 < s) {X Y Z : Option Int32}
    (h1 : p / q ≠ r / s → Y = some (wI (if p / q < r / s then -m else m))) (h2 : (p % q = 0 ∨ r % s = 0) → Z = some (wI (if p % q = r % s then 0 else if p % q = 0 then -m else m)))
    (hX : p % q ≠ 0 → r % s ≠ 0 → p / q = r / s → X = some (wI (-m * cm4 q (p % q) s (r % s)))) :
    (if p / q = r / s then (if p % q = 0 ∨ r % s = 0 then Z else X) else Y) = some (wI (m * cm4 p q r s)) := by
  by_cases hw : p / q = r / s
  · rw [if_pos hw]
    by_cases hz : p % q = 0 ∨ r % s = 0
    · rw [if_pos hz, h2 hz, cm4_zero hq hs hw hz]
      rcases hm with hm | hm <;> subst hm <;> repeat' split
      all_goals rfl
    · rw [if_neg hz, hX (fun h => hz (Or.inl h)) (fun h => hz (Or.inr h)) hw, cm4_step hw]
      congr 2
      rcases hm with hm | hm <;> subst hm <;> omega
  · rw [if_neg hw, h1 hw]
    rcases Nat.lt_or_gt_of_ne hw with h | h
    · have := cm4_lt hq hs h
      rw [if_pos h]
      unfold cm4
      rw [if_pos this]
      rcases hm with hm | hm <;> subst hm <;> rfl
    · have := cm4_lt hs hq h
      rw [if_neg (by omega)]
      unfold cm4
      rw [if_neg (by omega), if_neg (by omega)]
      rcases hm with hm | hm <;> subst hm <;> rfl
/-- the steps of both loops -/
theorem cf_step {k1 k2 : Int32 → Int64 → Int64 → Option Int32} {n p q r s : Nat} {m : Int32} {i : Int} (hq : 0 < q) (hs : 0 < s) (hp' : p < 4611686018427387904) (hq' : q < 4611686018427387904) (hr' : r < 4611686018427387904) (hs' : s < 4611686018427387904) (hi0 : 0 ≤ i) (hi : i < 200) :
    Fr_compareFractions_L20 k1 k2 (n + 1) (wJ p) (wJ q) (wJ r) (wJ s) m (wI i) =
      if p / q = r / s then (if p % q = 0 ∨ r % s = 0 then k2 m (wJ ((p % q : Nat) : Int)) (wJ ((r % s : Nat) : Int)) else Fr_compareFractions_L20 k1 k2 n (wJ q) (wJ ((p % q : Nat) : Int)) (wJ s) (wJ ((r % s : Nat) : Int)) (-m) (wI (i + 1))) else k1 m (wJ ((p / q : Nat) : Int)) (wJ ((r / s : Nat) : Int)) := by
  have a1 : p / q < 4611686018427387904 := Nat.lt_of_le_of_lt (Nat.div_le_self p q) hp'
  have a2 : r / s < 4611686018427387904 := Nat.lt_of_le_of_lt (Nat.div_le_self r s) hr'
  have a3 : p % q < 4611686018427387904 := Nat.lt_of_le_of_lt (Nat.mod_le p q) hp'
  have a4 : r % s < 4611686018427387904 := Nat.lt_of_le_of_lt (Nat.mod_le r s) hr'
  rw [Fr_compareFractions_L20]
  rw [if_neg (by rw [wI_200, wI_le (by omega) (by omega) (by omega) (by omega)]; omega)]
  rw [if_neg (by rw [lg_cmp_le, nj_0, nj_le hq' (by omega)]; omega), if_neg (by rw [lg_cmp_le, nj_0, nj_le hs' (by omega)]; omega)]
  simp only [nj_nz hq hq', nj_nz hs hs', z_gd_t, z_let_e, lg_cmp_eq, nj_div hp' hq', nj_div hr' hs', nj_sub, nj_0, nj_eq a1 a2, nj_eq a3 (show (0 : Nat) < _ by omega), nj_eq a4 (show (0 : Nat) < _ by omega), wI_1, wI_add]
  by_cases h1 : p % q = 0
  · simp only [h1, true_or, if_true]
  · by_cases h2 : r % s = 0
    · simp only [h1, h2, false_or, if_true, if_false]
    · simp only [h1, h2, false_or, if_false]
theorem ag_step {k1 k2 : Int32 → Int64 → Int64 → Option Int32} {n p q r s : Nat} {m : Int32} (hq : 0 < q) (hs : 0 < s) (hp' : p < 4611686018427387904) (hq' : q < 4611686018427387904) (hr' : r < 4611686018427387904) (hs' : s < 4611686018427387904) :
    M_against_L17 k1 k2 (n + 1) (wJ p) (wJ q) (wJ r) (wJ s) m =
      if p / q = r / s then (if p % q = 0 ∨ r % s = 0 then k2 m (wJ ((p % q : Nat) : Int)) (wJ ((r % s : Nat) : Int)) else M_against_L17 k1 k2 n (wJ q) (wJ ((p % q : Nat) : Int)) (wJ s) (wJ ((r % s : Nat) : Int)) (-m)) else k1 m (wJ ((p / q : Nat) : Int)) (wJ ((r / s : Nat) : Int)) := by
  have a1 : p / q < 4611686018427387904 := Nat.lt_of_le_of_lt (Nat.div_le_self p q) hp'
  have a2 : r / s < 4611686018427387904 := Nat.lt_of_le_of_lt (Nat.div_le_self r s) hr'
  have a3 : p % q < 4611686018427387904 := Nat.lt_of_le_of_lt (Nat.mod_le p q) hp'
  have a4 : r % s < 4611686018427387904 := Nat.lt_of_le_of_lt (Nat.mod_le r s) hr'
  rw [M_against_L17]
  simp only [nj_nz hq hq', nj_nz hs hs', z_gd_t, z_let_e, lg_cmp_eq, nj_div hp' hq', nj_div hr' hs', nj_rem hp' hq', nj_rem hr' hs', nj_0, nj_eq a1 a2, nj_eq a3 (show (0 : Nat) < _ by omega), nj_eq a4 (show (0 : Nat) < _ by omega)]
  by_cases h1 : p % q = 0
  · simp only [h1, true_or, if_true]
  · by_cases h2 : r % s = 0
    · simp only [h1, h2, false_or, if_true, if_false]
    · simp only [h1, h2, false_or, if_false]
/-- what is halved -/
theorem eu_half {p q M : Nat} (hqp : q ≤ p) (hq : 0 < q) (h : p * q < 2 ^ (M + 1)) : q * (p % q) < 2 ^ M := by
  have h0 : p % q < q := Nat.mod_lt p hq
  have h1 : q * (p / q) + p % q = p := Nat.div_add_mod p q
  have h2 : 1 ≤ p / q := Nat.div_pos hqp hq
  have h3 : q * 1 ≤ q * (p / q) := Nat.mul_le_mul_left q h2
  have h4 : 2 * (p % q) ≤ p := by omega
  have h5 : (2 * (p % q)) * q ≤ p * q := Nat.mul_le_mul_right q h4
  have h6 : (2 * (p % q)) * q = 2 * (q * (p % q)) := by rw [Nat.mul_assoc, Nat.mul_comm (p % q) q]
  rw [Nat.pow_succ] at h
  omega
def cfA (m : Int32) (x y : Int64) : Option Int32 := if (lg_cmp x y) ≤ 0 then (some (-m)) else (some m)
def cfB (m : Int32) (x y : Int64) : Option Int32 := if (lg_cmp x y) = 0 then (some 0) else (if (lg_cmp x 0) ≤ 0 then (some (-m)) else (some m))
def agA (m : Int32) (x y : Int64) : Option Int32 := if 0 ≤ (lg_cmp x y) then (some m) else (some (-m))
def agB (m : Int32) (x y : Int64) : Option Int32 := if (lg_cmp x y) = 0 then (some 0) else (if (lg_cmp x 0) = 0 then (some (-m)) else (some m))
theorem cfA_e {m : Int} {x y : Nat} (hx : x < 4611686018427387904) (hy : y < 4611686018427387904) (h : x ≠ y) : cfA (wI m) (wJ x) (wJ y) = some (wI (if x < y then -m else m)) := by
  unfold cfA
  simp only [lg_cmp_le, nj_le hx hy]
  by_cases h1 : x < y
  · rw [if_pos (by omega), if_pos h1, wI_neg]
  · rw [if_neg (by omega), if_neg h1]
theorem agA_e {m : Int} {x y : Nat} (hx : x < 4611686018427387904) (hy : y < 4611686018427387904) (_ : x ≠ y) : agA (wI m) (wJ x) (wJ y) = some (wI (if x < y then -m else m)) := by
  unfold agA
  simp only [lg_cmp_ge, nj_le hy hx]
  by_cases h1 : x < y
  · rw [if_neg (by omega), if_pos h1, wI_neg]
  · rw [if_pos (by omega), if_neg h1]
theorem cfB_e {m : Int} {x y : Nat} (hx : x < 4611686018427387904) (hy : y < 4611686018427387904) : cfB (wI m) (wJ x) (wJ y) = some (wI (if x = y then 0 else if x = 0 then -m else m)) := by
  unfold cfB
  simp only [lg_cmp_eq, lg_cmp_le, nj_eq hx hy, nj_0, nj_le hx (show (0 : Nat) < _ by omega)]
  by_cases h1 : x = y
  · rw [if_pos h1, if_pos h1]; rfl
  · rw [if_neg h1, if_neg h1]
    by_cases h2 : x = 0
    · rw [if_pos (by omega), if_pos h2, wI_neg]
    · rw [if_neg (by omega), if_neg h2]
theorem agB_e {m : Int} {x y : Nat} (hx : x < 4611686018427387904) (hy : y < 4611686018427387904) : agB (wI m) (wJ x) (wJ y) = some (wI (if x = y then 0 else if x = 0 then -m else m)) := by
  unfold agB
  simp only [lg_cmp_eq, nj_eq hx hy, nj_0, nj_eq hx (show (0 : Nat) < _ by omega)]
  by_cases h1 : x = y
  · rw [if_pos h1, if_pos h1]; rfl
  · rw [if_neg h1, if_neg h1]
    by_cases h2 : x = 0
    · rw [if_pos h2, if_pos h2, wI_neg]
    · rw [if_neg h2, if_neg h2]
theorem cf_all : ∀ (M p q r s : Nat) (m i : Int) (n : Nat), 0 < q → 0 < s → q ≤ p → p * q < 2 ^ M → p < 4611686018427387904 → r < 4611686018427387904 → s < 4611686018427387904 → (m = 1 ∨ m = -1) → 0 ≤ i → i + M < 200 → M < n →
    Fr_compareFractions_L20 cfA cfB n (wJ p) (wJ q) (wJ r) (wJ s) (wI m) (wI i) = some (wI (m * cm4 p q r s)) := by
  intro M
  induction M with
  | zero =>
    intro p q r s m i n hq hs hqp hM
    have : 1 * 1 ≤ p * q := Nat.mul_le_mul (by omega) (by omega)
    simp at hM
    omega
  | succ M ih =>
    intro p q r s m i n hq hs hqp hM hp hr hs' hm hi hiM hn
    obtain ⟨n, rfl⟩ : ∃ k, n = k + 1 := ⟨n - 1, by omega⟩
    have hq' : q < 4611686018427387904 := by omega
    have a1 : p / q < 4611686018427387904 := Nat.lt_of_le_of_lt (Nat.div_le_self p q) hp
    have a2 : r / s < 4611686018427387904 := Nat.lt_of_le_of_lt (Nat.div_le_self r s) hr
    have a3 : p % q < q := Nat.mod_lt p hq
    have a4 : r % s < s := Nat.mod_lt r hs
    rw [cf_step hq hs hp hq' hr hs' hi (by omega)]
    refine cf_join hm hq hs (fun h => cfA_e a1 a2 h) (fun _ => cfB_e (by omega) (by omega)) (fun h1 h2 _ => ?_)
    rw [wI_neg]
    exact ih q (p % q) s (r % s) (-m) (i + 1) n (by omega) (by omega) (by omega) (eu_half hqp hq hM) hq' hs' (by omega) (by omega) (by omega) (by omega) (by omega)
theorem ag_all : ∀ (M p q r s : Nat) (m : Int) (n : Nat), 0 < q → 0 < s → q ≤ p → p * q < 2 ^ M → p < 4611686018427387904 → r < 4611686018427387904 → s < 4611686018427387904 → (m = 1 ∨ m = -1) → M < n →
    M_against_L17 agA agB n (wJ p) (wJ q) (wJ r) (wJ s) (wI m) = some (wI (m * cm4 p q r s)) := by
  intro M
  induction M with
  | zero =>
    intro p q r s m n hq hs hqp hM
    have : 1 * 1 ≤ p * q := Nat.mul_le_mul (by omega) (by omega)
    simp at hM
    omega
  | succ M ih =>
    intro p q r s m n hq hs hqp hM hp hr hs' hm hn
    obtain ⟨n, rfl⟩ : ∃ k, n = k + 1 := ⟨n - 1, by omega⟩
    have hq' : q < 4611686018427387904 := by omega
    have a1 : p / q < 4611686018427387904 := Nat.lt_of_le_of_lt (Nat.div_le_self p q) hp
    have a2 : r / s < 4611686018427387904 := Nat.lt_of_le_of_lt (Nat.div_le_self r s) hr
    have a3 : p % q < q := Nat.mod_lt p hq
    have a4 : r % s < s := Nat.mod_lt r hs
    rw [ag_step hq hs hp hq' hr hs']
    refine cf_join hm hq hs (fun h => agA_e a1 a2 h) (fun _ => agB_e (by omega) (by omega)) (fun h1 h2 _ => ?_)
    rw [wI_neg]
    exact ih q (p % q) s (r % s) (-m) n (by omega) (by omega) (by omega) (eu_half hqp hq hM) hq' hs' (by omega) (by omega) (by omega)
theorem sq_lt {p q : Nat} (hp : p < 4611686018427387904) (hq : q < 4611686018427387904) : p * q < 2 ^ 124 := by
  have h1 : p * q ≤ p * 4611686018427387904 := Nat.mul_le_mul_left p (by omega)
  have h2 : p * 4611686018427387904 < 4611686018427387904 * 4611686018427387904 := Nat.mul_lt_mul_of_pos_right hp (by omega)
  have h3 : (4611686018427387904 * 4611686018427387904 : Nat) = 2 ^ 124 := by decide
  omega
/-- Fraction.compareFractions: the sign -/
theorem cf_top {F p q r s : Nat} (hF : 200 ≤ F) (hq : 0 < q) (hs : 0 < s) (hp' : p < 4611686018427387904) (hq' : q < 4611686018427387904) (hr' : r < 4611686018427387904) (hs' : s < 4611686018427387904) : Fr_compareFractions F (wJ p) (wJ q) (wJ r) (wJ s) = some (wI (cm4 p q r s)) := by
  obtain ⟨n, rfl⟩ : ∃ k, F = k + 1 := ⟨F - 1, by omega⟩
  show Fr_compareFractions_L20 cfA cfB (n + 1) (wJ p) (wJ q) (wJ r) (wJ s) (wI 1) (wI 0) = _
  have a1 : p / q < 4611686018427387904 := Nat.lt_of_le_of_lt (Nat.div_le_self p q) hp'
  have a2 : r / s < 4611686018427387904 := Nat.lt_of_le_of_lt (Nat.div_le_self r s) hr'
  have a3 : p % q < q := Nat.mod_lt p hq
  have a4 : r % s < s := Nat.mod_lt r hs
  rw [cf_step hq hs hp' hq' hr' hs' (by omega) (by omega)]
  have := cf_join (m := 1) (X := Fr_compareFractions_L20 cfA cfB n (wJ q) (wJ ((p % q : Nat) : Int)) (wJ s) (wJ ((r % s : Nat) : Int)) (-(wI 1)) (wI (0 + 1))) (Or.inl rfl) hq hs (fun h => cfA_e (m := 1) a1 a2 h) (fun _ => cfB_e (m := 1) (x := p % q) (y := r % s) (by omega) (by omega)) (fun h1 h2 _ => by
    rw [wI_neg]
    exact cf_all 124 q (p % q) s (r % s) (-1) (0 + 1) n (by omega) (by omega) (by omega) (sq_lt hq' (by omega)) hq' hs' (by omega) (by omega) (by omega) (by omega) (by omega))
  rw [this, Int.one_mul]
theorem ag_top {F p q r s : Nat} (hF : 200 ≤ F) (hq : 0 < q) (hs : 0 < s) (hp' : p < 4611686018427387904) (hq' : q < 4611686018427387904) (hr' : r < 4611686018427387904) (hs' : s < 4611686018427387904) : M_against F (wJ p) (wJ q) (wJ r) (wJ s) = some (wI (cm4 p q r s)) := by
  obtain ⟨n, rfl⟩ : ∃ k, F = k + 1 := ⟨F - 1, by omega⟩
  show M_against_L17 agA agB (n + 1) (wJ p) (wJ q) (wJ r) (wJ s) (wI 1) = _
  have a1 : p / q < 4611686018427387904 := Nat.lt_of_le_of_lt (Nat.div_le_self p q) hp'
  have a2 : r / s < 4611686018427387904 := Nat.lt_of_le_of_lt (Nat.div_le_self r s) hr'
  have a3 : p % q < q := Nat.mod_lt p hq
  have a4 : r % s < s := Nat.mod_lt r hs
  rw [ag_step hq hs hp' hq' hr' hs']
  have := cf_join (m := 1) (X := M_against_L17 agA agB n (wJ q) (wJ ((p % q : Nat) : Int)) (wJ s) (wJ ((r % s : Nat) : Int)) (-(wI 1))) (Or.inl rfl) hq hs (fun h => agA_e (m := 1) a1 a2 h) (fun _ => agB_e (m := 1) (x := p % q) (y := r % s) (by omega) (by omega)) (fun h1 h2 _ => by
    rw [wI_neg]
    exact ag_all 124 q (p % q) s (r % s) (-1) n (by omega) (by omega) (by omega) (sq_lt hq' (by omega)) hq' hs' (by omega) (by omega) (by omega))
  rw [this, Int.one_mul]
/-! the greatest common divisor -/
theorem rd_step {kx : Int64 → Option Fr} {n p q : Nat} {i : Int} (hp' : p < 4611686018427387904) (hq' : q < 4611686018427387904) (hi0 : 0 ≤ i) (hi : i < 200) :
    Fr_reduce_L30 kx (n + 1) (wJ p) (wJ q) (wI i) = if q = 0 then kx (wJ p) else Fr_reduce_L30 kx n (wJ q) (wJ ((p % q : Nat) : Int)) (wI (i + 1)) := by
  rw [Fr_reduce_L30]
  rw [if_neg (by rw [wI_200, wI_le (by omega) (by omega) (by omega) (by omega)]; omega)]
  simp only [lg_cmp_le, nj_0, nj_le hq' (show (0 : Nat) < _ by omega)]
  by_cases h : q = 0
  · rw [if_pos (by omega), if_pos h]
  · rw [if_neg (by omega), if_neg h, nj_nz (by omega) hq']
    simp only [z_gd_t, z_let_e, nj_rem hp' hq', wI_1, wI_add]
theorem co_step {n p q : Nat} (hp' : p < 4611686018427387904) (hq' : q < 4611686018427387904) :
    M_common_L17 (n + 1) (wJ p) (wJ q) = if q = 0 then some (wJ p) else M_common_L17 n (wJ q) (wJ ((p % q : Nat) : Int)) := by
  rw [M_common_L17]
  simp only [lg_cmp_eq, nj_0, nj_eq hq' (show (0 : Nat) < _ by omega)]
  by_cases h : q = 0
  · rw [if_pos h, if_pos h]
  · rw [if_neg h, if_neg h, nj_nz (by omega) hq']
    simp only [z_gd_t, z_let_e, nj_rem hp' hq']
theorem gcd_st {p q : Nat} : Nat.gcd q (p % q) = Nat.gcd p q := by rw [Nat.gcd_comm p q, Nat.gcd_rec q p, Nat.gcd_comm]
theorem rd_all {kx : Int64 → Option Fr} : ∀ (M p q : Nat) (i : Int) (n : Nat), q ≤ p → p * q < 2 ^ M → p < 4611686018427387904 → 0 ≤ i → i + M < 200 → M < n →
    Fr_reduce_L30 kx n (wJ p) (wJ q) (wI i) = kx (wJ ((Nat.gcd p q : Nat) : Int)) := by
  intro M
  induction M with
  | zero =>
    intro p q i n hqp hM hp hi hiM hn
    obtain ⟨n, rfl⟩ : ∃ k, n = k + 1 := ⟨n - 1, by omega⟩
    have hq0 : q = 0 := by
      rcases Nat.eq_zero_or_pos q with h | h
      · exact h
      · have : 1 * 1 ≤ p * q := Nat.mul_le_mul (by omega) (by omega)
        simp at hM
        omega
    rw [rd_step hp (by omega) hi (by omega), if_pos hq0, hq0, Nat.gcd_zero_right]
  | succ M ih =>
    intro p q i n hqp hM hp hi hiM hn
    obtain ⟨n, rfl⟩ : ∃ k, n = k + 1 := ⟨n - 1, by omega⟩
    rw [rd_step hp (by omega) hi (by omega)]
    rcases Nat.eq_zero_or_pos q with h | h
    · rw [if_pos h, h, Nat.gcd_zero_right]
    · rw [if_neg (by omega), ih q (p % q) (i + 1) n (Nat.le_of_lt (Nat.mod_lt p h)) (eu_half hqp h hM) (by omega) (by omega) (by omega) (by omega), gcd_st]
theorem co_all : ∀ (M p q : Nat) (n : Nat), q ≤ p → p * q < 2 ^ M → p < 4611686018427387904 → M < n →
    M_common_L17 n (wJ p) (wJ q) = some (wJ ((Nat.gcd p q : Nat) : Int)) := by
  intro M
  induction M with
  | zero =>
    intro p q n hqp hM hp hn
    obtain ⟨n, rfl⟩ : ∃ k, n = k + 1 := ⟨n - 1, by omega⟩
    have hq0 : q = 0 := by
      rcases Nat.eq_zero_or_pos q with h | h
      · exact h
      · have : 1 * 1 ≤ p * q := Nat.mul_le_mul (by omega) (by omega)
        simp at hM
        omega
    rw [co_step hp (by omega), if_pos hq0, hq0, Nat.gcd_zero_right]
  | succ M ih =>
    intro p q n hqp hM hp hn
    obtain ⟨n, rfl⟩ : ∃ k, n = k + 1 := ⟨n - 1, by omega⟩
    rw [co_step hp (by omega)]
    rcases Nat.eq_zero_or_pos q with h | h
    · rw [if_pos h, h, Nat.gcd_zero_right]
    · rw [if_neg (by omega), ih q (p % q) n (Nat.le_of_lt (Nat.mod_lt p h)) (eu_half hqp h hM) (by omega) (by omega), gcd_st]
theorem rd_top {kx : Int64 → Option Fr} {F p q : Nat} (hF : 200 ≤ F) (hp' : p < 4611686018427387904) (hq' : q < 4611686018427387904) : Fr_reduce_L30 kx F (wJ p) (wJ q) (wI 0) = kx (wJ ((Nat.gcd p q : Nat) : Int)) := by
  obtain ⟨n, rfl⟩ : ∃ k, F = k + 1 := ⟨F - 1, by omega⟩
  rw [rd_step hp' hq' (by omega) (by omega)]
  rcases Nat.eq_zero_or_pos q with h | h
  · rw [if_pos h, h, Nat.gcd_zero_right]
  · rw [if_neg (by omega), rd_all 124 q (p % q) (0 + 1) n (Nat.le_of_lt (Nat.mod_lt p h)) (sq_lt hq' (by have := Nat.mod_lt p h; omega)) hq' (by omega) (by omega) (by omega), gcd_st]
theorem co_top {F p q : Nat} (hF : 200 ≤ F) (hp' : p < 4611686018427387904) (hq' : q < 4611686018427387904) : M_common_L17 F (wJ p) (wJ q) = some (wJ ((Nat.gcd p q : Nat) : Int)) := by
  obtain ⟨n, rfl⟩ : ∃ k, F = k + 1 := ⟨F - 1, by omega⟩
  rw [co_step hp' hq']
  rcases Nat.eq_zero_or_pos q with h | h
  · rw [if_pos h, h, Nat.gcd_zero_right]
  · rw [if_neg (by omega), co_all 124 q (p % q) n (Nat.le_of_lt (Nat.mod_lt p h)) (sq_lt hq' (by have := Nat.mod_lt p h; omega)) hq' (by omega), gcd_st]
theorem abs_w {a : Int} (h1 : -4611686018427387904 < a) (h2 : a < 4611686018427387904) : (if 0 ≤ (lg_cmp (wJ a) 0) then wJ a else -(wJ a)) = wJ ((a.natAbs : Nat) : Int) := by
  simp only [lg_cmp_ge, wJ_0, wJ_neg]
  simp (disch := omega) only [wJ_le]
  by_cases h : 0 ≤ a
  · rw [if_pos h]; congr 1; omega
  · rw [if_neg h]; congr 1; omega
/-- a fraction is told alike by both -/
theorem rd_told {F : Nat} (hF : 200 ≤ F) {a b : Int} (h1 : -4611686018427387904 < a) (h2 : a < 4611686018427387904) (h3 : 0 < b) (h4 : b < 4611686018427387904) : ∃ fr : Fr, Fr_reduce F (wJ a, wJ b) = some fr ∧ ∀ w, M_told F (wJ a) (wJ b) w = some (Fr_part fr w) := by
  obtain ⟨q, rfl⟩ : ∃ q : Nat, b = q := ⟨b.toNat, by omega⟩
  have hg : 0 < Nat.gcd q a.natAbs := Nat.gcd_pos_of_pos_left _ (by omega)
  have hg' : Nat.gcd q a.natAbs ≤ q := Nat.gcd_le_left _ (by omega)
  have hn : z_nzl (wJ ((Nat.gcd q a.natAbs : Nat) : Int)) = true := nj_nz hg (by omega)
  refine ⟨(wJ a / wJ ((Nat.gcd q a.natAbs : Nat) : Int), wJ q / wJ ((Nat.gcd q a.natAbs : Nat) : Int)), ?_, fun w => ?_⟩
  · unfold Fr_reduce
    simp only [z_let_e]
    rw [abs_w h1 h2]
    refine (rd_top hF (by omega) (by omega)).trans ?_
    rw [if_neg (by rw [lg_cmp_le, nj_0, nj_le (by omega) (by omega)]; omega)]
    simp only [hn, z_gd_t]
  · unfold M_told M_common
    simp only [z_let_e]
    rw [abs_w h1 h2, co_top hF (by omega) (by omega), Nat.gcd_comm, z_bd_s]
    simp only [hn, z_gd_t, Fr_part]
    by_cases hw : w = 0
    · rw [if_pos hw, if_pos hw]
    · rw [if_neg hw, if_neg hw]

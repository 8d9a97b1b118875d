/-! WAYS: how the regular kicks may come, by one recursion -/
def nld (S : St) (k : Nat) (d : Int) (l : Nat) : Nat := if k % 2 = 0 then ldr S (k / 2) d l else l
def sdA (k l : Nat) : Nat := if k % 2 = 0 then l else 1 - l
abbrev Ob : Type := Nat → Int → Int → Nat → Int
noncomputable def TW (S : St) (gr : Int) (f : Ob) : Nat → Nat → Int → Int → Nat → Int
  | 0, k, g, d, l => f k g d l
  | j + 1, k, g, d, l => @ite Int (ovr S k d l) (Classical.propDecidable _) (6 ^ (j + 1) * f k g d l)
      (chn S (sdA k l) (k / 2) (sgd (sdA k l) d) * TW S gr f j (k + 1) (if sdA k l = 0 then g + gr else g) (if sdA k l = 0 then d + 1 else d - 1) (nld S (k + 1) (if sdA k l = 0 then d + 1 else d - 1) l)
        + (6 - chn S (sdA k l) (k / 2) (sgd (sdA k l) d)) * TW S gr f j (k + 1) g d (nld S (k + 1) d l))
section ZTW
variable {S : St} {gr : Int} {f h : Ob}
theorem TW_o {k : Nat} {g d : Int} {l : Nat} (ho : ovr S k d l) : ∀ j, TW S gr f j k g d l = 6 ^ j * f k g d l
  | 0 => by
    show f k g d l = 6 ^ 0 * f k g d l
    rw [Int.pow_zero, Int.one_mul]
  | j + 1 => if_pos ho
theorem TW_n {k : Nat} {g d : Int} {l : Nat} (ho : ¬ ovr S k d l) (j : Nat) : TW S gr f (j + 1) k g d l = (chn S (sdA k l) (k / 2) (sgd (sdA k l) d) * TW S gr f j (k + 1) (if sdA k l = 0 then g + gr else g) (if sdA k l = 0 then d + 1 else d - 1) (nld S (k + 1) (if sdA k l = 0 then d + 1 else d - 1) l)
        + (6 - chn S (sdA k l) (k / 2) (sgd (sdA k l) d)) * TW S gr f j (k + 1) g d (nld S (k + 1) d l)) := if_neg ho
theorem p6 : ∀ j : Nat, 0 < (6 : Int) ^ j
  | 0 => by rw [Int.pow_zero]; decide
  | j + 1 => by have := p6 j; rw [Int.pow_succ]; omega
theorem TW_ig (hf : ∀ k g g' d l, f k g d l = f k g' d l) {gr' : Int} : ∀ j k g g' d l, TW S gr f j k g d l = TW S gr' f j k g' d l
  | 0, k, g, g', d, l => hf k g g' d l
  | j + 1, k, g, g', d, l => by
    by_cases ho : ovr S k d l
    · rw [TW_o ho, TW_o ho, hf k g g' d l]
    · rw [TW_n ho, TW_n ho, TW_ig hf j (k + 1) _ (if sdA k l = 0 then g' + gr' else g') _ _, TW_ig hf j (k + 1) g g' d _]
theorem TW_nn (hf : ∀ k g d l, 0 ≤ f k g d l) : ∀ j k g d l, 0 ≤ TW S gr f j k g d l
  | 0, k, g, d, l => hf k g d l
  | j + 1, k, g, d, l => by
    by_cases ho : ovr S k d l
    · rw [TW_o ho]
      exact Int.mul_nonneg (Int.le_of_lt (p6 _)) (hf k g d l)
    · rw [TW_n ho]
      have hc := chn_b S (sdA k l) (k / 2) (sgd (sdA k l) d)
      exact Int.add_nonneg (Int.mul_nonneg hc.1 (TW_nn hf j _ _ _ _)) (Int.mul_nonneg (by omega) (TW_nn hf j _ _ _ _))
theorem TW_le (hf : ∀ k g d l, f k g d l ≤ 1) : ∀ j k g d l, TW S gr f j k g d l ≤ 6 ^ j
  | 0, k, g, d, l => by
    show f k g d l ≤ 6 ^ 0
    rw [Int.pow_zero]
    exact hf k g d l
  | j + 1, k, g, d, l => by
    by_cases ho : ovr S k d l
    · rw [TW_o ho]
      have := Int.mul_le_mul_of_nonneg_left (hf k g d l) (Int.le_of_lt (p6 (j + 1)))
      omega
    · rw [TW_n ho, Int.pow_succ]
      have hc := chn_b S (sdA k l) (k / 2) (sgd (sdA k l) d)
      generalize chn S (sdA k l) (k / 2) (sgd (sdA k l) d) = c at hc ⊢
      have h1 := Int.mul_le_mul_of_nonneg_left (TW_le hf j (k + 1) (if sdA k l = 0 then g + gr else g) (if sdA k l = 0 then d + 1 else d - 1) (nld S (k + 1) (if sdA k l = 0 then d + 1 else d - 1) l)) hc.1
      have h2 := Int.mul_le_mul_of_nonneg_left (TW_le hf j (k + 1) g d (nld S (k + 1) d l)) (show 0 ≤ 6 - c by omega)
      have h3 := Int.sub_mul 6 c ((6 : Int) ^ j)
      omega
theorem TW_add : ∀ j k g d l, TW S gr (fun k g d l => f k g d l + h k g d l) j k g d l = TW S gr f j k g d l + TW S gr h j k g d l
  | 0, k, g, d, l => rfl
  | j + 1, k, g, d, l => by
    by_cases ho : ovr S k d l
    · rw [TW_o ho, TW_o ho, TW_o ho, Int.mul_add]
    · rw [TW_n ho, TW_n ho, TW_n ho, TW_add j, TW_add j, Int.mul_add, Int.mul_add]
      omega
/-! what is asked of them -/
noncomputable def fWA (S : St) : Ob := fun k _ d l => o01 (ovr S k d l ∧ 0 < d)
noncomputable def fWB (S : St) : Ob := fun k _ d l => o01 (ovr S k d l ∧ d < 0)
noncomputable def fLV (S : St) : Ob := fun k _ d l => o01 (¬ ovr S k d l)
noncomputable def fE (S : St) (t : Nat) : Ob := fun k _ d l => o01 (ovr S k d l ∧ k = t)
noncomputable def fSc (t : Nat) : Ob := fun _ g d _ => o01 (6 * g + (g - d) = t)
theorem o01_nn (p : Prop) : 0 ≤ o01 p := by rcases o01_b p with h | h <;> rw [h] <;> decide
theorem o01_le (p : Prop) : o01 p ≤ 1 := by rcases o01_b p with h | h <;> rw [h] <;> decide
theorem TW_E0 {t : Nat} : ∀ j k g d l, k + j < t → TW S gr (fE S t) j k g d l = 0
  | 0, k, g, d, l, hk => o01_f (fun h => by have := h.2; omega)
  | j + 1, k, g, d, l, hk => by
    by_cases ho : ovr S k d l
    · rw [TW_o ho, show fE S t k g d l = 0 from o01_f (fun h => by have := h.2; omega), Int.mul_zero]
    · rw [TW_n ho, TW_E0 j _ _ _ _ (by omega), TW_E0 j _ _ _ _ (by omega), Int.mul_zero, Int.mul_zero]
      rfl
theorem TW_3 (j k : Nat) (g d : Int) (l : Nat) : 0 ≤ TW S gr (fWA S) j k g d l ∧ 0 ≤ TW S gr (fWB S) j k g d l ∧ 0 ≤ TW S gr (fLV S) j k g d l ∧ TW S gr (fWA S) j k g d l + TW S gr (fWB S) j k g d l + TW S gr (fLV S) j k g d l ≤ 6 ^ j := by
  refine ⟨TW_nn (fun _ _ _ _ => o01_nn _) _ _ _ _ _, TW_nn (fun _ _ _ _ => o01_nn _) _ _ _ _ _, TW_nn (fun _ _ _ _ => o01_nn _) _ _ _ _ _, ?_⟩
  rw [← TW_add, ← TW_add]
  refine TW_le (fun k g d l => ?_) _ _ _ _ _
  show o01 (ovr S k d l ∧ 0 < d) + o01 (ovr S k d l ∧ d < 0) + o01 (¬ ovr S k d l) ≤ 1
  by_cases h1 : ovr S k d l
  · rw [o01_f (p := ¬ ovr S k d l) (fun h => h h1)]
    have u1 := o01_le (ovr S k d l ∧ d < 0)
    have u2 := o01_le (ovr S k d l ∧ 0 < d)
    by_cases h : d < 0
    · rw [o01_f (p := ovr S k d l ∧ 0 < d) (fun h' => by have := h'.2; omega)]
      omega
    · rw [o01_f (p := ovr S k d l ∧ d < 0) (fun h' => h h'.2)]
      omega
  · rw [o01_f (p := ovr S k d l ∧ 0 < d) (fun h => h1 h.1), o01_f (p := ovr S k d l ∧ d < 0) (fun h => h1 h.1)]
    have := o01_le (¬ ovr S k d l)
    omega
/-! the same, by the bits of a number -/
def val (f : Ob) (o : Option (Int × Mm)) : Int := match o with
  | none => 0
  | some u => u.1 * f u.2.1 u.2.2.1 (mD u.2) u.2.2.2.2
noncomputable def lf (S : St) : Nat → Nat → Int → Mm → Option (Int × Mm)
  | 0, w, x, m => if w = 0 then some (x, m) else none
  | j + 1, w, x, m => @ite _ (ovr S m.1 (mD m) m.2.2.2) (Classical.propDecidable _) (if w = 0 then some (x * 6 ^ (j + 1), m) else none) (lf S j (w / 2) (x * (if w % 2 = 1 then mChance S m else 6 - mChance S m)) (mStep S m (w % 2)))
theorem lf_o {m : Mm} (ho : ovr S m.1 (mD m) m.2.2.2) (w : Nat) (x : Int) : ∀ j, lf S j w x m = if w = 0 then some (x * 6 ^ j, m) else none
  | 0 => by
    show (if w = 0 then some (x, m) else none) = _
    rw [Int.pow_zero, Int.mul_one]
  | j + 1 => if_pos ho
theorem lf_n {m : Mm} (ho : ¬ ovr S m.1 (mD m) m.2.2.2) (j w : Nat) (x : Int) : lf S (j + 1) w x m = lf S j (w / 2) (x * (if w % 2 = 1 then mChance S m else 6 - mChance S m)) (mStep S m (w % 2)) := if_neg ho
def sm (h : Nat → Int) : Nat → Int
  | 0 => 0
  | n + 1 => sm h n + h n
theorem sm_2 (h : Nat → Int) : ∀ n, sm h (2 * n) = sm (fun w => h (2 * w) + h (2 * w + 1)) n
  | 0 => rfl
  | n + 1 => by
    show sm h (2 * n) + h (2 * n) + h (2 * n + 1) = sm (fun w => h (2 * w) + h (2 * w + 1)) n + (h (2 * n) + h (2 * n + 1))
    rw [sm_2 h n, Int.add_assoc]
theorem sm_add (h k : Nat → Int) : ∀ n, sm (fun w => h w + k w) n = sm h n + sm k n
  | 0 => rfl
  | n + 1 => by
    show sm (fun w => h w + k w) n + (h n + k n) = sm h n + h n + (sm k n + k n)
    rw [sm_add h k n]
    omega
theorem sm_one {h : Nat → Int} (hz : ∀ w, 0 < w → h w = 0) : ∀ n, sm h (n + 1) = h 0
  | 0 => by show 0 + h 0 = h 0; omega
  | n + 1 => by
    show sm h (n + 1) + h (n + 1) = h 0
    rw [sm_one hz n, hz (n + 1) (by omega)]
    omega
theorem sm_congr {h k : Nat → Int} (e : ∀ w, h w = k w) (n : Nat) : sm h n = sm k n := by rw [show h = k from funext e]
theorem lf_sum (hS : okS S) : ∀ (j : Nat) (m : Mm) (x : Int), m.1 + j = 2 * sn S → sm (fun w => val f (lf S j w x m)) (2 ^ j) = x * TW S 1 f j m.1 m.2.1 (mD m) m.2.2.2
  | 0, m, x, hj => by
    show 0 + val f (lf S 0 0 x m) = _
    rw [Int.zero_add]
    rfl
  | j + 1, m, x, hj => by
    by_cases ho : ovr S m.1 (mD m) m.2.2.2
    · obtain ⟨N, hN⟩ : ∃ N, 2 ^ (j + 1) = N + 1 := ⟨2 ^ (j + 1) - 1, by have := Nat.two_pow_pos (j + 1); omega⟩
      rw [hN, sm_one (fun w hw => by rw [lf_o ho, if_neg (by omega)]; rfl), lf_o ho, if_pos rfl, TW_o ho, ← Int.mul_assoc]
      rfl
    · have h0 : ∀ w, lf S (j + 1) (2 * w) x m = lf S j w (x * (6 - mChance S m)) (mStep S m 0) := fun w => by
        rw [lf_n ho, show 2 * w / 2 = w by omega, show 2 * w % 2 = 0 by omega]
        rfl
      have h1 : ∀ w, lf S (j + 1) (2 * w + 1) x m = lf S j w (x * mChance S m) (mStep S m 1) := fun w => by
        rw [lf_n ho, show (2 * w + 1) / 2 = w by omega, show (2 * w + 1) % 2 = 1 by omega]
        rfl
      rw [Nat.pow_succ, Nat.mul_comm, sm_2]
      simp only [h0, h1]
      rw [sm_add, lf_sum hS j (mStep S m 0) _ (by show m.1 + 1 + j = _; omega), lf_sum hS j (mStep S m 1) _ (by show m.1 + 1 + j = _; omega), TW_n ho, mD_step, mD_step, Int.mul_assoc, Int.mul_assoc, ← Int.mul_add]
      congr 1
      have ec : mChance S m = chn S (sdA m.1 m.2.2.2) (m.1 / 2) (sgd (sdA m.1 m.2.2.2) (mD m)) := by
        unfold mChance
        rw [Nat.mod_eq_of_lt (by omega)]
        rfl
      have et : mTurn m = sdA m.1 m.2.2.2 := rfl
      have z1 : mD m + sgd (mTurn m) ((0 : Nat) : Int) = mD m := by unfold sgd; split <;> omega
      have z2 : mD m + sgd (mTurn m) ((1 : Nat) : Int) = if sdA m.1 m.2.2.2 = 0 then mD m + 1 else mD m - 1 := by rw [et]; unfold sgd; split <;> omega
      have z3 : ((mStep S m 0).2.1 : Int) = m.2.1 := by
        show (((if mTurn m = 0 then m.2.1 + 0 else m.2.1) : Nat) : Int) = _
        split <;> omega
      have z4 : ((mStep S m 1).2.1 : Int) = if sdA m.1 m.2.2.2 = 0 then (m.2.1 : Int) + 1 else m.2.1 := by
        show (((if mTurn m = 0 then m.2.1 + 1 else m.2.1) : Nat) : Int) = _
        rw [et]
        split <;> omega
      have z5 : (mStep S m 0).2.2.2 = nld S (m.1 + 1) (mD m) m.2.2.2 := by
        show (if (m.1 + 1) % 2 = 0 then ldr S ((m.1 + 1) / 2) (mD m + sgd (mTurn m) ((0 : Nat) : Int)) m.2.2.2 else m.2.2.2) = _
        rw [z1]
        rfl
      have z6 : (mStep S m 1).2.2.2 = nld S (m.1 + 1) (if sdA m.1 m.2.2.2 = 0 then mD m + 1 else mD m - 1) m.2.2.2 := by
        show (if (m.1 + 1) % 2 = 0 then ldr S ((m.1 + 1) / 2) (mD m + sgd (mTurn m) ((1 : Nat) : Int)) m.2.2.2 else m.2.2.2) = _
        rw [z2]
        rfl
      rw [z1, z2, z3, z4, z5, z6, ec, Int.add_comm]
      rfl
end ZTW
theorem ovr_ne {S : St} (hS : okS S) {k l : Nat} {d : Int} (hl : l ≤ 1) (h : ovr S k d l) : d ≠ 0 := by
  have := hS.1
  unfold ovr at h
  split at h
  · omega
  · exact h.2

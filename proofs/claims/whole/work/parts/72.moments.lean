/-! MOMENTS: a set-up, a moment of it, as numbers; what the class and the reference hold of them -/
theorem wb_tb (n : Nat) : (lN n).toBitVec = BitVec.ofNat 64 n := rfl
theorem wb_inj {a b : Int64} (h : a.toBitVec = b.toBitVec) : a = b := Int64.toBitVec_inj.mp h
theorem wb_tn {n : Nat} (h : n < 2 ^ 64) : (lN n).toBitVec.toNat = n := by rw [wb_tb, BitVec.toNat_ofNat, Nat.mod_eq_of_lt h]
theorem wb_of (x : Int64) : ∃ n, n < 2 ^ 64 ∧ x = lN n := ⟨x.toBitVec.toNat, x.toBitVec.isLt, wb_inj (by rw [wb_tb]; simp)⟩
theorem wb_of32 (x : Int32) : ∃ n, n < 2 ^ 32 ∧ x = nI n := ⟨x.toBitVec.toNat, x.toBitVec.isLt, Int32.toBitVec_inj.mp (by show _ = BitVec.ofNat 32 _; simp)⟩
theorem wb_c : ∀ k, k < 64 → ((nI k).toInt64 &&& 63) = lN k := by decide +kernel
theorem wb_cu : ∀ k, k < 64 → ((nI k).toInt64.toUInt64 &&& Int64.toUInt64 63) = UInt64.ofNat k := by decide +kernel
theorem wb_sm : ∀ k, k < 64 → (BitVec.ofNat 64 k).smod 64 = BitVec.ofNat 64 k := by decide +kernel
theorem wb_pw {a b : Nat} (h : a ≤ b) : 2 ^ b = 2 ^ a * 2 ^ (b - a) := by rw [← Nat.pow_add]; congr 1; omega
theorem wb_lt2 {a b : Nat} (h : a < b) : 2 ^ a < 2 ^ b := Nat.pow_lt_pow_right (by decide) h
theorem wb_mod (n : Nat) : lN n = lN (n % 2 ^ 64) := wb_inj (by rw [wb_tb, wb_tb]; apply BitVec.eq_of_toNat_eq; rw [BitVec.toNat_ofNat, BitVec.toNat_ofNat, Nat.mod_mod])
theorem wb_shr {n k : Nat} (hn : n < 2 ^ 64) (hk : k < 64) : ((lN n).toUInt64 >>> ((nI k).toInt64.toUInt64 &&& Int64.toUInt64 63)).toInt64 = lN (n / 2 ^ k) := by
  rw [wb_cu k hk]
  apply wb_inj
  apply BitVec.eq_of_toNat_eq
  show ((lN n).toUInt64 >>> UInt64.ofNat k).toNat = (BitVec.ofNat 64 _).toNat
  have h1 : (UInt64.ofNat k).toNat = k := by
    show (BitVec.ofNat 64 k).toNat = k
    rw [BitVec.toNat_ofNat, Nat.mod_eq_of_lt (by omega)]
  have h2 : (lN n).toUInt64.toNat = n := wb_tn hn
  rw [UInt64.toNat_shiftRight, h1, h2, Nat.mod_eq_of_lt hk, Nat.shiftRight_eq_div_pow, BitVec.toNat_ofNat, Nat.mod_eq_of_lt (Nat.lt_of_le_of_lt (Nat.div_le_self _ _) hn)]
theorem wb_shl (n : Nat) {k : Nat} (hk : k < 64) : lN n <<< ((nI k).toInt64 &&& 63) = lN (n * 2 ^ k) := by
  rw [wb_c k hk]
  apply wb_inj
  rw [Int64.toBitVec_shiftLeft, wb_tb, wb_tb, wb_tb, wb_sm k hk]
  apply BitVec.eq_of_toNat_eq
  rw [BitVec.shiftLeft_eq', BitVec.toNat_shiftLeft, BitVec.toNat_ofNat, BitVec.toNat_ofNat, BitVec.toNat_ofNat, Nat.mod_eq_of_lt (show k < 2 ^ 64 by omega), Nat.shiftLeft_eq, Nat.mul_mod, Nat.mod_mod, ← Nat.mul_mod]
theorem wb_and {a b : Nat} (ha : a < 2 ^ 64) (hb : b < 2 ^ 64) : lN a &&& lN b = lN (a &&& b) := by
  apply wb_inj
  rw [Int64.toBitVec_and, wb_tb, wb_tb, wb_tb]
  apply BitVec.eq_of_toNat_eq
  rw [BitVec.toNat_and, BitVec.toNat_ofNat, BitVec.toNat_ofNat, BitVec.toNat_ofNat, Nat.mod_eq_of_lt ha, Nat.mod_eq_of_lt hb, Nat.mod_eq_of_lt (Nat.and_lt_two_pow _ hb)]
theorem wb_or {a b : Nat} (ha : a < 2 ^ 64) (hb : b < 2 ^ 64) : lN a ||| lN b = lN (a ||| b) := by
  apply wb_inj
  rw [Int64.toBitVec_or, wb_tb, wb_tb, wb_tb]
  apply BitVec.eq_of_toNat_eq
  rw [BitVec.toNat_or, BitVec.toNat_ofNat, BitVec.toNat_ofNat, BitVec.toNat_ofNat, Nat.mod_eq_of_lt ha, Nat.mod_eq_of_lt hb, Nat.mod_eq_of_lt (Nat.or_lt_two_pow ha hb)]
theorem wb_mask {n k : Nat} (hn : n < 2 ^ 64) (hk : k < 64) : lN n &&& lN (2 ^ k - 1) = lN (n % 2 ^ k) := by
  rw [wb_and hn (by have := wb_lt2 hk; omega), Nat.and_two_pow_sub_one_eq_mod]
theorem wb_a1 {n : Nat} (hn : n < 2 ^ 64) : lN n &&& 1 = lN (n % 2) := wb_mask (k := 1) hn (by decide)
theorem wb_bit {n k : Nat} (hn : n < 2 ^ 64) (hk : k < 64) : ((lN n).toUInt64 >>> ((nI k).toInt64.toUInt64 &&& Int64.toUInt64 63)).toInt64 &&& 1 = lN (n / 2 ^ k % 2) := by
  rw [wb_shr hn hk, wb_a1 (Nat.lt_of_le_of_lt (Nat.div_le_self _ _) hn)]
theorem wI_nI (k : Nat) : wI (k : Int) = nI k := Int32.ofInt_eq_ofNat
theorem wJ_lN (k : Nat) : wJ (k : Int) = lN k := Int64.ofInt_eq_ofNat
def bs (f : Nat → Nat) : Nat → Nat
  | 0 => 0
  | k + 1 => bs f k + f k * 2 ^ k
theorem bs_lt {f : Nat → Nat} (hf : ∀ i, f i ≤ 1) : ∀ k, bs f k < 2 ^ k
  | 0 => by simp [bs]
  | k + 1 => by
    have h1 := bs_lt hf k
    have h2 : f k * 2 ^ k ≤ 1 * 2 ^ k := Nat.mul_le_mul_right _ (hf k)
    show bs f k + f k * 2 ^ k < 2 ^ (k + 1)
    rw [Nat.pow_succ]
    omega
theorem bs_bit {f : Nat → Nat} (hf : ∀ i, f i ≤ 1) : ∀ k i, i < k → bs f k / 2 ^ i % 2 = f i
  | 0, i, h => by omega
  | k + 1, i, h => by
    show (bs f k + f k * 2 ^ k) / 2 ^ i % 2 = f i
    have hp : 0 < 2 ^ i := Nat.two_pow_pos i
    rcases Nat.lt_or_ge i k with hi | hi
    · have e : f k * 2 ^ k = (f k * 2 ^ (k - i - 1) * 2) * 2 ^ i := by
        rw [Nat.mul_assoc, Nat.mul_assoc]
        congr 1
        rw [← Nat.pow_succ', ← Nat.pow_add]
        congr 1
        omega
      rw [e, Nat.add_mul_div_right _ _ hp, Nat.add_mul_mod_self_right]
      exact bs_bit hf k i hi
    · have : i = k := by omega
      subst this
      rw [Nat.add_mul_div_right _ _ hp, Nat.div_eq_of_lt (bs_lt hf i)]
      have := hf i
      omega
theorem bs_congr {f g : Nat → Nat} : ∀ k, (∀ i, i < k → f i = g i) → bs f k = bs g k
  | 0, _ => rfl
  | k + 1, h => by
    show bs f k + f k * 2 ^ k = bs g k + g k * 2 ^ k
    rw [bs_congr k (fun i hi => h i (by omega)), h k (by omega)]
theorem bs_get {f : Nat → Nat} (hf : ∀ i, f i ≤ 1) {k i : Nat} (hk : k ≤ 64) (hi : i < k) : (((lN (bs f k)).toUInt64 >>> ((wI (i : Int)).toInt64.toUInt64 &&& Int64.toUInt64 63)).toInt64 &&& 1).toInt32 = wI (f i : Int) := by
  have h64 : bs f k < 2 ^ 64 := Nat.lt_of_lt_of_le (bs_lt hf k) (Nat.pow_le_pow_right (by decide) hk)
  rw [wI_nI, wb_bit h64 (by omega), bs_bit hf k i hi, ← wJ_lN, wJ_i]
theorem bs_put {f : Nat → Nat} (hf : ∀ i, f i ≤ 1) {k : Nat} (hk : k < 63) : lN (bs f k) ||| ((wI (f k : Int)).toInt64 <<< ((wI (k : Int)).toInt64 &&& 63)) = lN (bs f (k + 1)) := by
  have h1 := bs_lt hf k
  have hfk := hf k
  have h2 : f k * 2 ^ k ≤ 1 * 2 ^ k := Nat.mul_le_mul_right _ hfk
  have h3 : 2 ^ (k + 1) ≤ 2 ^ 63 := Nat.pow_le_pow_right (by decide) (by omega)
  have h5 : (2 : Nat) ^ 63 < 2 ^ 64 := by decide
  rw [Nat.pow_succ] at h3
  rw [wI_l (by omega) (by omega), wJ_lN, wI_nI, wb_shl _ (by omega), wb_or (by omega) (by omega)]
  congr 1
  rw [Nat.or_comm, ← Nat.shiftLeft_eq, ← Nat.shiftLeft_add_eq_or_of_lt h1, Nat.shiftLeft_eq, Nat.add_comm]
  rfl
/-! the set-up: n, order, first, nerves, skills -/
abbrev St : Type := Nat × Nat × Nat × (Nat → Int) × (Nat → Int)
abbrev sn (S : St) : Nat := S.1
abbrev so (S : St) : Nat := S.2.1
abbrev sf (S : St) : Nat := S.2.2.1
abbrev sv (S : St) : Nat → Int := S.2.2.2.1
abbrev sk (S : St) : Nat → Int := S.2.2.2.2
def okS (S : St) : Prop := 1 ≤ sn S ∧ sn S ≤ 5 ∧ so S ≤ 3 ∧ sf S ≤ 1 ∧ (∀ i, i < 4 → -3 ≤ sv S i ∧ sv S i ≤ 3) ∧ (∀ i, i < 10 → 0 ≤ sk S i ∧ sk S i ≤ 6)
/-- kicks, goals of a, of b, the leader of the round at hand -/
abbrev Mm : Type := Nat × Nat × Nat × Nat
def hld (x : Int) : Int := if x < 0 then 0 else if 6 < x then 6 else x
theorem hld_b (x : Int) : 0 ≤ hld x ∧ hld x ≤ 6 := by unfold hld; repeat' split; all_goals omega
def chn (S : St) (s i : Nat) (d : Int) : Int := hld (sk S (5 * s + i) + (if d < 0 then sv S s else if 0 < d then sv S (2 + s) else 0))
theorem chn_b (S : St) (s i : Nat) (d : Int) : 0 ≤ chn S s i d ∧ chn S s i d ≤ 6 := hld_b _
def ldr (S : St) (r : Nat) (d : Int) (p : Nat) : Nat :=
  if r = 0 ∨ sn S ≤ r then sf S else if so S = 1 then (if r % 2 = 0 then sf S else 1 - sf S) else if so S = 2 then (if r = 3 then sf S else 1 - sf S) else if so S = 3 then (if d < 0 then 0 else if 0 < d then 1 else 1 - p) else sf S
theorem ldr_b {S : St} (hS : okS S) (r : Nat) (d : Int) (p : Nat) : ldr S r d p ≤ 1 := by
  have := hS.2.2.2.1
  unfold ldr
  repeat' split
  all_goals omega
def mTurn (m : Mm) : Nat := if m.1 % 2 = 0 then m.2.2.2 else 1 - m.2.2.2
def mD (m : Mm) : Int := (m.2.1 : Int) - m.2.2.1
def sgd (s : Nat) (d : Int) : Int := if s = 0 then d else -d
def mChance (S : St) (m : Mm) : Int := chn S (mTurn m) (m.1 / 2 % sn S) (sgd (mTurn m) (mD m))
def mStep (S : St) (m : Mm) (b : Nat) : Mm :=
  (m.1 + 1, (if mTurn m = 0 then m.2.1 + b else m.2.1), (if mTurn m = 0 then m.2.2.1 else m.2.2.1 + b),
    if (m.1 + 1) % 2 = 0 then ldr S ((m.1 + 1) / 2) (mD m + sgd (mTurn m) b) m.2.2.2 else m.2.2.2)
def ovr (S : St) (k : Nat) (d : Int) (l : Nat) : Prop :=
  if k ≤ 2 * sn S then ((sn S : Int) - ((k + l) / 2 : Nat) < d ∨ (sn S : Int) - ((k + 1 - l) / 2 : Nat) < -d) else (k % 2 = 0 ∧ d ≠ 0)
noncomputable def o01 (p : Prop) : Int := @ite Int p (Classical.propDecidable p) 1 0
theorem o01_t {p : Prop} (h : p) : o01 p = 1 := by unfold o01; rw [if_pos h]
theorem o01_f {p : Prop} (h : ¬ p) : o01 p = 0 := by unfold o01; rw [if_neg h]
theorem o01_c {p q : Prop} (h : p ↔ q) : o01 p = o01 q := by rw [propext h]
theorem o01_b (p : Prop) : o01 p = 0 ∨ o01 p = 1 := by by_cases h : p; exact Or.inr (o01_t h); exact Or.inl (o01_f h)
theorem o01_0 {p : Prop} : o01 p = 0 ↔ ¬ p := by by_cases h : p; rw [o01_t h]; simp [h]; rw [o01_f h]; simp [h]
noncomputable def mOv (S : St) (m : Mm) : Int := o01 (ovr S m.1 (mD m) m.2.2.2)
theorem mD_step (S : St) (m : Mm) (b : Nat) : mD (mStep S m b) = mD m + sgd (mTurn m) b := by
  unfold mD mStep sgd
  dsimp only
  repeat' split
  all_goals omega
def mAt (S : St) (gl : Nat → Nat) : Nat → Mm
  | 0 => (0, 0, 0, sf S)
  | k + 1 => mStep S (mAt S gl k) (gl k)
def tnA (S : St) (gl : Nat → Nat) (k : Nat) : Nat := mTurn (mAt S gl k)
theorem mAt_k (S : St) (gl : Nat → Nat) : ∀ k, (mAt S gl k).1 = k
  | 0 => rfl
  | k + 1 => by show (mAt S gl k).1 + 1 = k + 1; rw [mAt_k S gl k]
theorem mAt_l {S : St} (hS : okS S) (gl : Nat → Nat) : ∀ k, (mAt S gl k).2.2.2 ≤ 1
  | 0 => hS.2.2.2.1
  | k + 1 => by
    have := mAt_l hS gl k
    show (if ((mAt S gl k).1 + 1) % 2 = 0 then _ else (mAt S gl k).2.2.2) ≤ 1
    split
    · exact ldr_b hS _ _ _
    · exact this
theorem mTurn_b {m : Mm} (h : m.2.2.2 ≤ 1) : mTurn m ≤ 1 := by unfold mTurn; split <;> omega
theorem mAt_g (S : St) {gl : Nat → Nat} (hg : ∀ i, gl i ≤ 1) : ∀ k, (mAt S gl k).2.1 + (mAt S gl k).2.2.1 ≤ k
  | 0 => by simp [mAt]
  | k + 1 => by
    have h1 := mAt_g S hg k
    have h2 := hg k
    show (if mTurn (mAt S gl k) = 0 then _ else _) + (if mTurn (mAt S gl k) = 0 then _ else _) ≤ k + 1
    split <;> omega
theorem mAt_congr (S : St) {f g : Nat → Nat} : ∀ k, (∀ i, i < k → f i = g i) → mAt S f k = mAt S g k
  | 0, _ => rfl
  | k + 1, h => by
    show mStep S (mAt S f k) (f k) = mStep S (mAt S g k) (g k)
    rw [mAt_congr S k (fun i hi => h i (by omega)), h k (by omega)]
/-! the class -/
def CS (S : St) (sh : Sh) : Prop := sh_shooters sh = wI (sn S) ∧ sh_order sh = wI (so S) ∧ sh_first sh = wI (sf S) ∧ (∀ i, i < 4 → sh_nerves sh i = wI (sv S i)) ∧ (∀ i, i < 10 → sh_skills sh i = wI (sk S i))
def CM (S : St) (gl : Nat → Nat) (k : Nat) (sh : Sh) : Prop := sh_kicks sh = wI k ∧ sh_goalBits sh = lN (bs gl k) ∧ sh_sideBits sh = lN (bs (tnA S gl) k) ∧ sh_goalsOfA sh = wI (mAt S gl k).2.1 ∧ sh_goalsOfB sh = wI (mAt S gl k).2.2.1
section ZCL
variable {S : St} {sh : Sh}
theorem c_skillOf (hC : CS S sh) {s i : Nat} (hs : s ≤ 1) (hi : i < 5) : Sh_skillOf sh (wI s) (wI i) = wI (sk S (5 * s + i)) := by
  unfold Sh_skillOf
  simp only [wI_0, wI_1, wI_2, wI_3, wI_4, wI_5, wI_6, wI_8, wI_9, wI_10, wI_11, wI_18, wI_20, wI_24, wI_36, wI_60, wI_78, wI_add, wI_sub, wI_mul, wI_neg, z_let_e]
  rw [if_neg (by rw [wI_lt (by omega) (by omega) (by omega) (by omega)]; omega), if_neg (by rw [wI_le (by omega) (by omega) (by omega) (by omega)]; omega), wI_nat (by omega) (by omega)]
  have e : ((s : Int) * 5 + i).toNat = 5 * s + i := by omega
  rw [e, hC.2.2.2.2 _ (by omega)]
theorem c_nerveOf (hC : CS S sh) {s a : Nat} (hs : s ≤ 1) (ha : a ≤ 1) : Sh_nerveOf sh (wI s) (wI a) = wI (sv S (2 * a + s)) := by
  unfold Sh_nerveOf
  simp only [wI_0, wI_1, wI_2, wI_3, wI_4, wI_5, wI_6, wI_8, wI_9, wI_10, wI_11, wI_18, wI_20, wI_24, wI_36, wI_60, wI_78, wI_add, wI_sub, wI_mul, wI_neg, z_let_e]
  have e : (if wI (a : Int) = wI 0 then wI 0 else wI 2) = wI (2 * a : Int) := by
    by_cases h : a = 0
    · subst h; rfl
    · rw [if_neg (by rw [wI_eq (by omega) (by omega) (by omega) (by omega)]; omega)]
      exact congrArg wI (by omega)
  rw [e]
  simp only [wI_0, wI_1, wI_2, wI_3, wI_4, wI_5, wI_6, wI_8, wI_9, wI_10, wI_11, wI_18, wI_20, wI_24, wI_36, wI_60, wI_78, wI_add, wI_sub, wI_mul, wI_neg]
  rw [if_neg (by rw [wI_lt (by omega) (by omega) (by omega) (by omega)]; omega), if_neg (by rw [wI_le (by omega) (by omega) (by omega) (by omega)]; omega), wI_nat (by omega) (by omega)]
  have e : (2 * (a : Int) + s).toNat = 2 * a + s := by omega
  rw [e, hC.2.2.2.1 _ (by omega)]
theorem c_chanceOf (hS : okS S) (hC : CS S sh) {s i : Nat} {d : Int} (hs : s ≤ 1) (hi : i < 5) (h1 : -100 ≤ d) (h2 : d ≤ 100) : Sh_chanceOf sh (wI s) (wI i) (wI d) = wI (chn S s i d) := by
  obtain ⟨_, _, _, _, hv, hk⟩ := hS
  have b1 := hv (2 * 0 + s) (by omega)
  have b2 := hv (2 * 1 + s) (by omega)
  have b3 := hk (5 * s + i) (by omega)
  unfold Sh_chanceOf chn hld
  rw [c_skillOf hC hs hi, show (0 : Int32) = wI ((0 : Nat) : Int) from rfl, show (1 : Int32) = wI ((1 : Nat) : Int) from rfl, c_nerveOf hC hs (by omega), c_nerveOf hC hs (by omega)]
  have e1 : 2 * 0 + s = s := by omega
  have e2 : 2 * 1 + s = 2 + s := by omega
  rw [e1] at b1
  rw [e2] at b2
  simp only [e1, e2, z_let_e, Int.natCast_zero]
  simp (disch := omega) only [wI_eq, wI_le]
  simp only [wI_0, wI_1, wI_2, wI_3, wI_4, wI_5, wI_6, wI_8, wI_9, wI_10, wI_11, wI_18, wI_20, wI_24, wI_36, wI_60, wI_78, wI_add, wI_sub, wI_mul, wI_neg]
  have key : (if d = 0 then wI (sk S (5 * s + i)) else if d ≤ 0 then wI (sk S (5 * s + i) + sv S s) else wI (sk S (5 * s + i) + sv S (2 + s))) = wI (sk S (5 * s + i) + (if d < 0 then sv S s else if 0 < d then sv S (2 + s) else 0)) := by
    rcases Int.lt_trichotomy d 0 with h | h | h
    · rw [if_neg (show ¬ d = 0 by omega), if_pos (show d ≤ 0 by omega), if_pos h]
    · rw [if_pos h, if_neg (show ¬ d < 0 by omega), if_neg (show ¬ 0 < d by omega), Int.add_zero]
    · rw [if_neg (show ¬ d = 0 by omega), if_neg (show ¬ d ≤ 0 by omega), if_neg (show ¬ d < 0 by omega), if_pos h]
  simp only [key]
  have hb : -3 ≤ sk S (5 * s + i) + (if d < 0 then sv S s else if 0 < d then sv S (2 + s) else 0) ∧ sk S (5 * s + i) + (if d < 0 then sv S s else if 0 < d then sv S (2 + s) else 0) ≤ 9 := by
    repeat' split
    all_goals omega
  generalize sk S (5 * s + i) + (if d < 0 then sv S s else if 0 < d then sv S (2 + s) else 0) = x at hb ⊢
  simp (disch := omega) only [wI_le]
  repeat' split
  all_goals first | omega | exact congrArg wI (by omega)
theorem bc5 : ∀ r : Nat, r < 5 → z_rem (Int_bitCount_0f7a4 (wI r)) (wI 2) = wI (if r = 3 ∨ r = 0 then 0 else 1) := by decide +kernel
theorem c_leaderOf (hS : okS S) (hC : CS S sh) {r p : Nat} {d : Int} (hr : r < 100) (hp : p ≤ 1) (h1 : -100 ≤ d) (h2 : d ≤ 100) : Sh_leaderOf sh (wI r) (wI d) (wI p) = wI (ldr S r d p) := by
  obtain ⟨hn1, hn5, ho, hf, _⟩ := hS
  obtain ⟨c1, c2, c3, _⟩ := hC
  unfold Sh_leaderOf ldr
  rw [c1, c2, c3]
  simp only [wI_0, wI_1, wI_2, wI_3, wI_4, wI_5, wI_6, wI_8, wI_9, wI_10, wI_11, wI_18, wI_20, wI_24, wI_36, wI_60, wI_78, wI_add, wI_sub, wI_mul, wI_neg]
  simp (disch := omega) only [wI_eq, wI_lt, wI_rem, wI_le]
  by_cases a1 : r = 0 ∨ sn S ≤ r
  · rw [if_pos a1]
    by_cases a2 : r = 0
    · rw [if_pos (by omega)]
    · rw [if_neg (by omega), if_neg (by omega)]
  · have a2 : r < 5 := by omega
    rw [if_neg a1, if_neg (by omega), if_pos (by omega), bc5 r a2]
    have e3 : (wI (if r = 3 ∨ r = 0 then 0 else 1) = wI 0) ↔ r = 3 := by
      by_cases h : r = 3
      · rw [if_pos (Or.inl h)]; simp [h]
      · rw [if_neg (by omega), wI_eq (by omega) (by omega) (by omega) (by omega)]; omega
    simp only [e3]
    repeat' split
    all_goals first | omega | exact congrArg wI (by omega)
theorem c_isOverAt (hS : okS S) (hC : CS S sh) {k l : Nat} {d : Int} (hk : k < 200) (hl : l ≤ 1) (h1 : -100 ≤ d) (h2 : d ≤ 100) : Sh_isOverAt sh (wI k) (wI d) (wI l) = wI (o01 (ovr S k d l)) := by
  obtain ⟨hn1, hn5, _⟩ := hS
  obtain ⟨c1, _⟩ := hC
  unfold Sh_isOverAt
  rw [c1]
  simp only [wI_0, wI_1, wI_2, wI_3, wI_4, wI_5, wI_6, wI_8, wI_9, wI_10, wI_11, wI_18, wI_20, wI_24, wI_36, wI_60, wI_78, wI_add, wI_sub, wI_mul, wI_neg, z_let_e]
  simp (disch := omega) only [wI_eq, wI_div, wI_rem, wI_add, wI_sub]
  have e : (if (l : Int) = 0 then wI d else wI (-d)) = wI (if (l : Int) = 0 then d else -d) := by split <;> rfl
  simp only [e]
  obtain ⟨x, hx⟩ : ∃ x : Int, x = if (l : Int) = 0 then d else -d := ⟨_, rfl⟩
  have hx1 : -100 ≤ x ∧ x ≤ 100 := by rw [hx]; split <;> omega
  simp only [← hx, wI_neg]
  simp (disch := omega) only [wI_lt, wI_le, wI_eq]
  have key : ovr S k d l ↔ (if k ≤ 2 * sn S then ((sn S : Int) - ((k + l) / 2 : Nat) < d ∨ (sn S : Int) - ((k + 1 - l) / 2 : Nat) < -d) else (k % 2 = 0 ∧ d ≠ 0)) := Iff.rfl
  by_cases hh : k ≤ 2 * sn S
  · rw [if_pos hh] at key
    rw [if_pos (by omega)]
    rcases Nat.le_one_iff_eq_zero_or_eq_one.mp hl with h | h
    · subst h
      have hx : x = d := hx
      rw [hx]
      by_cases h1 : (sn S : Int) - (k : Int) / 2 < d
      · rw [if_pos h1, o01_t (key.mpr (by omega))]
      · rw [if_neg h1]
        by_cases h2 : -d ≤ (sn S : Int) - ((k : Int) + 1) / 2
        · rw [if_pos h2, o01_f (fun h => by have := key.mp h; omega)]
        · rw [if_neg h2, o01_t (key.mpr (by omega))]
    · subst h
      have hx : x = -d := hx
      rw [hx]
      by_cases h1 : (sn S : Int) - (k : Int) / 2 < -d
      · rw [if_pos h1, o01_t (key.mpr (by omega))]
      · rw [if_neg h1]
        by_cases h2 : -(-d) ≤ (sn S : Int) - ((k : Int) + 1) / 2
        · rw [if_pos h2, o01_f (fun h => by have := key.mp h; omega)]
        · rw [if_neg h2, o01_t (key.mpr (by omega))]
  · rw [if_neg hh] at key
    rw [if_neg (by omega)]
    by_cases h1 : k % 2 = 0
    · rw [if_pos (by omega)]
      by_cases h2 : d = 0
      · rw [if_pos h2, o01_f (fun h => by have := key.mp h; omega)]
      · rw [if_neg h2, o01_t (key.mpr ⟨h1, h2⟩)]
    · rw [if_neg (by omega), o01_f (fun h => by have := key.mp h; omega)]
variable {gl : Nat → Nat} {k : Nat}
theorem tnA_b (hS : okS S) (gl : Nat → Nat) (k : Nat) : tnA S gl k ≤ 1 := mTurn_b (mAt_l hS gl k)
theorem tnA_e (k : Nat) (h : k % 2 = 0) : tnA S gl k = (mAt S gl k).2.2.2 := by unfold tnA mTurn; rw [mAt_k, if_pos h]
theorem mAt_lo (k : Nat) (h : k % 2 = 0) : (mAt S gl (k + 1)).2.2.2 = (mAt S gl k).2.2.2 := by
  show (if ((mAt S gl k).1 + 1) % 2 = 0 then _ else (mAt S gl k).2.2.2) = _
  rw [mAt_k, if_neg (by omega)]
theorem c_sideOf (hS : okS S) (hM : CM S gl k sh) (hk : k ≤ 62) {i : Nat} (hi : i < k) : Sh_sideOfKick sh (wI i) = wI (tnA S gl i) := by
  unfold Sh_sideOfKick
  rw [hM.2.2.1]
  exact bs_get (tnA_b hS gl) (by omega) hi
theorem c_goalOf (hg : ∀ i, gl i ≤ 1) (hM : CM S gl k sh) (hk : k ≤ 62) {i : Nat} (hi : i < k) : Sh_goalOfKick sh (wI i) = wI (gl i) := by
  unfold Sh_goalOfKick
  rw [hM.2.1]
  exact bs_get hg (by omega) hi
theorem c_lead (hM : CM S gl k sh) : Sh_lead sh = wI (mD (mAt S gl k)) := by
  unfold Sh_lead mD
  rw [hM.2.2.2.1, hM.2.2.2.2, wI_sub]
theorem mD_b (S : St) (hg : ∀ i, gl i ≤ 1) (k : Nat) : -(k : Int) ≤ mD (mAt S gl k) ∧ mD (mAt S gl k) ≤ k := by
  have := mAt_g S hg k
  unfold mD
  omega
theorem c_leader (hS : okS S) (hC : CS S sh) (hg : ∀ i, gl i ≤ 1) (hM : CM S gl k sh) (hk : k ≤ 62) : Sh_leader sh = wI (mAt S gl k).2.2.2 := by
  have hD := mD_b S hg k
  unfold Sh_leader Sh_round
  rw [c_lead hM, hM.1]
  simp only [wI_0, wI_1, wI_2, wI_3, wI_4, wI_5, wI_6, wI_8, wI_9, wI_10, wI_11, wI_18, wI_20, wI_24, wI_36, wI_60, wI_78, wI_add, wI_sub, wI_mul, wI_neg, z_let_e]
  simp (disch := omega) only [wI_rem, wI_eq, wI_lt, wI_div]
  by_cases h : k % 2 = 1
  · obtain ⟨j, rfl⟩ : ∃ j, k = j + 1 := ⟨k - 1, by omega⟩
    rw [if_pos (by omega), show ((j + 1 : Nat) : Int) - 1 = (j : Int) by omega, c_sideOf hS hM hk (by omega), tnA_e j (by omega), mAt_lo j (by omega)]
  · rw [if_neg (by omega)]
    have e2 : (k : Int) / 2 = ((k / 2 : Nat) : Int) := by omega
    rcases Nat.eq_zero_or_pos k with h0 | h0
    · subst h0
      rw [if_pos (by omega), hC.2.2.1, e2, c_leaderOf hS hC (by omega) hS.2.2.2.1 (by omega) (by omega)]
      rfl
    · obtain ⟨j, rfl⟩ : ∃ j, k = j + 1 + 1 := ⟨k - 2, by omega⟩
      have hb := mAt_l hS gl j
      rw [if_neg (by omega), show ((j + 1 + 1 : Nat) : Int) - 2 = (j : Int) by omega, c_sideOf hS hM hk (by omega), tnA_e j (by omega), e2, c_leaderOf hS hC (by omega) hb (by omega) (by omega)]
      show _ = wI ((if ((mAt S gl (j + 1)).1 + 1) % 2 = 0 then ldr S (((mAt S gl (j + 1)).1 + 1) / 2) (mD (mAt S gl (j + 1)) + sgd (mTurn (mAt S gl (j + 1))) (gl (j + 1))) (mAt S gl (j + 1)).2.2.2 else (mAt S gl (j + 1)).2.2.2 : Nat) : Int)
      rw [mAt_k, if_pos (by omega), ← mD_step, mAt_lo j (by omega)]
      rfl
theorem c_kicker (hS : okS S) (hC : CS S sh) (hg : ∀ i, gl i ≤ 1) (hM : CM S gl k sh) (hk : k ≤ 62) : Sh_kicker sh = wI (tnA S gl k) := by
  have hb := mAt_l hS gl k
  unfold Sh_kicker tnA mTurn
  rw [c_leader hS hC hg hM hk, hM.1, mAt_k]
  simp only [wI_0, wI_1, wI_2, wI_3, wI_4, wI_5, wI_6, wI_8, wI_9, wI_10, wI_11, wI_18, wI_20, wI_24, wI_36, wI_60, wI_78, wI_add, wI_sub, wI_mul, wI_neg]
  simp (disch := omega) only [wI_rem, wI_eq]
  by_cases h : k % 2 = 0
  · rw [if_pos (by omega), if_pos h]
  · rw [if_neg (by omega), if_neg h]
    exact congrArg wI (by omega)
theorem ovr_even (k : Nat) (d : Int) (l : Nat) (hl : l ≤ 1) (h : k % 2 = 0) : ovr S k d l ↔ ovr S k d 0 := by
  unfold ovr
  have e1 : (k + l) / 2 = (k + 0) / 2 := by omega
  have e2 : (k + 1 - l) / 2 = (k + 1 - 0) / 2 := by omega
  rw [e1, e2]
theorem c_isOver (hS : okS S) (hC : CS S sh) (hg : ∀ i, gl i ≤ 1) (hM : CM S gl k sh) (hk : k ≤ 62) : Sh_isOver sh = wI (mOv S (mAt S gl k)) := by
  have hD := mD_b S hg k
  have hb := mAt_l hS gl k
  unfold Sh_isOver mOv
  rw [c_lead hM, hM.1, mAt_k]
  simp only [wI_0, wI_1, wI_2, wI_3, wI_4, wI_5, wI_6, wI_8, wI_9, wI_10, wI_11, wI_18, wI_20, wI_24, wI_36, wI_60, wI_78, wI_add, wI_sub, wI_mul, wI_neg, z_let_e]
  simp (disch := omega) only [wI_rem, wI_eq]
  by_cases h : k % 2 = 1
  · obtain ⟨j, rfl⟩ : ∃ j, k = j + 1 := ⟨k - 1, by omega⟩
    rw [if_pos (by omega), show ((j + 1 : Nat) : Int) - 1 = (j : Int) by omega, c_sideOf hS hM hk (by omega), tnA_e j (by omega), ← mAt_lo j (by omega), c_isOverAt hS hC (by omega) hb (by omega) (by omega)]
  · rw [if_neg (by omega), show wI 0 = wI ((0 : Nat) : Int) from rfl, c_isOverAt hS hC (by omega) (by omega) (by omega) (by omega)]
    exact congrArg wI (o01_c (ovr_even k _ _ hb (by omega)).symm)
theorem c_shooter (hS : okS S) (hC : CS S sh) (hM : CM S gl k sh) (hk : k ≤ 62) : Sh_shooter sh = wI ((k / 2 % sn S : Nat) : Int) := by
  obtain ⟨hn1, hn5, _⟩ := hS
  unfold Sh_shooter Sh_round
  rw [hC.1, hM.1]
  simp only [wI_0, wI_1, wI_2, wI_3, wI_4, wI_5, wI_6, wI_8, wI_9, wI_10, wI_11, wI_18, wI_20, wI_24, wI_36, wI_60, wI_78, wI_add, wI_sub, wI_mul, wI_neg]
  simp (disch := omega) only [wI_le, wI_div, wI_rem]
  rw [if_neg (by omega)]
  exact congrArg wI (by rw [Int.natCast_emod, Int.natCast_ediv]; rfl)
theorem c_chn (hS : okS S) (hC : CS S sh) {t i : Nat} {d : Int} (ht : t ≤ 1) (hi : i < 5) (h1 : -100 ≤ d) (h2 : d ≤ 100) : (if wI (t : Int) = 0 then Sh_chanceOf sh (wI t) (wI i) (wI d) else Sh_chanceOf sh (wI t) (wI i) (-(wI d))) = wI (chn S t i (sgd t d)) := by
  have ht2 : t = 0 ∨ t = 1 := by omega
  rcases ht2 with h | h
  · subst h
    rw [if_pos (by decide), c_chanceOf hS hC (by omega) hi h1 h2]
    rfl
  · subst h
    rw [if_neg (by decide), wI_neg, c_chanceOf hS hC (by omega) hi (by omega) (by omega)]
    rfl
theorem c_ch1 (hS : okS S) : mChance S (mAt S gl k) = chn S (tnA S gl k) (k / 2 % sn S) (sgd (tnA S gl k) (mD (mAt S gl k))) := by
  unfold mChance
  rw [mAt_k]
  rfl
theorem c_ch2 (hS : okS S) (hC : CS S sh) (hg : ∀ i, gl i ≤ 1) (hM : CM S gl k sh) (hk : k ≤ 62) : (if wI (tnA S gl k : Int) = 0 then Sh_chanceOf sh (wI (tnA S gl k)) (wI ((k / 2 % sn S : Nat) : Int)) (wI (mD (mAt S gl k))) else Sh_chanceOf sh (wI (tnA S gl k)) (wI ((k / 2 % sn S : Nat) : Int)) (-(wI (mD (mAt S gl k))))) = wI (chn S (tnA S gl k) (k / 2 % sn S) (sgd (tnA S gl k) (mD (mAt S gl k)))) := c_chn hS hC (tnA_b hS gl k) (Nat.lt_of_lt_of_le (Nat.mod_lt _ hS.1) hS.2.1) (Int.le_trans (by omega) (mD_b S hg k).1) (Int.le_trans (mD_b S hg k).2 (by omega))
theorem c_ch3 : Sh_chance sh = (if Sh_kicker sh = 0 then Sh_chanceOf sh (Sh_kicker sh) (Sh_shooter sh) (Sh_lead sh) else Sh_chanceOf sh (Sh_kicker sh) (Sh_shooter sh) (-(Sh_lead sh))) := by
  unfold Sh_chance
  simp only [z_let_e]
  split <;> rfl
theorem c_chance (hS : okS S) (hC : CS S sh) (hg : ∀ i, gl i ≤ 1) (hM : CM S gl k sh) (hk : k ≤ 62) : Sh_chance sh = wI (mChance S (mAt S gl k)) := by
  rw [c_ch3, c_kicker hS hC hg hM hk, c_lead hM, c_shooter hS hC hM hk, c_ch2 hS hC hg hM hk, c_ch1 hS]
theorem c_put (hS : okS S) (hC : CS S sh) (hg : ∀ i, gl i ≤ 1) (hM : CM S gl k sh) (hk : k ≤ 61) : CS S (Sh_put sh (wI (gl k))) ∧ CM S gl (k + 1) (Sh_put sh (wI (gl k))) := by
  have hb := tnA_b hS gl k
  have hgk := hg k
  have h1 := bs_put (tnA_b hS gl) (k := k) (by omega)
  have h2 := bs_put hg (k := k) (by omega)
  have hG := mAt_g S hg k
  have e1 : (mAt S gl (k + 1)).2.1 = if tnA S gl k = 0 then (mAt S gl k).2.1 + gl k else (mAt S gl k).2.1 := rfl
  have e2 : (mAt S gl (k + 1)).2.2.1 = if tnA S gl k = 0 then (mAt S gl k).2.2.1 else (mAt S gl k).2.2.1 + gl k := rfl
  unfold Sh_put
  simp only [z_let_e, z_jn_e]
  rw [c_kicker hS hC hg hM (by omega)]
  obtain ⟨m1, m2, m3, m4, m5⟩ := hM
  rw [m1, m2, m3, m4, m5, h1]
  simp only [wI_0, wI_1, wI_2, wI_3, wI_4, wI_5, wI_6, wI_8, wI_9, wI_10, wI_11, wI_18, wI_20, wI_24, wI_36, wI_60, wI_78, wI_add, wI_sub, wI_mul, wI_neg]
  simp (disch := omega) only [wI_eq]
  by_cases h : gl k = 0
  · rw [if_pos (by omega)]
    refine ⟨hC, ?_⟩
    rw [h] at h2 e1 e2
    refine ⟨congrArg wI (by omega), ?_, rfl, ?_, ?_⟩
    · show lN (bs gl k) = lN (bs gl k + gl k * 2 ^ k)
      rw [h]; congr 1; omega
    · show wI _ = wI _
      rw [e1]; congr 1; split <;> omega
    · show wI _ = wI _
      rw [e2]; congr 1; split <;> omega
  · rw [if_neg (by omega)]
    have h3 : gl k = 1 := by omega
    refine ⟨hC, congrArg wI (by omega), ?_, rfl, ?_, ?_⟩
    · show lN (bs gl k) ||| ((1 : Int64) <<< _) = _
      rw [← h2, h3]
      rfl
    · show wI _ = wI _
      rw [e1]; congr 1; split <;> omega
    · show wI _ = wI _
      rw [e2]; congr 1; split <;> omega
theorem c_kicksOf (hS : okS S) (hM : CM S gl k sh) (hk : k ≤ 62) {s : Nat} (hs : s ≤ 1) : Sh_kicksOf sh (wI s) = wI (((k + (if s = 0 then 1 - (mAt S gl k).2.2.2 else (mAt S gl k).2.2.2)) / 2 : Nat) : Int) := by
  have hb := mAt_l hS gl k
  unfold Sh_kicksOf
  rw [hM.1]
  simp only [wI_0, wI_1, wI_2, wI_3, wI_4, wI_5, wI_6, wI_8, wI_9, wI_10, wI_11, wI_18, wI_20, wI_24, wI_36, wI_60, wI_78, wI_add, wI_sub, wI_mul, wI_neg]
  simp (disch := omega) only [wI_rem, wI_eq, wI_div]
  simp only [wI_0, wI_1, wI_2, wI_3, wI_4, wI_5, wI_6, wI_8, wI_9, wI_10, wI_11, wI_18, wI_20, wI_24, wI_36, wI_60, wI_78, wI_add, wI_sub, wI_mul, wI_neg]
  by_cases h : k % 2 = 1
  · obtain ⟨j, rfl⟩ : ∃ j, k = j + 1 := ⟨k - 1, by omega⟩
    rw [if_pos (by omega), show ((j + 1 : Nat) : Int) - 1 = (j : Int) by omega, c_sideOf hS hM hk (by omega), tnA_e j (by omega), ← mAt_lo j (by omega)]
    simp (disch := omega) only [wI_eq]
    by_cases h1 : (mAt S gl (j + 1)).2.2.2 = s
    · rw [if_pos (by omega)]
      congr 1
      split <;> omega
    · rw [if_neg (by omega)]
      congr 1
      split <;> omega
  · rw [if_neg (by omega)]
    congr 1
    split <;> omega
end ZCL

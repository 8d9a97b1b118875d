/-! TEXT: sign, end, first strange sign -/
def iT (t : Nat → Nat) (l : Nat) (tx : Tx) (mt : Mt) : Prop := l ≤ 200 ∧ (∀ i, t i < 256) ∧ tx_length tx = wI (l : Nat) ∧ mt_texted mt = wI (l : Nat) ∧ (∀ i, i < l → tx_signs tx i = wI (t i : Nat)) ∧ (∀ i, i < l → mt_text mt i = (wI (t i : Nat)).toInt8.toInt32)
theorem d_char : ∀ b, b < 256 → vp_nar .char (wI (b : Nat)) = wI (b : Nat) := by decide +kernel
theorem d_char2 : ∀ b, b < 256 → vp_nar .char (((wI (b : Nat)).toUInt32 % 65536).toInt32) = wI (b : Nat) := by decide +kernel
theorem d_byte : ∀ b, b < 256 → vp_nar .byte ((wI (b : Nat)).toInt8.toInt32) = (wI (b : Nat)).toInt8.toInt32 := by decide +kernel
theorem d_32 : ∀ b, b < 256 → (((wI (b : Nat)).toInt8.toInt32 = 32) ↔ b = 32) := by decide +kernel
theorem d_120 : ∀ b, b < 256 → (((wI (b : Nat)).toInt8.toInt32 = 120) ↔ b = 120) := by decide +kernel
theorem d_111 : ∀ b, b < 256 → (((wI (b : Nat)).toInt8.toInt32 = 111) ↔ b = 111) := by decide +kernel
theorem c_32 : ∀ b, b < 256 → ((wI (b : Nat) = 32) ↔ b = 32) := by decide +kernel
theorem c_120 : ∀ b, b < 256 → ((wI (b : Nat) = 120) ↔ b = 120) := by decide +kernel
theorem d_ix : ∀ b, b < 256 → Str_indexOf_0f7a4 FF 8 (wI (b : Nat)) = some (wI (if b = 120 then 0 else if b = 111 then 1 else if b = 32 then 2 else -1)) := by decide +kernel
theorem by_c (w : UInt32) : vp_nar .char ((((w.toInt32) &&& 255).toUInt32 % 65536).toInt32) = wI ((w.toNat % 256 : Nat) : Int) := by
  have h : w.toInt32 &&& 255 = wI ((w.toNat % 256 : Nat) : Int) := by
    apply Int32.toBitVec_inj.mp
    apply BitVec.eq_of_toNat_eq
    show (w.toBitVec &&& 255#32).toNat = (BitVec.ofInt 32 ((w.toNat % 256 : Nat) : Int)).toNat
    rw [BitVec.toNat_and, BitVec.toNat_ofInt, show (255#32).toNat = 2 ^ 8 - 1 from rfl, Nat.and_two_pow_sub_one_eq_mod, show w.toBitVec.toNat = w.toNat from rfl]
    omega
  rw [h]
  exact d_char2 _ (by omega)
theorem by_m (w : UInt32) : vp_nar .byte (w.toInt32.toInt8.toInt32) = (wI ((w.toNat % 256 : Nat) : Int)).toInt8.toInt32 := by
  have h : w.toInt32.toInt8 = (wI ((w.toNat % 256 : Nat) : Int)).toInt8 := by
    apply Int8.toBitVec_inj.mp
    rw [Int32.toBitVec_toInt8, Int32.toBitVec_toInt8, BitVec.signExtend_eq_setWidth_of_le _ (by omega), BitVec.signExtend_eq_setWidth_of_le _ (by omega)]
    apply BitVec.eq_of_toNat_eq
    rw [BitVec.toNat_setWidth, BitVec.toNat_setWidth]
    show w.toNat % 2 ^ 8 = (BitVec.ofInt 32 ((w.toNat % 256 : Nat) : Int)).toNat % 2 ^ 8
    rw [BitVec.toNat_ofInt]
    omega
  rw [h]
  exact d_byte _ (by omega)
def sb (a : Int32) (j : Nat) : Nat := (a.toUInt32 >>> UInt32.ofNat (24 - 8 * j)).toNat % 256
theorem sgn_b (a : Int32) (j : Nat) : sb a j < 256 := Nat.mod_lt _ (by omega)
theorem sh_c : ∀ j, j < 4 → ((24 - (8 * wI (j : Nat))).toUInt32 &&& Int32.toUInt32 31) = UInt32.ofNat (24 - 8 * j) := by decide +kernel
theorem sh_m : ∀ j : Nat, j < 4 → ((wI (24 - 8 * (j : Int))).toUInt32 &&& Int32.toUInt32 31) = UInt32.ofNat (24 - 8 * j) := by decide +kernel
theorem c_add4 (a : Int32) (kx : Tx → Option (Int32 × Tx)) (m j l : Nat) (tx : Tx) (hj : j < 4) (hl : tx_length tx = wI (l : Nat)) (h : l + j < 200) : Tx_addFour_L25 a kx (m + 1) (wI (j : Nat)) tx = Tx_addFour_L25 a kx m (wI ((j + 1 : Nat) : Int)) (upd (tx_signs tx) (l + j) (wI (sb a j : Nat)), wI (l : Nat)) := by
  rw [Tx_addFour_L25, if_neg (by rw [wI_4, wI_le (by omega) (by omega) (by omega) (by omega)]; omega), z_let_e, by_c, sh_c j hj, hl, wI_add, z_gd_e (wI_in (by omega) (by omega) (by omega)), wI_1, wI_add, z_let_e, wI_nat (by omega) (by omega), show ((l : Int) + j).toNat = l + j by omega]
  rfl
theorem m_add4 (a : Int32) (m j l : Nat) (mt : Mt) (hj : j < 4) (hl : mt_texted mt = wI ((l + j : Nat) : Int)) (h : l + j < 200) : M_sign_L22 a (m + 1) (wI (24 - 8 * (j : Int))) mt = M_sign_L22 a m (wI (24 - 8 * ((j + 1 : Nat) : Int))) (upd (mt_text mt) (l + j) ((wI (sb a j : Nat)).toInt8.toInt32), wI ((l + (j + 1) : Nat) : Int)) := by
  rw [M_sign_L22, if_neg (by rw [wI_0, wI_lt (by omega) (by omega) (by omega) (by omega)]; omega), z_let_e, by_m, sh_m j hj, hl, z_gd_e (wI_in (by omega) (by omega) (by omega)), wI_1, wI_add, z_let_e, show (-8 : Int32) = wI (-8) by decide, wI_add, z_let_e, wI_ix (by omega), show (24 - 8 * (j : Int) + -8) = 24 - 8 * ((j + 1 : Nat) : Int) by omega, show (((l + j : Nat) : Int) + 1) = ((l + (j + 1) : Nat) : Int) by omega]
  rfl
theorem q_sign {t : Nat → Nat} {l : Nat} {tx : Tx} {mt : Mt} (h : iT t l tx mt) (x : Int32) : ∃ (r : Int32) (tx' : Tx) (mt' : Mt) (t' : Nat → Nat) (l' : Nat), K_sign FF tx x = some (r, tx') ∧ M_sign FF mt x = some (r, 0, mt') ∧ iT t' l' tx' mt' := by
  obtain ⟨h1, h2, h3, h4, h5, h6⟩ := h
  by_cases q : l + 4 ≤ 200
  · refine ⟨wI ((l + 4 : Nat) : Int), (upd (upd (upd (upd (tx_signs tx) (l + 0) (wI (sb x 0 : Nat))) (l + 1) (wI (sb x 1 : Nat))) (l + 2) (wI (sb x 2 : Nat))) (l + 3) (wI (sb x 3 : Nat)), wI ((l + 4 : Nat) : Int)), (upd (upd (upd (upd (mt_text mt) (l + 0) ((wI (sb x 0 : Nat)).toInt8.toInt32)) (l + 1) ((wI (sb x 1 : Nat)).toInt8.toInt32)) (l + 2) ((wI (sb x 2 : Nat)).toInt8.toInt32)) (l + 3) ((wI (sb x 3 : Nat)).toInt8.toInt32), wI ((l + 4 : Nat) : Int)), fun i => if i < l then t i else sb x (i - l), l + 4, ?_, ?_, q, ?_, rfl, rfl, ?_, ?_⟩
    · unfold K_sign Tx_addFour
      rw [if_neg (by rw [h3, wI_0, wI_lt (by omega) (by omega) (by omega) (by omega)]; omega), if_pos (by rw [h3, wI_4, wI_200, wI_add, wI_le (by omega) (by omega) (by omega) (by omega)]; omega), show FF = 1995 + 1 + 1 + 1 + 1 + 1 from rfl, show (0 : Int32) = wI ((0 : Nat) : Int) from wI_0, c_add4 x _ _ 0 l tx (by omega) h3 (by omega), c_add4 x _ _ 1 l _ (by omega) rfl (by omega), c_add4 x _ _ 2 l _ (by omega) rfl (by omega), c_add4 x _ _ 3 l _ (by omega) rfl (by omega), Tx_addFour_L25, if_pos (by decide), z_let_e, z_bd_s, if_neg (show ¬ (1 : Int32) = wI ((0 : Nat) : Int) by decide)]
      show some (wI (l : Nat) + 4, _, wI (l : Nat) + 4) = _
      rw [wI_4, wI_add]
      rfl
    · unfold M_sign
      rw [if_pos (by rw [h4, wI_4, wI_200, wI_add, wI_le (by omega) (by omega) (by omega) (by omega)]; omega), show FF = 1995 + 1 + 1 + 1 + 1 + 1 from rfl, show (24 : Int32) = wI (24 - 8 * ((0 : Nat) : Int)) from wI_24, m_add4 x _ 0 l mt (by omega) h4 (by omega), m_add4 x _ 1 l _ (by omega) rfl (by omega), m_add4 x _ 2 l _ (by omega) rfl (by omega), m_add4 x _ 3 l _ (by omega) rfl (by omega), M_sign_L22, if_pos (by decide)]
    · intro i
      show (if i < l then t i else sb x (i - l)) < 256
      split
      · exact h2 i
      · exact sgn_b _ _
    · intro i hi
      show upd (upd (upd (upd (tx_signs tx) (l + 0) (wI (sb x 0 : Nat))) (l + 1) (wI (sb x 1 : Nat))) (l + 2) (wI (sb x 2 : Nat))) (l + 3) (wI (sb x 3 : Nat)) i = wI ((if i < l then t i else sb x (i - l) : Nat) : Int)
      by_cases e : i < l
      · rw [if_pos e, upd_n (by omega), upd_n (by omega), upd_n (by omega), upd_n (by omega), h5 i e]
      · rw [if_neg e]
        have : i = l ∨ i = l + 1 ∨ i = l + 2 ∨ i = l + 3 := by omega
        rcases this with e | e | e | e
        · rw [e, upd_n (by omega), upd_n (by omega), upd_n (by omega), show l - l = 0 by omega]; exact upd_s _ _ _
        · rw [e, upd_n (by omega), upd_n (by omega), upd_s, show l + 1 - l = 1 by omega]
        · rw [e, upd_n (by omega), upd_s, show l + 2 - l = 2 by omega]
        · rw [e, upd_s, show l + 3 - l = 3 by omega]
    · intro i hi
      show upd (upd (upd (upd (mt_text mt) (l + 0) ((wI (sb x 0 : Nat)).toInt8.toInt32)) (l + 1) ((wI (sb x 1 : Nat)).toInt8.toInt32)) (l + 2) ((wI (sb x 2 : Nat)).toInt8.toInt32)) (l + 3) ((wI (sb x 3 : Nat)).toInt8.toInt32) i = (wI ((if i < l then t i else sb x (i - l) : Nat) : Int)).toInt8.toInt32
      by_cases e : i < l
      · rw [if_pos e, upd_n (by omega), upd_n (by omega), upd_n (by omega), upd_n (by omega), h6 i e]
      · rw [if_neg e]
        have : i = l ∨ i = l + 1 ∨ i = l + 2 ∨ i = l + 3 := by omega
        rcases this with e | e | e | e
        · rw [e, upd_n (by omega), upd_n (by omega), upd_n (by omega), show l - l = 0 by omega]; exact upd_s _ _ _
        · rw [e, upd_n (by omega), upd_n (by omega), upd_s, show l + 1 - l = 1 by omega]
        · rw [e, upd_n (by omega), upd_s, show l + 2 - l = 2 by omega]
        · rw [e, upd_s, show l + 3 - l = 3 by omega]
  · refine ⟨-1, tx, mt, t, l, ?_, ?_, h1, h2, h3, h4, h5, h6⟩
    · unfold K_sign Tx_addFour
      rw [if_neg (by rw [h3, wI_0, wI_lt (by omega) (by omega) (by omega) (by omega)]; omega), if_neg (by rw [h3, wI_4, wI_200, wI_add, wI_le (by omega) (by omega) (by omega) (by omega)]; omega), z_bd_s, if_pos rfl]
    · unfold M_sign
      rw [if_neg (by rw [h4, wI_4, wI_200, wI_add, wI_le (by omega) (by omega) (by omega) (by omega)]; omega)]
theorem q_end {t : Nat → Nat} {l : Nat} {tx : Tx} {mt : Mt} (h : iT t l tx mt) (x : Int32) : ∃ (r : Int32) (tx' : Tx) (mt' : Mt) (l' : Nat), K_end tx x = (r, tx') ∧ M_end mt x = (r, 0, mt') ∧ iT t l' tx' mt' := by
  obtain ⟨h1, h2, h3, h4, h5, h6⟩ := h
  obtain ⟨a, rfl, a1, a2⟩ := wI_of x
  have hz : (M_in (wI a).toInt64 0 ((mt_texted mt).toInt64) = 0) ↔ ¬ (0 ≤ a ∧ a ≤ (l : Int)) := by
    rw [h4, wI_l (a := (l : Int)) (by omega) (by omega)]
    exact in_z (lo := 0) (hi := (l : Int)) a1 a2 (by omega) (by omega) (by omega) (by omega)
  by_cases q : 0 ≤ a ∧ a ≤ (l : Int)
  · obtain ⟨n, rfl⟩ : ∃ n : Nat, a = n := ⟨a.toNat, by omega⟩
    refine ⟨1, (tx_signs tx, wI (n : Nat)), (mt_text mt, wI (n : Nat)), n, ?_, ?_, by omega, h2, rfl, rfl, fun i hi => h5 i (by omega), fun i hi => h6 i (by omega)⟩
    · unfold K_end
      rw [if_neg (by rw [wI_0, wI_lt (by omega) (by omega) (by omega) (by omega)]; omega), if_pos (by rw [h3, wI_le (by omega) (by omega) (by omega) (by omega)]; omega)]
    · unfold M_end
      rw [if_neg (fun h => hz.mp h q)]
  · refine ⟨0, tx, mt, l, ?_, ?_, h1, h2, h3, h4, h5, h6⟩
    · unfold K_end
      by_cases q1 : a < 0
      · rw [if_pos (by rw [wI_0, wI_lt (by omega) (by omega) (by omega) (by omega)]; omega)]
      · rw [if_neg (by rw [wI_0, wI_lt (by omega) (by omega) (by omega) (by omega)]; omega), if_neg (by rw [h3, wI_le (by omega) (by omega) (by omega) (by omega)]; omega)]
    · unfold M_end
      rw [if_pos (hz.mpr q)]
section ZAT
variable {t : Nat → Nat} {l : Nat} {tx : Tx} {mt : Mt}
theorem tx_at (h : iT t l tx mt) {i : Nat} (hi : i < l) : Tx_at tx (wI (i : Nat)) = wI (t i : Nat) := by
  obtain ⟨h1, h2, h3, h4, h5, h6⟩ := h
  unfold Tx_at
  rw [if_neg (by rw [wI_0, wI_lt (by omega) (by omega) (by omega) (by omega)]; omega), if_neg (by rw [h3, wI_le (by omega) (by omega) (by omega) (by omega)]; omega), if_neg (by rw [wI_200, wI_le (by omega) (by omega) (by omega) (by omega)]; omega), wI_ix (by omega), h5 i hi]
  exact d_char _ (h2 i)
theorem st_run (h : iT t l tx mt) : ∀ (d i m m' : Nat), i + d = l → d < m → d < m' → ∃ x : Int, Tx_firstBut_L2 FF tx 8 m (wI (i : Nat)) = some (wI x) ∧ M_strange_L2 mt m' (wI (i : Nat)) = some (wI x) ∧ -1 ≤ x ∧ x < 200 := by
  have hh := h
  obtain ⟨h1, h2, h3, h4, h5, h6⟩ := hh
  intro d
  induction d with
  | zero =>
    intro i m m' hi hm hm'
    obtain ⟨m, rfl⟩ : ∃ k, m = k + 1 := ⟨m - 1, by omega⟩
    obtain ⟨m', rfl⟩ : ∃ k, m' = k + 1 := ⟨m' - 1, by omega⟩
    refine ⟨-1, ?_, ?_, by omega, by omega⟩
    · rw [Tx_firstBut_L2, if_pos (by rw [h3, wI_le (by omega) (by omega) (by omega) (by omega)]; omega), wI_m1]
    · rw [M_strange_L2, if_pos (by rw [h4, wI_le (by omega) (by omega) (by omega) (by omega)]; omega), wI_m1]
  | succ d ih =>
    intro i m m' hi hm hm'
    obtain ⟨m, rfl⟩ : ∃ k, m = k + 1 := ⟨m - 1, by omega⟩
    obtain ⟨m', rfl⟩ : ∃ k, m' = k + 1 := ⟨m' - 1, by omega⟩
    obtain ⟨x, e1, e2, e3, e4⟩ := ih (i + 1) m m' (by omega) (by omega) (by omega)
    have hK : ∀ r : Int, Str_indexOf_0f7a4 FF 8 (wI (t i : Nat)) = some (wI r) → -1 ≤ r → r ≤ 2 → Tx_firstBut_L2 FF tx 8 (m + 1) (wI (i : Nat)) = if 0 ≤ r then Tx_firstBut_L2 FF tx 8 m (wI ((i + 1 : Nat) : Int)) else some (wI (i : Nat)) := fun r hr r1 r2 => by
      rw [Tx_firstBut_L2, if_neg (by rw [h3, wI_le (by omega) (by omega) (by omega) (by omega)]; omega), tx_at h (by omega), hr, z_bd_s]
      by_cases q : 0 ≤ r
      · rw [if_pos q, if_pos (by rw [wI_0, wI_le (by omega) (by omega) (by omega) (by omega)]; omega), wI_1, wI_add, z_let_e]
        rfl
      · rw [if_neg q, if_neg (by rw [wI_0, wI_le (by omega) (by omega) (by omega) (by omega)]; omega)]
    have hix := d_ix _ (h2 i)
    have g : z_in (wI (i : Nat)) 200 = true := wI_in (by omega) (by omega) (by omega)
    have e2' : M_strange_L2 mt m' (wI (i : Nat) + 1) = some (wI x) := by rw [wI_1, wI_add]; exact e2
    by_cases q1 : t i = 120
    · rw [if_pos q1] at hix
      refine ⟨x, ?_, ?_, e3, e4⟩
      · rw [hK 0 hix (by omega) (by omega), if_pos (by omega), e1]
      · rw [M_strange_L2, if_neg (by rw [h4, wI_le (by omega) (by omega) (by omega) (by omega)]; omega), z_gd_e g, wI_ix (by omega), h6 i (by omega), if_pos ((d_120 _ (h2 i)).mpr q1), z_let_e, e2']
    · rw [if_neg q1] at hix
      by_cases q2 : t i = 111
      · rw [if_pos q2] at hix
        refine ⟨x, ?_, ?_, e3, e4⟩
        · rw [hK 1 hix (by omega) (by omega), if_pos (by omega), e1]
        · rw [M_strange_L2, if_neg (by rw [h4, wI_le (by omega) (by omega) (by omega) (by omega)]; omega), z_gd_e g, wI_ix (by omega), h6 i (by omega), if_neg (fun h => q1 ((d_120 _ (h2 i)).mp h)), z_gd_e g, if_pos ((d_111 _ (h2 i)).mpr q2), z_let_e, e2']
      · rw [if_neg q2] at hix
        by_cases q3 : t i = 32
        · rw [if_pos q3] at hix
          refine ⟨x, ?_, ?_, e3, e4⟩
          · rw [hK 2 hix (by omega) (by omega), if_pos (by omega), e1]
          · rw [M_strange_L2, if_neg (by rw [h4, wI_le (by omega) (by omega) (by omega) (by omega)]; omega), z_gd_e g, wI_ix (by omega), h6 i (by omega), if_neg (fun h => q1 ((d_120 _ (h2 i)).mp h)), z_gd_e g, if_neg (fun h => q2 ((d_111 _ (h2 i)).mp h)), z_gd_e g, if_pos ((d_32 _ (h2 i)).mpr q3), z_let_e, e2']
        · rw [if_neg q3] at hix
          refine ⟨i, ?_, ?_, by omega, by omega⟩
          · rw [hK (-1) hix (by omega) (by omega), if_neg (by omega)]
          · rw [M_strange_L2, if_neg (by rw [h4, wI_le (by omega) (by omega) (by omega) (by omega)]; omega), z_gd_e g, wI_ix (by omega), h6 i (by omega), if_neg (fun h => q1 ((d_120 _ (h2 i)).mp h)), z_gd_e g, if_neg (fun h => q2 ((d_111 _ (h2 i)).mp h)), z_gd_e g, if_neg (fun h => q3 ((d_32 _ (h2 i)).mp h))]
end ZAT

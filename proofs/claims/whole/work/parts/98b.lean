/-! TOKENS and WORDS, digits, marks -/
theorem d_wl : ∀ i, i < 7 → i = 3 ∨ (1 ≤ strLen.getD i 0 ∧ 97 ≤ cb i 0 ∧ cb i 0 ≤ 122) := by decide +kernel
theorem d_gd : ∀ a, a < 10 → ∀ b, b < 256 → ((wI (b : Nat) - 48 < 0) ↔ b < 48) ∧ ((wI (a : Nat) < wI (b : Nat) - 48) ↔ 48 + a < b) ∧ (b < 48 ∨ wI (b : Nat) - 48 = wI ((b - 48 : Nat) : Int)) := by decide +kernel
theorem d_gm : ∀ a, a < 10 → ∀ b, b < 58 → b < 48 ∨ (((wI (b : Nat)).toInt8.toInt32 - 48 ≤ wI (a : Nat) ↔ b ≤ 48 + a) ∧ (wI (b : Nat)).toInt8.toInt32 - 48 = wI ((b - 48 : Nat) : Int)) := by decide +kernel
abbrev DG (t : Nat → Nat) (l a s : Nat) : Prop := s < l ∧ 48 ≤ t s ∧ t s ≤ 48 + a
section ZTK
variable {t : Nat → Nat} {l : Nat} {tx : Tx} {mt : Mt}
theorem c_tok (hT : iT t l tx mt) {te : Te} {s i0 : Nat} (hi0 : i0 < 7) (hi3 : i0 ≠ 3) (hs : s ≤ l) (h1 : te_start te = wI (s : Nat)) (h2 : te_stop te = wI (en t l s : Nat)) : Te_isToken FF te tx i0 = some (wI (o01 (Wd t l i0 s))) := by
  have hl := hT.1
  have h6 := d_len6 i0 (by omega)
  have hw : 1 ≤ strLen.getD i0 0 ∧ 97 ≤ cb i0 0 ∧ cb i0 0 ≤ 122 := by
    rcases d_wl i0 hi0 with h | h
    · exact absurd h hi3
    · exact h
  have he := en_b t hs
  have hr := run_b t hs
  unfold Te_isToken
  rw [h1, h2, wI_sub, d_len i0 (by omega)]
  by_cases q : en t l s = s + strLen.getD i0 0
  · rw [if_pos (by rw [wI_eq (by omega) (by omega) (by omega) (by omega)]; omega), show (0 : Int32) = wI ((0 : Nat) : Int) from wI_0, c_mt hT (by omega) h1 (by omega) (strLen.getD i0 0) 0 FF (by omega) (by show strLen.getD i0 0 < 2000; omega)]
    rw [o01_c (q := Wd t l i0 s) ⟨fun h => ?_, fun h x _ hx => h.2 x hx⟩]
    refine ⟨?_, fun j hj => h j (Nat.zero_le _) hj⟩
    have ht := h 0 (Nat.zero_le _) (by omega)
    rw [Nat.add_zero] at ht
    have hne : ¬ run t l s = s := fun h' => (run_s t (by omega)).mp h' (by omega)
    unfold en at q
    rw [if_neg hne] at q
    exact q
  · rw [if_neg (by rw [wI_eq (by omega) (by omega) (by omega) (by omega)]; omega), o01_f (fun h => q (by
      unfold en
      rw [if_neg (by have := h.1; omega)]
      exact h.1))]
    rfl
theorem c_tok1 (hT : iT t l tx mt) {te : Te} {s i0 : Nat} (hi0 : i0 = 3 ∨ i0 = 7) (hs : s ≤ l) (h1 : te_start te = wI (s : Nat)) (h2 : te_stop te = wI (en t l s : Nat)) : Te_isToken FF te tx i0 = some (wI (o01 (s < l ∧ t s = cb i0 0))) := by
  have hl := hT.1
  have hlen : strLen.getD i0 0 = 1 := by rcases hi0 with h | h <;> rw [h] <;> rfl
  have hcb : cb i0 0 < 97 := by rcases hi0 with h | h <;> rw [h] <;> decide
  have he := en_b t hs
  unfold Te_isToken
  rw [h1, h2, wI_sub, d_len i0 (by omega), hlen]
  by_cases q : en t l s = s + 1
  · rw [if_pos (by rw [wI_eq (by omega) (by omega) (by omega) (by omega)]; omega), show (0 : Int32) = wI ((0 : Nat) : Int) from wI_0, c_mt hT (by omega) h1 (by omega) 1 0 FF (by omega) (by decide)]
    rw [o01_c (q := s < l ∧ t s = cb i0 0) ⟨fun h => ⟨by omega, h 0 (Nat.zero_le _) (by omega)⟩, fun h x _ hx => by
      have : x = 0 := by omega
      rw [this]
      exact h.2⟩]
  · rw [if_neg (by rw [wI_eq (by omega) (by omega) (by omega) (by omega)]; omega), o01_f (fun h => q (en_1 t h.1 (by omega)))]
    rfl
theorem m_isW (hT : iT t l tx mt) {r s i0 : Nat} (hi0 : i0 < 7) (hr : r ≤ l) (hs : skp t l r = s) (fl : Int32) (df : Nat → Int32) (hd : Int32) (tl : Nat → Int32) : M_isWord FF mt (wI (r : Nat), fl, 1, df, hd, tl) i0 = some (wI (o01 (Wd t l i0 s)), (wI (s : Nat), fl, 1, df, hd, tl)) := by
  have hl := hT.1
  have h6 := d_len6 i0 (by omega)
  have hb := skp_b t hr
  rw [hs] at hb
  have hrr := run_b t hb.2.1
  unfold M_isWord
  rw [z_jn_e, z_jn_e, if_neg (show ¬ (1 : Int32) = 0 by decide), m_word hT hr, z_bd_s, hs, d_len i0 (by omega)]
  by_cases q : run t l s = s + strLen.getD i0 0
  · rw [if_pos (by rw [wI_eq (by omega) (by omega) (by omega) (by omega)]; omega)]
    show M_isWord_L26 mt i0 (wI (s : Nat), fl, 1, df, hd, tl) FF 1 (wI ((0 : Nat) : Int)) = _
    rw [m_mt hT (s := s) (by omega) rfl (by omega) (strLen.getD i0 0) 0 FF (by omega) (by show strLen.getD i0 0 < 2000; omega)]
    rw [o01_c (q := Wd t l i0 s) ⟨fun h => ⟨q, fun j hj => h j (Nat.zero_le _) hj⟩, fun h x _ hx => h.2 x hx⟩]
  · rw [if_neg (by rw [wI_eq (by omega) (by omega) (by omega) (by omega)]; omega), o01_f (fun h => q h.1)]
    show M_isWord_L26 mt i0 (wI (s : Nat), fl, 1, df, hd, tl) (1999 + 1) 0 0 = _
    rw [M_isWord_L26]
    split
    · rfl
    · rw [if_pos rfl]; rfl
theorem m_takes (hT : iT t l tx mt) {r s c : Nat} (hc : 1 ≤ c) (hc2 : c < 128) (hr : r ≤ l) (hs : skp t l r = s) (fl : Int32) (df : Nat → Int32) (hd : Int32) (tl : Nat → Int32) : M_takes FF mt (wI (r : Nat), fl, 1, df, hd, tl) (wI (c : Nat)) = if s < l ∧ t s = c then some (1, (wI ((s + 1 : Nat) : Int), fl, 1, df, hd, tl)) else some (0, (wI (s : Nat), fl, 1, df, hd, tl)) := by
  have hl := hT.1
  have hb := skp_b t hr
  rw [hs] at hb
  unfold M_takes
  rw [z_jn_e, z_jn_e, if_neg (show ¬ (1 : Int32) = 0 by decide), m_next hT hr, z_bd_s, hs, hT.2.2.2.1]
  have e0 : wI (s : Nat) + 0 = wI (s : Nat) := by rw [wI_0, wI_add, Int.add_zero]
  by_cases q : s < l
  · rw [if_pos q]
    by_cases q2 : t s = c
    · rw [if_pos ((d_eq _ (hT.2.1 s) _ hc2).mpr q2), if_neg (show ¬ wI (l : Nat) ≤ wI (s : Nat) by rw [wI_le (by omega) (by omega) (by omega) (by omega)]; omega), if_pos ⟨q, q2⟩]
      dsimp only
      rw [if_neg (show ¬ (1 : Int32) = 0 by decide), z_let_e, z_let_e, z_gd_e (by decide), wI_1, wI_add]
      rfl
    · rw [if_neg (fun h => q2 ((d_eq _ (hT.2.1 s) _ hc2).mp h)), if_neg (show ¬ (s < l ∧ t s = c) from fun h => q2 h.2)]
      dsimp only
      rw [if_pos rfl, z_let_e, z_let_e, z_gd_e (by decide), e0]
  · rw [if_neg q, if_neg (show ¬ (0 : Int32) = wI (c : Nat) by rw [wI_0, wI_eq (by omega) (by omega) (by omega) (by omega)]; omega), if_neg (show ¬ (s < l ∧ t s = c) from fun h => q h.1)]
    dsimp only
    rw [if_pos rfl, z_let_e, z_let_e, z_gd_e (by decide), e0]
theorem m_takes0 (r fl : Int32) (df : Nat → Int32) (hd : Int32) (tl : Nat → Int32) (c : Int32) : M_takes FF mt (r, fl, 0, df, hd, tl) c = some (0, (r + 0, fl, 0, df, hd, tl)) := by
  unfold M_takes
  rw [z_jn_e, z_jn_e, if_pos rfl]
  dsimp only
  rw [if_pos rfl, z_let_e, z_let_e, z_gd_e (by decide)]
theorem m_isDig (hT : iT t l tx mt) {r s : Nat} (hr : r ≤ l) (hs : skp t l r = s) (fl : Int32) (df : Nat → Int32) (hd : Int32) (tl : Nat → Int32) : M_isDigitNext FF mt (wI (r : Nat), fl, 1, df, hd, tl) = some (if DG t l 9 s then 1 else 0, (wI (s : Nat), fl, 1, df, hd, tl)) := by
  have hl := hT.1
  have hb := skp_b t hr
  rw [hs] at hb
  unfold M_isDigitNext
  rw [if_neg (show ¬ (1 : Int32) = 0 by decide), m_next hT hr, z_bd_s, hs, hT.2.2.2.1]
  by_cases q : s < l
  · rw [if_pos q]
    by_cases q2 : 48 ≤ t s ∧ t s ≤ 57
    · rw [if_neg (fun h => (d_dig _ (hT.2.1 s)).mp h q2), if_neg (show ¬ wI (l : Nat) ≤ wI (s : Nat) by rw [wI_le (by omega) (by omega) (by omega) (by omega)]; omega), if_pos (show DG t l 9 s from ⟨q, q2.1, by omega⟩)]
    · rw [if_pos ((d_dig _ (hT.2.1 s)).mpr q2), if_neg (show ¬ DG t l 9 s from fun h => q2 ⟨h.2.1, by have := h.2.2; omega⟩)]
  · rw [if_neg q, if_pos (show M_in (0 : Int32).toInt64 48 57 = 0 by decide +kernel), if_neg (show ¬ DG t l 9 s from fun h => q h.1)]
theorem m_isDig0 (r fl : Int32) (df : Nat → Int32) (hd : Int32) (tl : Nat → Int32) : M_isDigitNext FF mt (r, fl, 0, df, hd, tl) = some (0, (r, fl, 0, df, hd, tl)) := by
  unfold M_isDigitNext
  rw [if_pos rfl]
theorem m_wr1 (r fl : Int32) (df : Nat → Int32) (hd : Int32) (tl : Nat → Int32) (x : Int32) : M_wrong (r, fl, 1, df, hd, tl) x = (r, x, 0, df, hd, tl) := by
  unfold M_wrong
  rw [if_neg (show ¬ (1 : Int32) = 0 by decide), z_let_e]
theorem m_wr0 (r fl : Int32) (df : Nat → Int32) (hd : Int32) (tl : Nat → Int32) (x : Int32) : M_wrong (r, fl, 0, df, hd, tl) x = (r, fl, 0, df, hd, tl) := by
  unfold M_wrong
  rw [if_pos rfl, z_let_e]
theorem m_dig (hT : iT t l tx mt) {r s a : Nat} (ha : a < 10) (hr : r ≤ l) (hs : skp t l r = s) (fl : Int32) (df : Nat → Int32) (hd : Int32) (tl : Nat → Int32) : M_digit FF mt (wI (r : Nat), fl, 1, df, hd, tl) (wI (a : Nat)) = if DG t l a s then some (wI ((t s - 48 : Nat) : Int), (wI ((s + 1 : Nat) : Int), fl, 1, df, hd, tl)) else some (0, (wI (s : Nat), wI (s : Nat), 0, df, hd, tl)) := by
  have hl := hT.1
  have hb := skp_b t hr
  rw [hs] at hb
  unfold M_digit
  rw [m_isDig hT hr hs, z_bd_s, z_jn_e]
  by_cases q : DG t l 9 s
  · have hq := q
    obtain ⟨q1, q2, q3⟩ := hq
    rw [if_pos q, if_neg (show ¬ (1 : Int32) = 0 by decide)]
    dsimp only [ps_reading]
    obtain ⟨g1, g2⟩ : ((wI (t s : Nat)).toInt8.toInt32 - 48 ≤ wI (a : Nat) ↔ t s ≤ 48 + a) ∧ (wI (t s : Nat)).toInt8.toInt32 - 48 = wI ((t s - 48 : Nat) : Int) := by
      rcases d_gm a ha (t s) (by omega) with h | h
      · omega
      · exact h
    rw [z_gd_e (wI_in (by omega) (by omega) (by omega)), wI_ix (by omega), hT.2.2.2.2.2 s q1]
    by_cases q4 : t s ≤ 48 + a
    · rw [if_pos (g1.mpr q4), if_pos (show DG t l a s from ⟨q1, q2, q4⟩), z_let_e, wI_1, wI_add, wI_sub, show ((s : Int) + 1 - 1) = (s : Nat) by omega, z_gd_e (wI_in (by omega) (by omega) (by omega)), wI_ix (by omega), hT.2.2.2.2.2 s q1, g2]
      rfl
    · rw [if_neg (fun h => q4 (g1.mp h)), if_neg (show ¬ DG t l a s from fun h => q4 h.2.2), m_wr1, z_let_e]
  · rw [if_neg q, if_pos rfl, if_neg (show ¬ DG t l a s from fun h => q ⟨h.1, h.2.1, by have := h.2.2; omega⟩)]
    dsimp only [ps_reading]
    rw [m_wr1, z_let_e]
theorem m_dig0 (r fl : Int32) (df : Nat → Int32) (hd : Int32) (tl : Nat → Int32) (a : Int32) : M_digit FF mt (r, fl, 0, df, hd, tl) a = some (0, (r, fl, 0, df, hd, tl)) := by
  unfold M_digit
  rw [m_isDig0, z_bd_s, z_jn_e, if_pos rfl]
  dsimp only [ps_reading]
  rw [m_wr0, z_let_e]
theorem c_dig (hT : iT t l tx mt) {te : Te} {s a : Nat} (ha : a < 10) (hs : s ≤ l) (h1 : te_start te = wI (s : Nat)) (h2 : te_stop te = wI (en t l s : Nat)) : Te_digitOfToken te tx (wI (a : Nat)) = if DG t l a s then wI ((t s - 48 : Nat) : Int) else -1 := by
  have hl := hT.1
  have he := en_b t hs
  unfold Te_digitOfToken
  rw [h1, h2, wI_sub]
  by_cases q : en t l s = s + 1
  · rw [if_pos (by rw [wI_1, wI_eq (by omega) (by omega) (by omega) (by omega)]; omega), tx_at hT (by omega), z_let_e]
    obtain ⟨g1, g2, g3⟩ := d_gd a ha (t s) (hT.2.1 s)
    by_cases q1 : t s < 48
    · rw [if_pos (g1.mpr q1), if_neg (show ¬ DG t l a s from fun h => by have := h.2.1; omega)]
    · rw [if_neg (fun h => q1 (g1.mp h))]
      by_cases q2 : 48 + a < t s
      · rw [if_pos (g2.mpr q2), if_neg (show ¬ DG t l a s from fun h => by have := h.2.2; omega)]
      · rw [if_neg (fun h => q2 (g2.mp h)), if_pos (show DG t l a s from ⟨by omega, by omega, by omega⟩)]
        rcases g3 with h | h
        · omega
        · exact h
  · rw [if_neg (by rw [wI_1, wI_eq (by omega) (by omega) (by omega) (by omega)]; omega), z_let_e, if_pos (by decide), if_neg (show ¬ DG t l a s from fun h => q (en_1 t h.1 (by have := h.2; omega)))]
theorem dg_en {a s : Nat} (ha : a < 10) (h : DG t l a s) : en t l s = s + 1 := en_1 t h.1 (by have := h.2; omega)
theorem wd_en {i0 s : Nat} (h : Wd t l i0 s) (hi0 : i0 < 7) (hi3 : i0 ≠ 3) : en t l s = s + strLen.getD i0 0 := by
  have hw : 1 ≤ strLen.getD i0 0 ∧ 97 ≤ cb i0 0 ∧ cb i0 0 ≤ 122 := by
    rcases d_wl i0 hi0 with h | h
    · exact absurd h hi3
    · exact h
  have := h.1
  unfold en
  rw [if_neg (by omega)]
  exact h.1
end ZTK
def pm8 (m : Nat) : Nat := (m % 2) + 2 * (m / 2 % 2) + 4 * (m / 16 % 2) + 8 * (m / 32 % 2) + 16 * (m / 64 % 2) + 32 * (m / 128 % 2) + 64 * (m / 4 % 2) + 128 * (m / 8 % 2)
def rb (i : Nat) : Nat := [0, 1, 6, 7, 2, 3, 4, 5].getD i 0
def hdv (m h : Nat) : Int32 := wI ((pm8 m + 256 * h : Nat) : Int)
theorem d_m1 : ∀ m, m < 256 → ∀ i, i < 8 → (((wI (m : Nat) &&& wI ((2 ^ i : Nat) : Int)) = 0) ↔ m / 2 ^ i % 2 = 0) := by decide +kernel
theorem d_m2 : ∀ m, m < 256 → ∀ i, i < 8 → (m / 2 ^ i % 2 = 1 ∨ (wI (m : Nat) ||| wI ((2 ^ i : Nat) : Int)) = wI ((m + 2 ^ i : Nat) : Int)) := by decide +kernel
theorem d_m3 : ∀ m, m < 256 → ∀ i, i < 8 → (m / 2 ^ i % 2 = 1 ∨ m + 2 ^ i < 256) := by decide +kernel
theorem d_h1 : ∀ m, m < 256 → ∀ i, i < 8 → ∀ h, h < 3 → ((((hdv m h >>> (wI (rb i : Nat) &&& 31)) &&& 1) = 1) ↔ m / 2 ^ i % 2 = 1) := by decide +kernel
theorem d_h2 : ∀ m, m < 256 → ∀ i, i < 8 → ∀ h, h < 3 → (m / 2 ^ i % 2 = 1 ∨ (hdv m h ||| (1 <<< (wI (rb i : Nat) &&& 31))) = hdv (m + 2 ^ i) h) := by decide +kernel
theorem d_h3 : ∀ m, m < 256 → ∀ s, s < 2 → ¬ (((hdv m 0 >>> ((8 + wI (s : Nat)) &&& 31)) &&& 1) = 1) := by decide +kernel
theorem d_h4 : ∀ m, m < 256 → ∀ s, s < 2 → (hdv m 0 ||| (1 <<< ((8 + wI (s : Nat)) &&& 31))) = hdv m (s + 1) := by decide +kernel

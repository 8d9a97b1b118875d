/-! LEXER: tokens of the class, reading of the reference -/
def kso (t : Nat → Nat) : Nat → Nat → Nat
  | 0, i => i
  | d + 1, i => if t i = 32 then kso t d (i + 1) else i
def lr (t : Nat → Nat) : Nat → Nat → Nat
  | 0, i => i
  | d + 1, i => if 97 ≤ t i ∧ t i ≤ 122 then lr t d (i + 1) else i
def skp (t : Nat → Nat) (l i : Nat) : Nat := kso t (l - i) i
def run (t : Nat → Nat) (l i : Nat) : Nat := lr t (l - i) i
def en (t : Nat → Nat) (l s : Nat) : Nat := if run t l s = s then (if l ≤ s then s else s + 1) else run t l s
theorem kso_b (t : Nat → Nat) : ∀ d i, i ≤ kso t d i ∧ kso t d i ≤ i + d ∧ (kso t d i < i + d → t (kso t d i) ≠ 32) := by
  intro d
  induction d with
  | zero => intro i; exact ⟨Nat.le_refl _, Nat.le_refl _, fun h => absurd h (Nat.lt_irrefl _)⟩
  | succ d ih =>
    intro i
    rw [kso]
    by_cases h : t i = 32
    · rw [if_pos h]
      have := ih (i + 1)
      exact ⟨by omega, by omega, fun h' => this.2.2 (by omega)⟩
    · rw [if_neg h]
      exact ⟨Nat.le_refl _, by omega, fun _ => h⟩
theorem lr_b (t : Nat → Nat) : ∀ d i, i ≤ lr t d i ∧ lr t d i ≤ i + d := by
  intro d
  induction d with
  | zero => intro i; exact ⟨Nat.le_refl _, Nat.le_refl _⟩
  | succ d ih =>
    intro i
    rw [lr]
    by_cases h : 97 ≤ t i ∧ t i ≤ 122
    · rw [if_pos h]
      have := ih (i + 1)
      omega
    · rw [if_neg h]
      omega
theorem skp_b (t : Nat → Nat) {l i : Nat} (h : i ≤ l) : i ≤ skp t l i ∧ skp t l i ≤ l ∧ (skp t l i < l → t (skp t l i) ≠ 32) := by
  have := kso_b t (l - i) i
  unfold skp
  exact ⟨this.1, by omega, fun h' => this.2.2 (by omega)⟩
theorem skp_i (t : Nat → Nat) {l s : Nat} (h : s ≤ l) (h2 : s < l → t s ≠ 32) : skp t l s = s := by
  unfold skp
  cases hd : l - s with
  | zero => rfl
  | succ d => rw [kso, if_neg (h2 (by omega))]
theorem run_b (t : Nat → Nat) {l i : Nat} (h : i ≤ l) : i ≤ run t l i ∧ run t l i ≤ l := by
  have := lr_b t (l - i) i
  unfold run
  omega
theorem run_s (t : Nat → Nat) {l s : Nat} (h : s < l) : (run t l s = s) ↔ ¬ (97 ≤ t s ∧ t s ≤ 122) := by
  unfold run
  obtain ⟨d, hd⟩ : ∃ d, l - s = d + 1 := ⟨l - s - 1, by omega⟩
  rw [hd, lr]
  by_cases q : 97 ≤ t s ∧ t s ≤ 122
  · rw [if_pos q]
    have := lr_b t d (s + 1)
    exact ⟨fun h => by omega, fun h => absurd q h⟩
  · rw [if_neg q]
    exact ⟨fun _ => q, fun _ => rfl⟩
theorem en_b (t : Nat → Nat) {l s : Nat} (h : s ≤ l) : s ≤ en t l s ∧ en t l s ≤ l ∧ (s < l → s < en t l s) := by
  have := run_b t h
  unfold en
  split
  · split <;> omega
  · omega
theorem en_1 (t : Nat → Nat) {l s : Nat} (h : s < l) (h2 : ¬ (97 ≤ t s ∧ t s ≤ 122)) : en t l s = s + 1 := by
  unfold en
  rw [if_pos ((run_s t h).mpr h2), if_neg (by omega)]
theorem d_let : ∀ b, b < 256 → ((Te_isLetter (wI (b : Nat)) = 0) ↔ ¬ (97 ≤ b ∧ b ≤ 122)) := by decide +kernel
theorem d_lem : ∀ b, b < 256 → ((M_in ((wI (b : Nat)).toInt8.toInt32.toInt64) 97 122 = 0) ↔ ¬ (97 ≤ b ∧ b ≤ 122)) := by decide +kernel
theorem d_dig : ∀ b, b < 256 → ((M_in ((wI (b : Nat)).toInt8.toInt32.toInt64) 48 57 = 0) ↔ ¬ (48 ≤ b ∧ b ≤ 57)) := by decide +kernel
def cb (i0 j : Nat) : Nat := ((strByt.getD i0 []).getD j 0).toNatClampNeg
theorem d_len : ∀ i, i < 8 → Str_length_8abf5 i = wI ((strLen.getD i 0 : Nat) : Int) := by decide +kernel
theorem d_len6 : ∀ i, i < 8 → strLen.getD i 0 ≤ 6 := by decide +kernel
theorem d_chr : ∀ i, i < 8 → ∀ j, j < 6 → (strLen.getD i 0 ≤ j ∨ Str_charAt_5068e i (wI (j : Nat)) = some (wI (cb i j : Nat))) := by decide +kernel
theorem d_cb : ∀ i, i < 8 → ∀ j, j < 6 → cb i j < 128 := by decide +kernel
theorem d_eq : ∀ b, b < 256 → ∀ c, c < 128 → (((wI (b : Nat)).toInt8.toInt32 = wI (c : Nat)) ↔ b = c) := by decide +kernel
section ZLX
variable {t : Nat → Nat} {l : Nat} {tx : Tx} {mt : Mt}
theorem a_sp (hT : iT t l tx mt) (kx : Te → Option Te) : ∀ d i n (cn : Nat → Int32) (sp tl : Int32), i + d = l → d < n → Te_advance_L8 tx kx n (cn, wI (i : Nat), sp, tl) = kx (cn, wI (kso t d i : Nat), sp, tl) := by
  have hl := hT.1
  intro d
  induction d with
  | zero =>
    intro i n cn sp tl hi hn
    obtain ⟨n, rfl⟩ : ∃ k, n = k + 1 := ⟨n - 1, by omega⟩
    rw [Te_advance_L8, if_pos (by rw [hT.2.2.1]; show wI (l : Nat) ≤ wI (i : Nat); rw [wI_le (by omega) (by omega) (by omega) (by omega)]; omega)]
    rfl
  | succ d ih =>
    intro i n cn sp tl hi hn
    obtain ⟨n, rfl⟩ : ∃ k, n = k + 1 := ⟨n - 1, by omega⟩
    rw [Te_advance_L8, if_neg (by rw [hT.2.2.1]; show ¬ wI (l : Nat) ≤ wI (i : Nat); rw [wI_le (by omega) (by omega) (by omega) (by omega)]; omega), kso]
    have ha : Tx_at tx (te_start (cn, wI (i : Nat), sp, tl)) = wI (t i : Nat) := tx_at hT (by omega)
    rw [ha]
    by_cases q : t i = 32
    · rw [if_pos ((c_32 _ (hT.2.1 i)).mpr q), if_pos q, z_let_e]
      show Te_advance_L8 tx kx n (cn, wI (i : Nat) + 1, sp, tl) = _
      rw [wI_1, wI_add]
      exact ih (i + 1) n cn sp tl (by omega) (by omega)
    · rw [if_neg (fun h => q ((c_32 _ (hT.2.1 i)).mp h)), if_neg q]
theorem a_lt (hT : iT t l tx mt) (kx : Te → Option Te) : ∀ d i n (cn : Nat → Int32) (st tl : Int32), i + d = l → d < n → Te_advance_L59 tx kx n (cn, st, wI (i : Nat), tl) = kx (cn, st, wI (lr t d i : Nat), tl) := by
  have hl := hT.1
  intro d
  induction d with
  | zero =>
    intro i n cn sp tl hi hn
    obtain ⟨n, rfl⟩ : ∃ k, n = k + 1 := ⟨n - 1, by omega⟩
    rw [Te_advance_L59, if_pos (by rw [hT.2.2.1]; show wI (l : Nat) ≤ wI (i : Nat); rw [wI_le (by omega) (by omega) (by omega) (by omega)]; omega)]
    rfl
  | succ d ih =>
    intro i n cn sp tl hi hn
    obtain ⟨n, rfl⟩ : ∃ k, n = k + 1 := ⟨n - 1, by omega⟩
    rw [Te_advance_L59, if_neg (by rw [hT.2.2.1]; show ¬ wI (l : Nat) ≤ wI (i : Nat); rw [wI_le (by omega) (by omega) (by omega) (by omega)]; omega), lr]
    have ha : Tx_at tx (te_stop (cn, sp, wI (i : Nat), tl)) = wI (t i : Nat) := tx_at hT (by omega)
    rw [ha]
    by_cases q : 97 ≤ t i ∧ t i ≤ 122
    · rw [if_neg (fun h => (d_let _ (hT.2.1 i)).mp h q), if_pos q, z_let_e]
      show Te_advance_L59 tx kx n (cn, sp, wI (i : Nat) + 1, tl) = _
      rw [wI_1, wI_add]
      exact ih (i + 1) n cn sp tl (by omega) (by omega)
    · rw [if_pos ((d_let _ (hT.2.1 i)).mpr q), if_neg q]
theorem c_adv (hT : iT t l tx mt) {te : Te} {e : Nat} (he : e ≤ l) (h : te_stop te = wI (e : Nat)) : Te_advance FF te tx = some (te_counts te, wI (skp t l e : Nat), wI (en t l (skp t l e) : Nat), te_told te) := by
  have hl := hT.1
  have hb := skp_b t he
  have hr := run_b t hb.2.1
  unfold Te_advance
  rw [z_let_e, h, a_sp hT _ (l - e) e FF _ _ _ (by omega) (by show l - e < 2000; omega), z_let_e]
  show Te_advance_L59 tx _ FF (te_counts te, wI (skp t l e : Nat), wI (skp t l e : Nat), te_told te) = _
  rw [a_lt hT _ (l - skp t l e) (skp t l e) FF _ _ _ (by omega) (by show l - skp t l e < 2000; omega)]
  obtain ⟨s, hs⟩ : ∃ s, s = skp t l e := ⟨_, rfl⟩
  rw [← hs] at hb hr ⊢
  have hR : lr t (l - s) s = run t l s := rfl
  rw [hR]
  unfold en
  by_cases q : run t l s = s
  · rw [if_pos (show wI (run t l s : Nat) = wI (s : Nat) by rw [q]), q, if_pos rfl, hT.2.2.1]
    by_cases q2 : l ≤ s
    · rw [if_pos (show wI (l : Nat) ≤ wI (s : Nat) by rw [wI_le (by omega) (by omega) (by omega) (by omega)]; omega), if_pos q2]
    · rw [if_neg (show ¬ wI (l : Nat) ≤ wI (s : Nat) by rw [wI_le (by omega) (by omega) (by omega) (by omega)]; omega), if_neg q2, z_let_e]
      show some (te_counts te, wI (s : Nat), wI (s : Nat) + 1, te_told te) = _
      rw [wI_1, wI_add]
      rfl
  · rw [if_neg (show ¬ wI (run t l s : Nat) = wI (s : Nat) by rw [wI_eq (by omega) (by omega) (by omega) (by omega)]; omega), if_neg q]
theorem m_nx (hT : iT t l tx mt) (kx : Ps → Option (Int32 × Ps)) : ∀ d i n (fl g : Int32) (df : Nat → Int32) (hd : Int32) (tl : Nat → Int32), i + d = l → d < n → M_next_L0 mt kx n (wI (i : Nat), fl, g, df, hd, tl) = kx (wI (kso t d i : Nat), fl, g, df, hd, tl) := by
  have hl := hT.1
  intro d
  induction d with
  | zero =>
    intro i n fl g df hd tl hi hn
    obtain ⟨n, rfl⟩ : ∃ k, n = k + 1 := ⟨n - 1, by omega⟩
    rw [M_next_L0, if_pos (by rw [hT.2.2.2.1]; show wI (l : Nat) ≤ wI (i : Nat); rw [wI_le (by omega) (by omega) (by omega) (by omega)]; omega)]
    rfl
  | succ d ih =>
    intro i n fl g df hd tl hi hn
    obtain ⟨n, rfl⟩ : ∃ k, n = k + 1 := ⟨n - 1, by omega⟩
    rw [M_next_L0, if_neg (by rw [hT.2.2.2.1]; show ¬ wI (l : Nat) ≤ wI (i : Nat); rw [wI_le (by omega) (by omega) (by omega) (by omega)]; omega), kso]
    dsimp only [ps_reading]
    rw [z_gd_e (wI_in (by omega) (by omega) (by omega)), wI_ix (by omega), hT.2.2.2.2.2 i (by omega)]
    by_cases q : t i = 32
    · rw [if_pos ((d_32 _ (hT.2.1 i)).mpr q), if_pos q, z_let_e, wI_1, wI_add]
      exact ih (i + 1) n fl g df hd tl (by omega) (by omega)
    · rw [if_neg (fun h => q ((d_32 _ (hT.2.1 i)).mp h)), if_neg q]
theorem m_next (hT : iT t l tx mt) {r : Nat} (hr : r ≤ l) (fl g : Int32) (df : Nat → Int32) (hd : Int32) (tl : Nat → Int32) : M_next FF mt (wI (r : Nat), fl, g, df, hd, tl) = some (if skp t l r < l then (wI (t (skp t l r) : Nat)).toInt8.toInt32 else 0, (wI (skp t l r : Nat), fl, g, df, hd, tl)) := by
  have hl := hT.1
  have hb := skp_b t hr
  unfold M_next
  rw [m_nx hT _ (l - r) r FF _ _ _ _ _ (by omega) (by show l - r < 2000; omega)]
  obtain ⟨s, hs⟩ : ∃ s, s = skp t l r := ⟨_, rfl⟩
  rw [show kso t (l - r) r = s from hs.symm, ← hs]
  rw [← hs] at hb
  dsimp only [ps_reading]
  rw [hT.2.2.2.1]
  by_cases q : s < l
  · rw [if_neg (by rw [wI_le (by omega) (by omega) (by omega) (by omega)]; omega), if_pos q, z_gd_e (wI_in (by omega) (by omega) (by omega)), wI_ix (by omega), hT.2.2.2.2.2 s q]
  · rw [if_pos (by rw [wI_le (by omega) (by omega) (by omega) (by omega)]; omega), if_neg q]
theorem m_let (hT : iT t l tx mt) {i : Nat} (hi : i ≤ l) : M_isLetter mt (wI (i : Nat)) = some (if i < l then (if 97 ≤ t i ∧ t i ≤ 122 then 1 else 0) else 0) := by
  have hl := hT.1
  unfold M_isLetter
  rw [hT.2.2.2.1]
  by_cases q : i < l
  · rw [if_neg (by rw [wI_le (by omega) (by omega) (by omega) (by omega)]; omega), if_pos q, z_gd_e (wI_in (by omega) (by omega) (by omega)), wI_ix (by omega), hT.2.2.2.2.2 i q]
    by_cases q2 : 97 ≤ t i ∧ t i ≤ 122
    · rw [if_neg (fun h => (d_lem _ (hT.2.1 i)).mp h q2), if_pos q2]
    · rw [if_pos ((d_lem _ (hT.2.1 i)).mpr q2), if_neg q2]
  · rw [if_pos (by rw [wI_le (by omega) (by omega) (by omega) (by omega)]; omega), if_neg q]
theorem m_wl (hT : iT t l tx mt) (u : Int32 × Ps) : ∀ d i n, i + d = l → d < n → M_wordNext_L10 mt u n (wI (i : Nat)) = some (wI (lr t d i : Nat) - ps_reading u.2, u.2) := by
  have hl := hT.1
  intro d
  induction d with
  | zero =>
    intro i n hi hn
    obtain ⟨n, rfl⟩ : ∃ k, n = k + 1 := ⟨n - 1, by omega⟩
    rw [M_wordNext_L10, m_let hT (by omega), z_bd_s, if_neg (show ¬ i < l by omega), if_pos rfl]
    rfl
  | succ d ih =>
    intro i n hi hn
    obtain ⟨n, rfl⟩ : ∃ k, n = k + 1 := ⟨n - 1, by omega⟩
    rw [M_wordNext_L10, m_let hT (by omega), z_bd_s, if_pos (show i < l by omega), lr]
    by_cases q : 97 ≤ t i ∧ t i ≤ 122
    · rw [if_pos q, if_pos q, if_neg (by decide), z_let_e, wI_1, wI_add]
      exact ih (i + 1) n (by omega) (by omega)
    · rw [if_neg q, if_neg q, if_pos rfl]
theorem m_word (hT : iT t l tx mt) {r : Nat} (hr : r ≤ l) (fl g : Int32) (df : Nat → Int32) (hd : Int32) (tl : Nat → Int32) : M_wordNext FF mt (wI (r : Nat), fl, g, df, hd, tl) = some (wI ((run t l (skp t l r) - skp t l r : Nat) : Int), (wI (skp t l r : Nat), fl, g, df, hd, tl)) := by
  have hl := hT.1
  have hb := skp_b t hr
  have hrr := run_b t hb.2.1
  unfold M_wordNext
  rw [m_next hT hr, z_bd_s, z_let_e]
  dsimp only [ps_reading]
  rw [m_wl hT _ (l - skp t l r) (skp t l r) FF (by omega) (by show l - skp t l r < 2000; omega)]
  dsimp only [ps_reading]
  rw [wI_sub]
  show some (wI ((run t l (skp t l r) : Nat) - (skp t l r : Nat)), _) = _
  rw [show ((run t l (skp t l r) : Int) - (skp t l r : Nat)) = ((run t l (skp t l r) - skp t l r : Nat) : Int) by omega]
def Wd (t : Nat → Nat) (l i0 s : Nat) : Prop := run t l s = s + strLen.getD i0 0 ∧ ∀ j, j < strLen.getD i0 0 → t (s + j) = cb i0 j
theorem c_mt (hT : iT t l tx mt) {te : Te} {s i0 : Nat} (hi0 : i0 < 8) (h1 : te_start te = wI (s : Nat)) (hle : s + strLen.getD i0 0 ≤ l) : ∀ d j n, j + d = strLen.getD i0 0 → d < n → Te_isToken_L20 te tx i0 n (wI (j : Nat)) = some (wI (o01 (∀ x, j ≤ x → x < strLen.getD i0 0 → t (s + x) = cb i0 x))) := by
  have hl := hT.1
  have h6 := d_len6 i0 hi0
  intro d
  induction d with
  | zero =>
    intro j n hi hn
    obtain ⟨n, rfl⟩ : ∃ k, n = k + 1 := ⟨n - 1, by omega⟩
    rw [Te_isToken_L20, d_len i0 hi0, if_pos (by rw [wI_le (by omega) (by omega) (by omega) (by omega)]; omega), o01_t (fun x h1 h2 => by omega)]
    rfl
  | succ d ih =>
    intro j n hi hn
    obtain ⟨n, rfl⟩ : ∃ k, n = k + 1 := ⟨n - 1, by omega⟩
    have hc : Str_charAt_5068e i0 (wI (j : Nat)) = some (wI (cb i0 j : Nat)) := by
      rcases d_chr i0 hi0 j (by omega) with h | h
      · omega
      · exact h
    have hcb := d_cb i0 hi0 j (by omega)
    have htb := hT.2.1 (s + j)
    rw [Te_isToken_L20, d_len i0 hi0, if_neg (by rw [wI_le (by omega) (by omega) (by omega) (by omega)]; omega), hc, z_bd_s, h1, wI_add, show ((s : Int) + j) = ((s + j : Nat) : Int) by omega, tx_at hT (by omega)]
    by_cases q : t (s + j) = cb i0 j
    · rw [if_pos (by rw [q]), z_let_e, wI_1, wI_add, show ((j : Int) + 1) = ((j + 1 : Nat) : Int) by omega, ih (j + 1) n (by omega) (by omega)]
      rw [o01_c (q := ∀ x, j ≤ x → x < strLen.getD i0 0 → t (s + x) = cb i0 x) ⟨fun h x h1 h2 => by
        by_cases e : x = j
        · rw [e]; exact q
        · exact h x (by omega) h2, fun h x h1 h2 => h x (by omega) h2⟩]
    · rw [if_neg (by rw [wI_eq (by omega) (by omega) (by omega) (by omega)]; omega), o01_f (fun h => q (h j (Nat.le_refl _) (by omega)))]
      rfl
theorem m_mt (hT : iT t l tx mt) {ps : Ps} {s i0 : Nat} (hi0 : i0 < 8) (h1 : ps_reading ps = wI (s : Nat)) (hle : s + strLen.getD i0 0 ≤ l) : ∀ d j n, j + d = strLen.getD i0 0 → d < n → M_isWord_L26 mt i0 ps n 1 (wI (j : Nat)) = some (wI (o01 (∀ x, j ≤ x → x < strLen.getD i0 0 → t (s + x) = cb i0 x)), ps) := by
  have hl := hT.1
  have h6 := d_len6 i0 hi0
  intro d
  induction d with
  | zero =>
    intro j n hi hn
    obtain ⟨n, rfl⟩ : ∃ k, n = k + 1 := ⟨n - 1, by omega⟩
    rw [M_isWord_L26, d_len i0 hi0, if_pos (by rw [wI_le (by omega) (by omega) (by omega) (by omega)]; omega), o01_t (fun x h1 h2 => by omega), z_gd_e (by decide)]
    rfl
  | succ d ih =>
    intro j n hi hn
    obtain ⟨n, rfl⟩ : ∃ k, n = k + 1 := ⟨n - 1, by omega⟩
    have hc : Str_charAt_5068e i0 (wI (j : Nat)) = some (wI (cb i0 j : Nat)) := by
      rcases d_chr i0 hi0 j (by omega) with h | h
      · omega
      · exact h
    have hcb := d_cb i0 hi0 j (by omega)
    have htb := hT.2.1 (s + j)
    rw [M_isWord_L26, d_len i0 hi0, if_neg (by rw [wI_le (by omega) (by omega) (by omega) (by omega)]; omega), if_neg (by decide), h1, wI_add, show ((s : Int) + j) = ((s + j : Nat) : Int) by omega, z_gd_e (wI_in (by omega) (by omega) (by omega)), hc, z_bd_s, wI_ix (by omega), hT.2.2.2.2.2 (s + j) (by omega)]
    by_cases q : t (s + j) = cb i0 j
    · rw [if_pos ((d_eq _ htb _ hcb).mpr q), z_let_e, wI_1, wI_add, show ((j : Int) + 1) = ((j + 1 : Nat) : Int) by omega, ← wI_1, ih (j + 1) n (by omega) (by omega)]
      rw [o01_c (q := ∀ x, j ≤ x → x < strLen.getD i0 0 → t (s + x) = cb i0 x) ⟨fun h x h1 h2 => by
        by_cases e : x = j
        · rw [e]; exact q
        · exact h x (by omega) h2, fun h x h1 h2 => h x (by omega) h2⟩]
    · rw [if_neg (fun h => q ((d_eq _ htb _ hcb).mp h)), z_let_e, o01_f (fun h => q (h j (Nat.le_refl _) (by omega)))]
      obtain ⟨n, rfl⟩ : ∃ k, n = k + 1 := ⟨n - 1, by omega⟩
      rw [M_isWord_L26]
      split
      · rfl
      · rw [if_pos rfl]; rfl
end ZLX

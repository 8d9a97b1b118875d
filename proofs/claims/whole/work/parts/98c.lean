/-! LINES of the text of teams -/
def DD (S : St) (sh : Sh) (df : Nat → Int32) : Prop := (so S ≤ 3 ∧ sf S ≤ 1 ∧ (∀ i, i < 4 → -3 ≤ sv S i ∧ sv S i ≤ 3) ∧ (∀ i, i < 10 → 0 ≤ sk S i ∧ sk S i ≤ 6)) ∧ (sh_order sh = wI (so S : Nat) ∧ sh_first sh = wI (sf S : Nat) ∧ (∀ i, i < 4 → sh_nerves sh i = wI (sv S i)) ∧ (∀ i, i < 10 → sh_skills sh i = wI (sk S i))) ∧ (df 1 = wI (so S : Nat) ∧ df 2 = wI (sf S : Nat) ∧ df 3 = 0 ∧ (∀ i, i < 4 → df (4 + i) = wI (sv S i)) ∧ (∀ i, i < 10 → df (8 + i) = wI (sk S i))) ∧ (sh_kicks sh = 0 ∧ sh_goalBits sh = 0 ∧ sh_sideBits sh = 0 ∧ sh_goalsOfA sh = 0 ∧ sh_goalsOfB sh = 0)
theorem DD_skill {S : St} {sh : Sh} {df : Nat → Int32} (h : DD S sh df) {j : Nat} (hj : j < 10) {v : Nat} (hv : v ≤ 6) : DD (sn S, so S, sf S, sv S, fun i => if i = j then (v : Int) else sk S i) ((sh_shooters sh), (sh_order sh), (sh_first sh), (sh_kicks sh), (sh_goalBits sh), (sh_sideBits sh), (sh_goalsOfA sh), (sh_goalsOfB sh), (sh_nerves sh), (upd (sh_skills sh) j (wI (v : Nat)))) (upd df (8 + j) (wI (v : Nat))) := by
  obtain ⟨⟨a1, a2, a3, a4⟩, ⟨b1, b2, b3, b4⟩, ⟨c1, c2, c3, c4, c5⟩, d⟩ := h
  refine ⟨⟨a1, a2, a3, fun i hi => ?_⟩, ⟨b1, b2, b3, fun i hi => ?_⟩, ⟨?_, ?_, ?_, fun i hi => ?_, fun i hi => ?_⟩, d⟩
  · show 0 ≤ (if i = j then (v : Int) else sk S i) ∧ (if i = j then (v : Int) else sk S i) ≤ 6
    split
    · omega
    · exact a4 i hi
  · show upd (sh_skills sh) j (wI (v : Nat)) i = wI (if i = j then (v : Int) else sk S i)
    by_cases e : i = j
    · rw [if_pos e, e, upd_s]
    · rw [if_neg e, upd_n e]; exact b4 i hi
  · rw [upd_n (by omega)]; exact c1
  · rw [upd_n (by omega)]; exact c2
  · rw [upd_n (by omega)]; exact c3
  · rw [upd_n (by omega)]; exact c4 i hi
  · show upd df (8 + j) (wI (v : Nat)) (8 + i) = wI (if i = j then (v : Int) else sk S i)
    by_cases e : i = j
    · rw [if_pos e, e, upd_s]
    · rw [if_neg e, upd_n (by omega)]; exact c5 i hi
theorem DD_nerve {S : St} {sh : Sh} {df : Nat → Int32} (h : DD S sh df) {j : Nat} (hj : j < 4) {v : Int} (hv : -3 ≤ v ∧ v ≤ 3) : DD (sn S, so S, sf S, (fun i => if i = j then v else sv S i), sk S) ((sh_shooters sh), (sh_order sh), (sh_first sh), (sh_kicks sh), (sh_goalBits sh), (sh_sideBits sh), (sh_goalsOfA sh), (sh_goalsOfB sh), (upd (sh_nerves sh) j (wI v)), (sh_skills sh)) (upd df (4 + j) (wI v)) := by
  obtain ⟨⟨a1, a2, a3, a4⟩, ⟨b1, b2, b3, b4⟩, ⟨c1, c2, c3, c4, c5⟩, d⟩ := h
  refine ⟨⟨a1, a2, fun i hi => ?_, a4⟩, ⟨b1, b2, fun i hi => ?_, b4⟩, ⟨?_, ?_, ?_, fun i hi => ?_, fun i hi => ?_⟩, d⟩
  · show -3 ≤ (if i = j then v else sv S i) ∧ (if i = j then v else sv S i) ≤ 3
    split
    · exact hv
    · exact a3 i hi
  · show upd (sh_nerves sh) j (wI v) i = wI (if i = j then v else sv S i)
    by_cases e : i = j
    · rw [if_pos e, e, upd_s]
    · rw [if_neg e, upd_n e]; exact b3 i hi
  · rw [upd_n (by omega)]; exact c1
  · rw [upd_n (by omega)]; exact c2
  · rw [upd_n (by omega)]; exact c3
  · show upd df (4 + j) (wI v) (4 + i) = wI (if i = j then v else sv S i)
    by_cases e : i = j
    · rw [if_pos e, e, upd_s]
    · rw [if_neg e, upd_n (by omega)]; exact c4 i hi
  · rw [upd_n (by omega)]; exact c5 i hi
theorem DD_order {S : St} {sh : Sh} {df : Nat → Int32} (h : DD S sh df) {v : Nat} (hv : v ≤ 3) : DD (sn S, v, sf S, sv S, sk S) ((sh_shooters sh), wI (v : Nat), (sh_first sh), (sh_kicks sh), (sh_goalBits sh), (sh_sideBits sh), (sh_goalsOfA sh), (sh_goalsOfB sh), (sh_nerves sh), (sh_skills sh)) (upd df 1 (wI (v : Nat))) := by
  obtain ⟨⟨a1, a2, a3, a4⟩, ⟨b1, b2, b3, b4⟩, ⟨c1, c2, c3, c4, c5⟩, d⟩ := h
  exact ⟨⟨hv, a2, a3, a4⟩, ⟨rfl, b2, b3, b4⟩, ⟨upd_s _ _ _, by rw [upd_n (by omega)]; exact c2, by rw [upd_n (by omega)]; exact c3, fun i hi => by rw [upd_n (by omega)]; exact c4 i hi, fun i hi => by rw [upd_n (by omega)]; exact c5 i hi⟩, d⟩
theorem DD_first {S : St} {sh : Sh} {df : Nat → Int32} (h : DD S sh df) {v : Nat} (hv : v ≤ 1) : DD (sn S, so S, v, sv S, sk S) ((sh_shooters sh), (sh_order sh), wI (v : Nat), (sh_kicks sh), (sh_goalBits sh), (sh_sideBits sh), (sh_goalsOfA sh), (sh_goalsOfB sh), (sh_nerves sh), (sh_skills sh)) (upd df 2 (wI (v : Nat))) := by
  obtain ⟨⟨a1, a2, a3, a4⟩, ⟨b1, b2, b3, b4⟩, ⟨c1, c2, c3, c4, c5⟩, d⟩ := h
  exact ⟨⟨a1, hv, a3, a4⟩, ⟨b1, rfl, b3, b4⟩, ⟨by rw [upd_n (by omega)]; exact c1, upd_s _ _ _, by rw [upd_n (by omega)]; exact c3, fun i hi => by rw [upd_n (by omega)]; exact c4 i hi, fun i hi => by rw [upd_n (by omega)]; exact c5 i hi⟩, d⟩
def TR (t : Nat → Nat) (l s m h c0 c1 : Nat) (S : St) (te : Te) (sh : Sh) (ps : Ps) : Prop := ∃ (r : Nat) (fl : Int32) (df tl : Nat → Int32), ps = (wI (r : Nat), fl, 1, df, hdv m h, tl) ∧ r ≤ l ∧ skp t l r = s ∧ te_start te = wI (s : Nat) ∧ te_stop te = wI (en t l s : Nat) ∧ te_told te = wI (m : Nat) ∧ te_counts te 0 = wI (c0 : Nat) ∧ te_counts te 1 = wI (c1 : Nat) ∧ tl 0 = wI (c0 : Nat) ∧ tl 1 = wI (c1 : Nat) ∧ DD S sh df ∧ m < 256 ∧ h < 3 ∧ (m / 8 % 2 = 0 → h = 0) ∧ (m % 2 = 0 → c0 = 0) ∧ (m / 2 % 2 = 0 → c1 = 0) ∧ c0 ≤ 5 ∧ c1 ≤ 5
def OUT (t : Nat → Nat) (l s : Nat) (K : Option (Int32 × Te × Sh)) (M : Option Ps) : Prop :=
  (∃ (s' m h c0 c1 : Nat) (S : St) (te : Te) (sh : Sh) (ps : Ps), K = some (1, te, sh) ∧ M = some ps ∧ TR t l s' m h c0 c1 S te sh ps ∧ s < s') ∨
  (∃ (f : Nat) (te : Te) (sh : Sh) (rd : Int32) (df : Nat → Int32) (hd : Int32) (tl : Nat → Int32), K = some (0, te, sh) ∧ M = some (rd, wI (f : Nat), 0, df, hd, tl) ∧ te_start te = wI (f : Nat) ∧ f ≤ l) ∨
  (∃ (f : Nat) (te : Te) (sh : Sh) (rd : Int32) (df : Nat → Int32) (hd : Int32) (tl : Nat → Int32), K = some (1, te, sh) ∧ M = some (rd, wI (f : Nat), 0, df, hd, tl) ∧ te_start te = wI (f : Nat) ∧ te_stop te = wI (en t l f : Nat) ∧ f < l ∧ t f ≠ 59)
section ZLN
variable {t : Nat → Nat} {l : Nat} {tx : Tx} {mt : Mt}
theorem skp_s {r s : Nat} (hr : r ≤ l) (hs : skp t l r = s) : skp t l s = s := by
  have := skp_b t hr
  rw [hs] at this
  exact skp_i t this.2.1 this.2.2
theorem set_sk (sh : Sh) {a x : Nat} (ha : a ≤ 1) (hx : x < 5) (v : Int32) : Sh_setSkill sh (wI (a : Nat)) (wI (x : Nat)) v = ((sh_shooters sh), (sh_order sh), (sh_first sh), (sh_kicks sh), (sh_goalBits sh), (sh_sideBits sh), (sh_goalsOfA sh), (sh_goalsOfB sh), (sh_nerves sh), (upd (sh_skills sh) (5 * a + x) v)) := by
  unfold Sh_setSkill
  rw [z_let_e, wI_5, wI_mul, wI_add, if_neg (by rw [wI_0, wI_lt (by omega) (by omega) (by omega) (by omega)]; omega), if_neg (by rw [wI_10, wI_le (by omega) (by omega) (by omega) (by omega)]; omega), wI_nat (by omega) (by omega), show ((a : Int) * 5 + x).toNat = 5 * a + x by omega]
theorem sk_run (hT : iT t l tx mt) {a m h cb' s0 : Nat} (ha : a ≤ 1) (hm : m < 256) (hh : h < 3) (hmh : m / 8 % 2 = 0 → h = 0) (hma : m / 2 ^ a % 2 = 1) (hmb : m / 2 ^ (1 - a) % 2 = 0 → cb' = 0) (hcb : cb' ≤ 5) (fl : Int32) (tl : Nat → Int32) (htl : tl (1 - a) = wI (cb' : Nat)) (KX : Int32 → Te → Sh → Option (Int32 × Te × Sh)) (hKX : KX = fun x11 te12 sh13 => if x11 ≤ 0 then some (0, te12, sh13) else some (1, te12, sh13)) (KY : Int32 → Ps → Option Ps) (hKY : KY = fun x8 ps9 => z_gd (z_in (wI (a : Nat)) 2) (some ((ps_reading ps9), (ps_fault ps9), (ps_isGood ps9), (ps_draft ps9), (ps_had ps9), (upd (ps_tells ps9) (wI (a : Nat)).toNatClampNeg x8)))) :
    ∀ (d x s r n n' : Nat) (te : Te) (sh : Sh) (df : Nat → Int32) (S : St), x + d = 5 → d + 1 < n → d + 1 < n' → s0 < s → r ≤ l → skp t l r = s → te_start te = wI (s : Nat) → te_stop te = wI (en t l s : Nat) → te_told te = wI (m : Nat) → te_counts te a = wI (x : Nat) → te_counts te (1 - a) = wI (cb' : Nat) → DD S sh df → (x = 0 ∨ DG t l 9 s) → OUT t l s0 (Te_readSkills_L21 FF tx (wI (a : Nat)) KX n (wI (x : Nat)) te sh) (M_readSkills_L4 FF mt (wI (a : Nat)) KY n' (wI (x : Nat)) 1 (wI (r : Nat), fl, 1, df, hdv m h, tl)) := by
  have hl := hT.1
  have hin : z_in (wI (a : Nat)) 2 = true := wI_in (by omega) (by omega) (by omega)
  have hY : ∀ (n' : Nat) (x : Int32) (rd f g : Int32) (df : Nat → Int32) (hd : Int32) (tl : Nat → Int32), M_readSkills_L4 FF mt (wI (a : Nat)) KY (n' + 1) x 0 (rd, f, g, df, hd, tl) = some (rd, f, g, df, hd, upd tl a x) := fun n' x rd f g df hd tl => by
    rw [M_readSkills_L4, if_pos rfl, hKY]
    dsimp only
    rw [z_gd_e hin, wI_ix (by omega)]
  have fin : ∀ (x' s' r' : Nat) (te' : Te) (sh' : Sh) (df' : Nat → Int32) (S' : St) (K : Option (Int32 × Te × Sh)) (M : Option Ps), x' ≤ 5 → r' ≤ l → skp t l r' = s' → te_start te' = wI (s' : Nat) → te_stop te' = wI (en t l s' : Nat) → te_told te' = wI (m : Nat) → te_counts te' a = wI (x' : Nat) → te_counts te' (1 - a) = wI (cb' : Nat) → DD S' sh' df' → s0 < s' → K = some (1, te', sh') → M = some (wI (r' : Nat), fl, 1, df', hdv m h, upd tl a (wI (x' : Nat))) → OUT t l s0 K M := by
    intro x' s' r' te' sh' df' S' K M hx hr' hs' q1 q2 q3 q4 q5 hD hlt eK eM
    have : a = 0 ∨ a = 1 := by omega
    rcases this with h0 | h0
    · subst h0
      refine Or.inl ⟨s', m, h, x', cb', S', te', sh', _, eK, eM, ⟨r', fl, df', _, rfl, hr', hs', q1, q2, q3, q4, q5, upd_s _ _ _, by rw [upd_n (by omega)]; exact htl, hD, hm, hh, hmh, fun h => ?_, fun h => hmb (by simpa using h), hx, hcb⟩, hlt⟩
      have : m / 2 ^ 0 % 2 = m % 2 := by simp
      omega
    · subst h0
      refine Or.inl ⟨s', m, h, cb', x', S', te', sh', _, eK, eM, ⟨r', fl, df', _, rfl, hr', hs', q1, q2, q3, q5, q4, by rw [upd_n (by omega)]; exact htl, upd_s _ _ _, hD, hm, hh, hmh, fun h => hmb (by simpa using h), fun h => ?_, hcb, hx⟩, hlt⟩
      have : m / 2 ^ 1 % 2 = m / 2 % 2 := by simp
      omega
  intro d
  induction d with
  | zero =>
    intro x s r n n' te sh df S hx hn hn' hlt hr hs q1 q2 q3 q4 q5 hD hor
    obtain ⟨n, rfl⟩ : ∃ k, n = k + 1 := ⟨n - 1, by omega⟩
    obtain ⟨n', rfl⟩ : ∃ k, n' = k + 1 + 1 := ⟨n' - 2, by omega⟩
    have hx5 : x = 5 := by omega
    have hdg : DG t l 9 s := by
      rcases hor with h | h
      · omega
      · exact h
    refine Or.inr (Or.inr ⟨s, te, sh, wI (s : Nat), df, hdv m h, upd tl a (wI (x : Nat)), ?_, ?_, q1, q2, hdg.1, by have := hdg.2.2; omega⟩)
    · rw [Te_readSkills_L21, if_pos (by rw [wI_5, wI_le (by omega) (by omega) (by omega) (by omega)]; omega)]
    · rw [M_readSkills_L4, if_neg (show ¬ (1 : Int32) = 0 by decide), z_jn_e, if_pos (by rw [hx5]; rfl), m_next hT hr, z_bd_s]
      dsimp only [ps_reading]
      rw [m_wr1, z_let_e, m_dig0, z_bd_s, z_let_e, z_jn_e, if_pos rfl]
      dsimp only
      rw [m_isDig0, z_bd_s, z_let_e, hY, hs]
  | succ d ih =>
    intro x s r n n' te sh df S hx hn hn' hlt hr hs q1 q2 q3 q4 q5 hD hor
    obtain ⟨n, rfl⟩ : ∃ k, n = k + 1 + 1 := ⟨n - 2, by omega⟩
    obtain ⟨n', rfl⟩ : ∃ k, n' = k + 1 + 1 := ⟨n' - 2, by omega⟩
    have hsl : s ≤ l := by have := skp_b t hr; omega
    have hx5 : ¬ wI (x : Nat) = 5 := by rw [wI_5, wI_eq (by omega) (by omega) (by omega) (by omega)]; omega
    have hcd := c_dig hT (a := 6) (by omega) hsl q1 q2
    have hmd := m_dig hT (a := 6) (by omega) hr hs fl df (hdv m h) tl
    rw [show wI ((6 : Nat) : Int) = 6 from wI_6.symm] at hcd hmd
    by_cases q : DG t l 6 s
    · rw [if_pos q] at hcd hmd
      obtain ⟨g1, g2, g3⟩ := q
      have hen : en t l s = s + 1 := dg_en (a := 6) (by omega) ⟨g1, g2, g3⟩
      obtain ⟨v, hv⟩ : ∃ v, v = t s - 48 := ⟨_, rfl⟩
      rw [← hv] at hcd hmd
      obtain ⟨s', hs'⟩ : ∃ s', s' = skp t l (s + 1) := ⟨_, rfl⟩
      have hsb := skp_b t (show s + 1 ≤ l by omega)
      rw [← hs'] at hsb
      obtain ⟨cn, hcn⟩ : ∃ cn, cn = upd (te_counts te) a (wI ((x + 1 : Nat) : Int)) := ⟨_, rfl⟩
      have hadv := c_adv hT (te := (cn, te_start te, te_stop te, te_told te)) (e := s + 1) (by omega) (by show te_stop te = _; rw [q2, hen])
      rw [← hs'] at hadv
      have hD' := DD_skill hD (j := 5 * a + x) (by omega) (v := v) (by omega)
      have hidm := m_isDig hT (r := s + 1) (s := s') (by omega) hs'.symm fl (upd df (8 + (5 * a + x)) (wI (v : Nat))) (hdv m h) tl
      have eK : ∀ n, Te_readSkills_L21 FF tx (wI (a : Nat)) KX (n + 1) (wI (x : Nat)) te sh = Te_readSkills_L21 FF tx (wI (a : Nat)) KX n (wI ((x + 1 : Nat) : Int)) (cn, wI (s' : Nat), wI (en t l s' : Nat), te_told te) ((sh_shooters sh), (sh_order sh), (sh_first sh), (sh_kicks sh), (sh_goalBits sh), (sh_sideBits sh), (sh_goalsOfA sh), (sh_goalsOfB sh), (sh_nerves sh), (upd (sh_skills sh) (5 * a + x) (wI (v : Nat)))) := fun n => by
        rw [Te_readSkills_L21, if_neg (by rw [wI_5, wI_le (by omega) (by omega) (by omega) (by omega)]; omega), hcd, z_let_e, if_pos (by rw [wI_0, wI_le (by omega) (by omega) (by omega) (by omega)]; omega), set_sk sh ha (by omega), z_let_e, z_gd_e hin, wI_ix (by omega), q4, wI_1, wI_add, show ((x : Int) + 1) = ((x + 1 : Nat) : Int) by omega, z_let_e, z_gd_e hin, ← hcn, hadv, z_bd_s, z_let_e]
      have eM : ∀ n', M_readSkills_L4 FF mt (wI (a : Nat)) KY (n' + 1) (wI (x : Nat)) 1 (wI (r : Nat), fl, 1, df, hdv m h, tl) = M_readSkills_L4 FF mt (wI (a : Nat)) KY n' (wI ((x + 1 : Nat) : Int)) (if DG t l 9 s' then 1 else 0) (wI (s' : Nat), fl, 1, (upd df (8 + (5 * a + x)) (wI (v : Nat))), hdv m h, tl) := fun n' => by
        rw [M_readSkills_L4, if_neg (show ¬ (1 : Int32) = 0 by decide), z_jn_e, if_neg hx5]
        dsimp only
        rw [hmd, z_bd_s, z_let_e, z_jn_e, if_neg (show ¬ (1 : Int32) = 0 by decide), show 8 + 5 * wI (a : Nat) + wI (x : Nat) = wI ((8 + (5 * a + x) : Nat) : Int) by rw [wI_8, wI_5, wI_mul, wI_add, wI_add]; exact wI_c (by omega), z_gd_e (wI_in (by omega) (by omega) (by omega)), wI_ix (by omega), wI_1, wI_add, show ((x : Int) + 1) = ((x + 1 : Nat) : Int) by omega, z_let_e]
        rw [← wI_1]
        dsimp only
        rw [hidm, z_bd_s, z_let_e]
      rw [eK, eM]
      have w4 : te_counts ((cn, wI (s' : Nat), wI (en t l s' : Nat), te_told te) : Te) a = wI ((x + 1 : Nat) : Int) := by show cn a = _; rw [hcn, upd_s]
      have w5 : te_counts ((cn, wI (s' : Nat), wI (en t l s' : Nat), te_told te) : Te) (1 - a) = wI (cb' : Nat) := by show cn (1 - a) = _; rw [hcn, upd_n (by omega)]; exact q5
      have w6 : skp t l s' = s' := skp_s (r := s + 1) (by omega) hs'.symm
      by_cases q9 : DG t l 9 s'
      · rw [if_pos q9]
        exact ih (x + 1) s' s' (n + 1) (n' + 1) _ _ _ _ (by omega) (by omega) (by omega) (by omega) (by omega) w6 rfl rfl q3 w4 w5 hD' (Or.inr q9)
      · rw [if_neg q9, hY]
        refine fin (x + 1) s' s' (cn, wI (s' : Nat), wI (en t l s' : Nat), te_told te) _ _ _ _ _ (by omega) (by omega) w6 rfl rfl q3 w4 w5 hD' (by omega) ?_ rfl
        rw [Te_readSkills_L21]
        by_cases e5 : x + 1 = 5
        · rw [if_pos (by rw [wI_5, wI_le (by omega) (by omega) (by omega) (by omega)]; omega)]
        · have hcd' := c_dig hT (te := (cn, wI (s' : Nat), wI (en t l s' : Nat), te_told te)) (a := 6) (s := s') (by omega) (by omega) rfl rfl
          rw [show wI ((6 : Nat) : Int) = 6 from wI_6.symm, if_neg (show ¬ DG t l 6 s' from fun h => q9 ⟨h.1, h.2.1, by have := h.2.2; omega⟩)] at hcd'
          rw [if_neg (by rw [wI_5, wI_le (by omega) (by omega) (by omega) (by omega)]; omega), hcd', z_let_e, if_neg (by decide), hKX]
          dsimp only
          rw [if_neg (by rw [wI_0, wI_le (by omega) (by omega) (by omega) (by omega)]; omega)]
    · rw [if_neg q] at hcd hmd
      have eM : M_readSkills_L4 FF mt (wI (a : Nat)) KY (n' + 1 + 1) (wI (x : Nat)) 1 (wI (r : Nat), fl, 1, df, hdv m h, tl) = some (wI (s : Nat), wI (s : Nat), 0, df, hdv m h, upd tl a (wI (x : Nat))) := by
        rw [M_readSkills_L4, if_neg (show ¬ (1 : Int32) = 0 by decide), z_jn_e, if_neg hx5]
        dsimp only
        rw [hmd, z_bd_s, z_let_e, z_jn_e, if_pos rfl]
        dsimp only
        rw [m_isDig0, z_bd_s, z_let_e, hY]
      have eK : Te_readSkills_L21 FF tx (wI (a : Nat)) KX (n + 1 + 1) (wI (x : Nat)) te sh = if x = 0 then some (0, te, sh) else some (1, te, sh) := by
        rw [Te_readSkills_L21, if_neg (by rw [wI_5, wI_le (by omega) (by omega) (by omega) (by omega)]; omega), hcd, z_let_e, if_neg (by decide), hKX]
        dsimp only
        by_cases e : x = 0
        · rw [if_pos e, if_pos (by rw [wI_0, wI_le (by omega) (by omega) (by omega) (by omega)]; omega)]
        · rw [if_neg e, if_neg (by rw [wI_0, wI_le (by omega) (by omega) (by omega) (by omega)]; omega)]
      rw [eK, eM]
      by_cases e : x = 0
      · rw [if_pos e]
        exact Or.inr (Or.inl ⟨s, te, sh, wI (s : Nat), df, hdv m h, upd tl a (wI (x : Nat)), rfl, rfl, q1, hsl⟩)
      · rw [if_neg e]
        have hdg : DG t l 9 s := by
          rcases hor with h | h
          · exact absurd h e
          · exact h
        exact Or.inr (Or.inr ⟨s, te, sh, wI (s : Nat), df, hdv m h, upd tl a (wI (x : Nat)), rfl, rfl, q1, q2, hdg.1, by have := hdg.2.2; omega⟩)
end ZLN

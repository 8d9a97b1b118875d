/-! ORDER, FIRST, ANY LINE -/
theorem d_s1 : ∀ q, q < 2 → ((1 <<< (wI (q : Nat) &&& 31)) : Int32) = wI ((2 ^ q : Nat) : Int) := by decide +kernel
section ZLO
variable {t : Nat → Nat} {l : Nat} {tx : Tx} {mt : Mt}
theorem out_w {s : Nat} {K : Option (Int32 × Te × Sh)} {M : Option Ps} (h : OUT t l s K M) : z_bd K (fun u : Int32 × Te × Sh => if u.1 = 0 then (some (0, u.2.1, u.2.2)) else (some (1, u.2.1, u.2.2))) = K ∧ z_bd K (fun u : Int32 × Te × Sh => z_gd (z_b u.1) (some (u.1, u.2.1, u.2.2))) = K := by
  rcases h with ⟨_, _, _, _, _, _, te, sh, _, e, _⟩ | ⟨_, te, sh, _, _, _, _, e, _⟩ | ⟨_, te, sh, _, _, _, _, e, _⟩
  · rw [e, z_bd_s, z_bd_s]; exact ⟨rfl, rfl⟩
  · rw [e, z_bd_s, z_bd_s]; exact ⟨rfl, rfl⟩
  · rw [e, z_bd_s, z_bd_s]; exact ⟨rfl, rfl⟩
theorem bd_id {α : Type} (x : Option α) : z_bd x (fun u => some u) = x := by cases x <;> rfl
theorem ro (hT : iT t l tx mt) {s0 e0 m h c0 c1 : Nat} {S : St} {te : Te} {sh : Sh} {fl : Int32} {df tl : Nat → Int32} (he : e0 ≤ l) (hse : s0 < e0) (h2 : te_stop te = wI (e0 : Nat)) (h3 : te_told te = wI (m : Nat)) (h4 : te_counts te 0 = wI (c0 : Nat)) (h5 : te_counts te 1 = wI (c1 : Nat)) (h6 : tl 0 = wI (c0 : Nat)) (h7 : tl 1 = wI (c1 : Nat)) (hD : DD S sh df) (hm : m < 256) (hh : h < 3) (hmh : m / 8 % 2 = 0 → h = 0) (hm0 : m % 2 = 0 → c0 = 0) (hm1 : m / 2 % 2 = 0 → c1 = 0) (hc0 : c0 ≤ 5) (hc1 : c1 ≤ 5) : OUT t l s0 (Te_readOrder FF te tx sh) (z_bd (M_digit FF mt (wI (e0 : Nat), fl, 1, df, hdv m h, tl) 3) (fun u16 : Int32 × Ps => z_let u16.1 (fun x17 : Int32 => some ((ps_reading u16.2), (ps_fault u16.2), (ps_isGood u16.2), (upd (ps_draft u16.2) 1 x17), (ps_had u16.2), (ps_tells u16.2))))) := by
  have hl := hT.1
  have hadv := c_adv hT he h2
  obtain ⟨s1, hs1⟩ : ∃ s1, s1 = skp t l e0 := ⟨_, rfl⟩
  have hb1 := skp_b t he
  rw [← hs1] at hadv hb1
  obtain ⟨te1, hte1⟩ : ∃ te1 : Te, te1 = (te_counts te, wI (s1 : Nat), wI (en t l s1 : Nat), te_told te) := ⟨_, rfl⟩
  rw [← hte1] at hadv
  have t1 : te_start te1 = wI (s1 : Nat) := by rw [hte1]
  have t2 : te_stop te1 = wI (en t l s1 : Nat) := by rw [hte1]
  have t3 : te_told te1 = wI (m : Nat) := by rw [hte1]; exact h3
  have t4 : te_counts te1 = te_counts te := by rw [hte1]
  have hcd := c_dig hT (a := 3) (by omega) hb1.2.1 t1 t2
  have hmd := m_dig hT (a := 3) (by omega) he hs1.symm fl df (hdv m h) tl
  rw [show wI ((3 : Nat) : Int) = 3 from wI_3.symm] at hcd hmd
  unfold Te_readOrder
  rw [hadv, z_bd_s, hcd, hmd]
  by_cases q : DG t l 3 s1
  · rw [if_pos q, if_pos q, z_bd_s, z_let_e, z_let_e, if_pos (by rw [wI_0, wI_le (by omega) (by omega) (by have := hT.2.1 s1; omega) (by have := hT.2.1 s1; omega)]; omega)]
    obtain ⟨g1, g2, g3⟩ := q
    have hen : en t l s1 = s1 + 1 := dg_en (a := 3) (by omega) ⟨g1, g2, g3⟩
    have hadv1 := c_adv hT (te := te1) (e := s1 + 1) (by omega) (by rw [t2, hen])
    rw [hadv1, z_bd_s]
    have hsb := skp_b t (show s1 + 1 ≤ l by omega)
    exact Or.inl ⟨skp t l (s1 + 1), m, h, c0, c1, _, _, _, _, rfl, rfl, ⟨s1 + 1, fl, _, tl, rfl, by omega, rfl, rfl, rfl, t3, by show te_counts te1 0 = _; rw [t4]; exact h4, by show te_counts te1 1 = _; rw [t4]; exact h5, h6, h7, DD_order hD (by omega), hm, hh, hmh, hm0, hm1, hc0, hc1⟩, by omega⟩
  · rw [if_neg q, if_neg q, z_bd_s, z_let_e, z_let_e, if_neg (by decide)]
    exact Or.inr (Or.inl ⟨s1, te1, sh, _, _, _, _, rfl, rfl, t1, hb1.2.1⟩)
theorem rf (hT : iT t l tx mt) {s0 e0 m c0 c1 : Nat} {S : St} {te : Te} {sh : Sh} {fl : Int32} {df tl : Nat → Int32} (he : e0 ≤ l) (hse : s0 < e0) (h2 : te_stop te = wI (e0 : Nat)) (h3 : te_told te = wI (m : Nat)) (h4 : te_counts te 0 = wI (c0 : Nat)) (h5 : te_counts te 1 = wI (c1 : Nat)) (h6 : tl 0 = wI (c0 : Nat)) (h7 : tl 1 = wI (c1 : Nat)) (hD : DD S sh df) (hm : m < 256) (hm8 : m / 8 % 2 = 1) (hm0 : m % 2 = 0 → c0 = 0) (hm1 : m / 2 % 2 = 0 → c1 = 0) (hc0 : c0 ≤ 5) (hc1 : c1 ≤ 5) : OUT t l s0 (Te_readFirst FF te tx sh) (z_bd (M_sideTold FF mt (wI (e0 : Nat), fl, 1, df, hdv m 0, tl) 8) (fun u14 : Int32 × Ps => z_let u14.1 (fun x15 : Int32 => some ((ps_reading u14.2), (ps_fault u14.2), (ps_isGood u14.2), (upd (ps_draft u14.2) 2 x15), (ps_had u14.2), (ps_tells u14.2))))) := by
  have hl := hT.1
  have hadv := c_adv hT he h2
  obtain ⟨s1, hs1⟩ : ∃ s1, s1 = skp t l e0 := ⟨_, rfl⟩
  have hb1 := skp_b t he
  rw [← hs1] at hadv hb1
  obtain ⟨te1, hte1⟩ : ∃ te1 : Te, te1 = (te_counts te, wI (s1 : Nat), wI (en t l s1 : Nat), te_told te) := ⟨_, rfl⟩
  rw [← hte1] at hadv
  have t1 : te_start te1 = wI (s1 : Nat) := by rw [hte1]
  have t2 : te_stop te1 = wI (en t l s1 : Nat) := by rw [hte1]
  have t3 : te_told te1 = wI (m : Nat) := by rw [hte1]; exact h3
  have t4 : te_counts te1 = te_counts te := by rw [hte1]
  have hms := m_side hT he hs1.symm fl df (hdv m 0) tl 8
  unfold Te_readFirst
  rw [hadv, z_bd_s]
  rcases c_side hT hb1.2.1 t1 t2 with ⟨q, hq, hw, eS⟩ | ⟨w0, w1, eS⟩
  · have hmsq := hms.1 q hq hw
    rw [if_neg (d_h3 m hm q (by omega)), d_h4 m hm q (by omega)] at hmsq
    have hw1 : en t l s1 = s1 + 1 := by
      rw [wd_en hw (by omega) (by omega)]
      have : q = 0 ∨ q = 1 := by omega
      rcases this with e | e <;> rw [e] <;> rfl
    have hs1l : s1 < l := by have := en_b t hb1.2.1; omega
    have hadv1 := c_adv hT (te := te1) (e := s1 + 1) (by omega) (by rw [t2, hw1])
    have hsb := skp_b t (show s1 + 1 ≤ l by omega)
    rw [eS, z_bd_s, if_pos (by rw [wI_0, wI_le (by omega) (by omega) (by omega) (by omega)]; omega), hadv1, z_bd_s, hmsq, z_bd_s, z_let_e]
    exact Or.inl ⟨skp t l (s1 + 1), m, q + 1, c0, c1, _, _, _, _, rfl, rfl, ⟨s1 + 1, fl, _, tl, rfl, by omega, rfl, rfl, rfl, t3, by show te_counts te1 0 = _; rw [t4]; exact h4, by show te_counts te1 1 = _; rw [t4]; exact h5, h6, h7, DD_first hD hq, hm, by omega, fun h => by omega, hm0, hm1, hc0, hc1⟩, by omega⟩
  · rw [eS, z_bd_s, if_neg (by decide), hms.2 w0 w1, z_bd_s, z_let_e]
    exact Or.inr (Or.inl ⟨s1, te1, sh, _, _, _, _, rfl, rfl, t1, hb1.2.1⟩)
theorem m_fr1 (hT : iT t l tx mt) {r s i0 : Nat} (hi0 : i0 < 7) (hr : r ≤ l) (hs : skp t l r = s) (fl : Int32) (df : Nat → Int32) (hd : Int32) (tl : Nat → Int32) (a2 : Int32) (hw : Wd t l i0 s) (hf : ¬ ((hd >>> (a2 &&& 31)) &&& 1) = 1) : M_isFresh FF mt (wI (r : Nat), fl, 1, df, hd, tl) i0 a2 = (some (1, (wI ((s + strLen.getD i0 0 : Nat) : Int), fl, 1, df, hd ||| (1 <<< (a2 &&& 31)), tl)) : Option (Int32 × Ps)) := by
  unfold M_isFresh
  rw [m_isW hT hi0 hr hs, z_bd_s, o01_t hw, if_neg (show ¬ wI 1 = 0 by decide), if_neg hf, z_let_e, d_len i0 (by omega)]
  show z_let (wI (s : Nat) + wI ((strLen.getD i0 0 : Nat) : Int)) _ = _
  rw [wI_add, z_let_e]
  rfl
theorem m_fr0 (hT : iT t l tx mt) {r s i0 : Nat} (hi0 : i0 < 7) (hr : r ≤ l) (hs : skp t l r = s) (fl : Int32) (df : Nat → Int32) (hd : Int32) (tl : Nat → Int32) (a2 : Int32) (hw : ¬ Wd t l i0 s ∨ ((hd >>> (a2 &&& 31)) &&& 1) = 1) : M_isFresh FF mt (wI (r : Nat), fl, 1, df, hd, tl) i0 a2 = some (0, (wI (s : Nat), fl, 1, df, hd, tl)) := by
  unfold M_isFresh
  rw [m_isW hT hi0 hr hs, z_bd_s]
  by_cases w : Wd t l i0 s
  · rw [o01_t w, if_neg (show ¬ wI 1 = 0 by decide)]
    rcases hw with h | h
    · exact absurd w h
    · exact if_pos h
  · rw [o01_f w, if_pos (show wI 0 = 0 from rfl)]
theorem m_tw1 (hT : iT t l tx mt) {r s i0 : Nat} (hi0 : i0 < 7) (hr : r ≤ l) (hs : skp t l r = s) (fl : Int32) (df : Nat → Int32) (hd : Int32) (tl : Nat → Int32) (hw : Wd t l i0 s) : M_takesWord FF mt (wI (r : Nat), fl, 1, df, hd, tl) i0 = some (1, (wI ((s + strLen.getD i0 0 : Nat) : Int), fl, 1, df, hd, tl)) := by
  unfold M_takesWord
  rw [m_isW hT hi0 hr hs, z_bd_s, o01_t hw, z_let_e, if_neg (show ¬ wI 1 = 0 by decide), z_let_e, d_len i0 (by omega)]
  show z_let (wI (s : Nat) + wI ((strLen.getD i0 0 : Nat) : Int)) _ = _
  rw [wI_add, z_let_e]
  rfl
theorem m_tw0 (hT : iT t l tx mt) {r s i0 : Nat} (hi0 : i0 < 7) (hr : r ≤ l) (hs : skp t l r = s) (fl : Int32) (df : Nat → Int32) (hd : Int32) (tl : Nat → Int32) (hw : ¬ Wd t l i0 s) : M_takesWord FF mt (wI (r : Nat), fl, 1, df, hd, tl) i0 = some (0, (wI (s : Nat), fl, 1, df, hd, tl)) := by
  unfold M_takesWord
  rw [m_isW hT hi0 hr hs, z_bd_s, o01_f hw, z_let_e, if_pos (show wI 0 = 0 from rfl), z_let_e]
  show z_let (wI (s : Nat) + 0) _ = _
  rw [show wI (s : Nat) + 0 = wI (s : Nat) by rw [wI_0, wI_add, Int.add_zero], z_let_e]
  rfl
theorem rl (hT : iT t l tx mt) {s m h c0 c1 : Nat} {S : St} {te : Te} {sh : Sh} {ps : Ps} (hTR : TR t l s m h c0 c1 S te sh ps) : OUT t l s (Te_readLine FF te tx sh) (M_readLine FF mt ps) := by
  have hl := hT.1
  obtain ⟨r, fl, df, tl, rfl, hr, hs, h1, h2, h3, h4, h5, h6, h7, hD, hm, hh, hmh, hm0, hm1, hc0, hc1⟩ := hTR
  have hsl : s ≤ l := by have := skp_b t hr; omega
  have hss := skp_s hr hs
  have tok : ∀ i, i < 7 → i ≠ 3 → Te_isToken FF te tx i = some (wI (o01 (Wd t l i s))) := fun i hi hi3 => c_tok hT hi hi3 hsl h1 h2
  -- nothing fits
  have none_ : ∀ (K : Option (Int32 × Te × Sh)), (¬ Wd t l 0 s ∨ ((hdv m h >>> ((0 : Int32) &&& 31)) &&& 1) = 1) → (¬ Wd t l 1 s ∨ ((hdv m h >>> ((1 : Int32) &&& 31)) &&& 1) = 1) → ¬ Wd t l 2 s → ¬ Wd t l 4 s → (¬ Wd t l 5 s ∨ ((hdv m h >>> ((6 : Int32) &&& 31)) &&& 1) = 1) → (¬ Wd t l 6 s ∨ ((hdv m h >>> ((7 : Int32) &&& 31)) &&& 1) = 1) → K = some (0, te, sh) → OUT t l s K (M_readLine FF mt (wI (r : Nat), fl, 1, df, hdv m h, tl)) := by
    intro K n0 n1 n2 n4 n5 n6 eK
    refine Or.inr (Or.inl ⟨s, te, sh, wI (s : Nat), df, hdv m h, tl, eK, ?_, h1, hsl⟩)
    unfold M_readLine
    rw [m_fr0 hT (by omega) hr hs _ _ _ _ _ n0, z_bd_s, if_pos rfl]
    dsimp only
    rw [m_fr0 hT (by omega) hsl hss _ _ _ _ _ n1, z_bd_s, if_pos rfl]
    dsimp only
    rw [m_tw0 hT (by omega) hsl hss _ _ _ _ n2, z_bd_s, if_pos rfl]
    dsimp only
    rw [m_tw0 hT (by omega) hsl hss _ _ _ _ n4, z_bd_s, if_pos rfl]
    dsimp only
    rw [m_fr0 hT (by omega) hsl hss _ _ _ _ _ n5, z_bd_s, if_pos rfl]
    dsimp only
    rw [m_fr0 hT (by omega) hsl hss _ _ _ _ _ n6, z_bd_s, if_pos rfl]
    dsimp only [ps_reading]
    rw [m_wr1, z_let_e]
  have no : ∀ i j, i < 7 → j < 7 → i ≠ 3 → j ≠ 3 → i ≠ j → Wd t l i s → ¬ Wd t l j s := fun i j a b c d e f g => e (wd_x a b c d f g)
  have hen : ∀ i, i < 7 → i ≠ 3 → Wd t l i s → en t l s = s + strLen.getD i 0 ∧ s + strLen.getD i 0 ≤ l ∧ s < s + strLen.getD i 0 := fun i hi hi3 hw => by
    have e := wd_en hw hi hi3
    have e2 := en_b t hsl
    have e3 := d_l1 i hi
    omega
  rcases c_side hT hsl h1 h2 with ⟨q, hq, hw, eS⟩ | ⟨w0, w1, eS⟩
  · -- a side's skills
    obtain ⟨e1, e2, e3⟩ := hen q (by omega) (by omega) hw
    have hlen : strLen.getD q 0 = 1 := by
      have : q = 0 ∨ q = 1 := by omega
      rcases this with e | e <;> rw [e] <;> rfl
    rw [hlen] at e1 e2 e3
    have eK0 : Te_readLine FF te tx sh = z_let (Te_markTold te (wI ((2 ^ q : Nat) : Int))) (fun u23 : Int32 × Te => if u23.1 = 0 then (some (0, u23.2, sh)) else (z_bd (Te_readSkills FF u23.2 tx sh (wI (q : Nat))) (fun u25 : Int32 × Te × Sh => if u25.1 = 0 then (some (0, u25.2.1, u25.2.2)) else (some (1, u25.2.1, u25.2.2))))) := by
      unfold Te_readLine
      rw [eS, z_bd_s, if_neg (by rw [wI_0, wI_lt (by omega) (by omega) (by omega) (by omega)]; omega), d_s1 q (by omega)]
    rcases mk_ok (te := te) (i := q) hm (by omega) hh h3 with ⟨_, f2, f3⟩ | ⟨f1, f2, f3, f4, f5⟩
    · have hn2 := no q 2 (by omega) (by omega) (by omega) (by omega) (by omega) hw
      have hn4 := no q 4 (by omega) (by omega) (by omega) (by omega) (by omega) hw
      have hn5 := no q 5 (by omega) (by omega) (by omega) (by omega) (by omega) hw
      have hn6 := no q 6 (by omega) (by omega) (by omega) (by omega) (by omega) hw
      have hn01 : (¬ Wd t l 0 s ∨ ((hdv m h >>> ((0 : Int32) &&& 31)) &&& 1) = 1) ∧ (¬ Wd t l 1 s ∨ ((hdv m h >>> ((1 : Int32) &&& 31)) &&& 1) = 1) := by
        have : q = 0 ∨ q = 1 := by omega
        rcases this with e | e
        · subst e
          exact ⟨Or.inr f3, Or.inl (no 0 1 (by omega) (by omega) (by omega) (by omega) (by omega) hw)⟩
        · subst e
          exact ⟨Or.inl (no 1 0 (by omega) (by omega) (by omega) (by omega) (by omega) hw), Or.inr f3⟩
      refine none_ _ hn01.1 hn01.2 hn2 hn4 (Or.inl hn5) (Or.inl hn6) ?_
      rw [eK0, f2, z_let_e, if_pos rfl]
    · obtain ⟨m', hm'⟩ : ∃ m', m' = m + 2 ^ q := ⟨_, rfl⟩
      rw [← hm'] at f2 f4 f5
      obtain ⟨te2, hte2⟩ : ∃ te2 : Te, te2 = (te_counts te, te_start te, te_stop te, wI (m' : Nat)) := ⟨_, rfl⟩
      rw [← hte2] at f2
      have hadv2 := c_adv hT (te := te2) (e := s + 1) (by omega) (by rw [hte2]; show te_stop te = _; rw [h2, e1])
      obtain ⟨s2, hs2⟩ : ∃ s2, s2 = skp t l (s + 1) := ⟨_, rfl⟩
      have hb2 := skp_b t (show s + 1 ≤ l by omega)
      rw [← hs2] at hadv2 hb2
      have hmn := d_n3 m hm q (by omega)
      rw [← hm'] at hmn
      have hqq : q = 0 ∨ q = 1 := by omega
      have hcq : te_counts te q = wI ((0 : Nat) : Int) := by
        rcases hqq with e | e
        · subst e
          rw [h4, hm0 (by simpa using f1)]
        · subst e
          rw [h5, hm1 (by simpa using f1)]
      obtain ⟨cc, hcc, hcc5, hcc1, hcc2⟩ : ∃ cc : Nat, te_counts te (1 - q) = wI (cc : Nat) ∧ cc ≤ 5 ∧ tl (1 - q) = wI (cc : Nat) ∧ (m' / 2 ^ (1 - q) % 2 = 0 → cc = 0) := by
        rcases hmn with h | ⟨_, g2, g3, _⟩
        · omega
        · rcases hqq with e | e
          · subst e
            refine ⟨c1, h5, hc1, h7, fun h => hm1 ?_⟩
            rcases g3 with g | g
            · omega
            · have : m' / 2 ^ (1 - 0) % 2 = m' / 2 % 2 := by simp
              omega
          · subst e
            refine ⟨c0, h4, hc0, h6, fun h => hm0 ?_⟩
            rcases g2 with g | g
            · omega
            · have : m' / 2 ^ (1 - 1) % 2 = m' % 2 := by simp
              omega
      have hm8 : m' / 8 % 2 = 0 → h = 0 := fun h => hmh (by
        rcases hmn with g | ⟨g, _⟩
        · omega
        · rcases g with g | g
          · omega
          · omega)
      have hma : m' / 2 ^ q % 2 = 1 := by
        rcases hmn with g | ⟨_, _, _, g⟩
        · omega
        · exact g
      obtain ⟨KX, hKX⟩ : ∃ KX : Int32 → Te → Sh → Option (Int32 × Te × Sh), KX = fun x11 te12 sh13 => if x11 ≤ 0 then some (0, te12, sh13) else some (1, te12, sh13) := ⟨_, rfl⟩
      obtain ⟨KY, hKY⟩ : ∃ KY : Int32 → Ps → Option Ps, KY = fun x8 ps9 => z_gd (z_in (wI (q : Nat)) 2) (some ((ps_reading ps9), (ps_fault ps9), (ps_isGood ps9), (ps_draft ps9), (ps_had ps9), (upd (ps_tells ps9) (wI (q : Nat)).toNatClampNeg x8))) := ⟨_, rfl⟩
      have hrun := sk_run hT hq f5 hh hm8 hma hcc2 hcc5 fl tl hcc1 KX hKX KY hKY (s0 := s) 5 0 s2 (s + 1) FF FF (te_counts te2, wI (s2 : Nat), wI (en t l s2 : Nat), te_told te2) sh df S (by omega) (by decide) (by decide) (by omega) (by omega) hs2.symm rfl rfl (by rw [hte2]) (by rw [hte2]; exact hcq) (by rw [hte2]; exact hcc) hD (Or.inl rfl)
      have eR : Te_readSkills FF te2 tx sh (wI (q : Nat)) = Te_readSkills_L21 FF tx (wI (q : Nat)) KX FF (wI ((0 : Nat) : Int)) (te_counts te2, wI (s2 : Nat), wI (en t l s2 : Nat), te_told te2) sh := by
        unfold Te_readSkills
        rw [hadv2, z_bd_s, if_neg (by rw [wI_0, wI_lt (by omega) (by omega) (by omega) (by omega)]; omega), if_pos (by rw [wI_2, wI_lt (by omega) (by omega) (by omega) (by omega)]; omega), hKX]
        rfl
      have eM : M_readLine FF mt (wI (r : Nat), fl, 1, df, hdv m h, tl) = M_readSkills_L4 FF mt (wI (q : Nat)) KY FF (wI ((0 : Nat) : Int)) 1 (wI ((s + 1 : Nat) : Int), fl, 1, df, hdv m' h, tl) := by
        unfold M_readLine
        rcases hqq with e | e
        · subst e
          rw [m_fr1 hT (by omega) hr hs _ _ _ _ 0 hw f3, z_bd_s, if_neg (show ¬ (1 : Int32) = 0 by decide), bd_id]
          dsimp only
          rw [show (hdv m h ||| (1 <<< ((0 : Int32) &&& 31))) = hdv m' h from f4, hlen]
          unfold M_readSkills
          rw [hKY]
          rfl
        · subst e
          rw [m_fr0 hT (by omega) hr hs _ _ _ _ _ (Or.inl (no 1 0 (by omega) (by omega) (by omega) (by omega) (by omega) hw)), z_bd_s, if_pos rfl]
          dsimp only
          rw [m_fr1 hT (by omega) hsl hss _ _ _ _ 1 hw f3, z_bd_s, if_neg (show ¬ (1 : Int32) = 0 by decide), bd_id]
          dsimp only
          rw [show (hdv m h ||| (1 <<< ((1 : Int32) &&& 31))) = hdv m' h from f4, hlen]
          unfold M_readSkills
          rw [hKY]
          rfl
      rw [eM, eK0, f2, z_let_e, if_neg (show ¬ (1 : Int32) = 0 by decide), eR, (out_w hrun).1]
      exact hrun
  · have eK0 : Te_readLine FF te tx sh = z_bd (Te_isToken FF te tx 2) (fun r3 : Int32 => if r3 = 0 then (z_bd (Te_isToken FF te tx 4) (fun r5 : Int32 => if r5 = 0 then (z_bd (Te_isToken FF te tx 5) (fun r7 : Int32 => if r7 = 0 then (z_bd (Te_isToken FF te tx 6) (fun r9 : Int32 => if r9 = 0 then (some (0, te, sh)) else (z_let (Te_markTold te 8) (fun u11 : Int32 × Te => if u11.1 = 0 then (some (0, u11.2, sh)) else (z_bd (Te_readFirst FF u11.2 tx sh) (fun u13 : Int32 × Te × Sh => if u13.1 = 0 then (some (0, u13.2.1, u13.2.2)) else (some (1, u13.2.1, u13.2.2)))))))) else (z_let (Te_markTold te 4) (fun u15 : Int32 × Te => if u15.1 = 0 then (some (0, u15.2, sh)) else (z_bd (Te_readOrder FF u15.2 tx sh) (fun u17 : Int32 × Te × Sh => if u17.1 = 0 then (some (0, u17.2.1, u17.2.2)) else (some (1, u17.2.1, u17.2.2)))))))) else (z_bd (Te_readNerve FF te tx sh 1) (fun u19 : Int32 × Te × Sh => z_gd (z_b u19.1) (some (u19.1, u19.2.1, u19.2.2)))))) else (z_bd (Te_readNerve FF te tx sh 0) (fun u21 : Int32 × Te × Sh => z_gd (z_b u21.1) (some (u21.1, u21.2.1, u21.2.2))))) := by
      unfold Te_readLine
      rw [eS, z_bd_s, if_pos (by decide)]
    have eM0 : M_readLine FF mt (wI (r : Nat), fl, 1, df, hdv m h, tl) = z_bd (M_takesWord FF mt (wI (s : Nat), fl, 1, df, hdv m h, tl) 2) (fun u5 : Int32 × Ps => if u5.1 = 0 then (z_bd (M_takesWord FF mt u5.2 4) (fun u7 : Int32 × Ps => if u7.1 = 0 then (z_bd (M_isFresh FF mt u7.2 5 6) (fun u9 : Int32 × Ps => if u9.1 = 0 then (z_bd (M_isFresh FF mt u9.2 6 7) (fun u11 : Int32 × Ps => if u11.1 = 0 then (z_let (M_wrong u11.2 (ps_reading u11.2)) (fun u13 : Ps => some u13)) else (z_bd (M_sideTold FF mt u11.2 8) (fun u14 : Int32 × Ps => z_let u14.1 (fun x15 : Int32 => some ((ps_reading u14.2), (ps_fault u14.2), (ps_isGood u14.2), (upd (ps_draft u14.2) 2 x15), (ps_had u14.2), (ps_tells u14.2))))))) else (z_bd (M_digit FF mt u9.2 3) (fun u16 : Int32 × Ps => z_let u16.1 (fun x17 : Int32 => some ((ps_reading u16.2), (ps_fault u16.2), (ps_isGood u16.2), (upd (ps_draft u16.2) 1 x17), (ps_had u16.2), (ps_tells u16.2))))))) else (z_bd (M_readNerves FF mt u7.2 6 4) (fun u18 : Ps => some u18)))) else (z_bd (M_readNerves FF mt u5.2 4 2) (fun u19 : Ps => some u19))) := by
      unfold M_readLine
      rw [m_fr0 hT (by omega) hr hs _ _ _ _ _ (Or.inl w0), z_bd_s, if_pos rfl]
      dsimp only
      rw [m_fr0 hT (by omega) hsl hss _ _ _ _ _ (Or.inl w1), z_bd_s, if_pos rfl]
    by_cases w2 : Wd t l 2 s
    · obtain ⟨e1, e2, e3⟩ := hen 2 (by omega) (by omega) w2
      have hrn := rn hT (k := 0) (fl := fl) (h := h) (by omega) e2 e3 (by rw [h2, e1]) h3 h4 h5 h6 h7 hD hm hh hmh hm0 hm1 hc0 hc1
      rw [eK0, eM0, tok 2 (by omega) (by omega), z_bd_s, o01_t w2, if_neg (show ¬ wI 1 = 0 by decide), m_tw1 hT (by omega) hsl hss _ _ _ _ w2, z_bd_s, if_neg (show ¬ (1 : Int32) = 0 by decide), bd_id]
      rw [show Te_readNerve FF te tx sh 0 = Te_readNerve FF te tx sh (wI ((0 : Nat) : Int)) from rfl, (out_w hrn).2]
      exact hrn
    · by_cases w4 : Wd t l 4 s
      · obtain ⟨e1, e2, e3⟩ := hen 4 (by omega) (by omega) w4
        have hrn := rn hT (k := 1) (fl := fl) (h := h) (by omega) e2 e3 (by rw [h2, e1]) h3 h4 h5 h6 h7 hD hm hh hmh hm0 hm1 hc0 hc1
        rw [eK0, eM0, tok 2 (by omega) (by omega), z_bd_s, o01_f w2, if_pos (show wI 0 = 0 from rfl), tok 4 (by omega) (by omega), z_bd_s, o01_t w4, if_neg (show ¬ wI 1 = 0 by decide), m_tw0 hT (by omega) hsl hss _ _ _ _ w2, z_bd_s, if_pos rfl]
        dsimp only
        rw [m_tw1 hT (by omega) hsl hss _ _ _ _ w4, z_bd_s, if_neg (show ¬ (1 : Int32) = 0 by decide), bd_id]
        rw [show Te_readNerve FF te tx sh 1 = Te_readNerve FF te tx sh (wI ((1 : Nat) : Int)) from rfl, (out_w hrn).2]
        exact hrn
      · have eK1 : Te_readLine FF te tx sh = z_bd (Te_isToken FF te tx 5) (fun r7 : Int32 => if r7 = 0 then (z_bd (Te_isToken FF te tx 6) (fun r9 : Int32 => if r9 = 0 then (some (0, te, sh)) else (z_let (Te_markTold te 8) (fun u11 : Int32 × Te => if u11.1 = 0 then (some (0, u11.2, sh)) else (z_bd (Te_readFirst FF u11.2 tx sh) (fun u13 : Int32 × Te × Sh => if u13.1 = 0 then (some (0, u13.2.1, u13.2.2)) else (some (1, u13.2.1, u13.2.2)))))))) else (z_let (Te_markTold te 4) (fun u15 : Int32 × Te => if u15.1 = 0 then (some (0, u15.2, sh)) else (z_bd (Te_readOrder FF u15.2 tx sh) (fun u17 : Int32 × Te × Sh => if u17.1 = 0 then (some (0, u17.2.1, u17.2.2)) else (some (1, u17.2.1, u17.2.2))))))) := by
          rw [eK0, tok 2 (by omega) (by omega), z_bd_s, o01_f w2, if_pos (show wI 0 = 0 from rfl), tok 4 (by omega) (by omega), z_bd_s, o01_f w4, if_pos (show wI 0 = 0 from rfl)]
        have eM1 : M_readLine FF mt (wI (r : Nat), fl, 1, df, hdv m h, tl) = z_bd (M_isFresh FF mt (wI (s : Nat), fl, 1, df, hdv m h, tl) 5 6) (fun u9 : Int32 × Ps => if u9.1 = 0 then (z_bd (M_isFresh FF mt u9.2 6 7) (fun u11 : Int32 × Ps => if u11.1 = 0 then (z_let (M_wrong u11.2 (ps_reading u11.2)) (fun u13 : Ps => some u13)) else (z_bd (M_sideTold FF mt u11.2 8) (fun u14 : Int32 × Ps => z_let u14.1 (fun x15 : Int32 => some ((ps_reading u14.2), (ps_fault u14.2), (ps_isGood u14.2), (upd (ps_draft u14.2) 2 x15), (ps_had u14.2), (ps_tells u14.2))))))) else (z_bd (M_digit FF mt u9.2 3) (fun u16 : Int32 × Ps => z_let u16.1 (fun x17 : Int32 => some ((ps_reading u16.2), (ps_fault u16.2), (ps_isGood u16.2), (upd (ps_draft u16.2) 1 x17), (ps_had u16.2), (ps_tells u16.2)))))) := by
          rw [eM0, m_tw0 hT (by omega) hsl hss _ _ _ _ w2, z_bd_s, if_pos rfl]
          dsimp only
          rw [m_tw0 hT (by omega) hsl hss _ _ _ _ w4, z_bd_s, if_pos rfl]
        by_cases w5 : Wd t l 5 s
        · obtain ⟨e1, e2, e3⟩ := hen 5 (by omega) (by omega) w5
          have w6 := no 5 6 (by omega) (by omega) (by omega) (by omega) (by omega) w5
          rcases mk_ok (te := te) (i := 2) hm (by omega) hh h3 with ⟨_, f2, f3⟩ | ⟨f1, f2, f3, f4, f5⟩
          · refine none_ _ (Or.inl w0) (Or.inl w1) w2 w4 (Or.inr f3) (Or.inl w6) ?_
            rw [eK1, tok 5 (by omega) (by omega), z_bd_s, o01_t w5, if_neg (show ¬ wI 1 = 0 by decide), show (4 : Int32) = wI ((2 ^ 2 : Nat) : Int) from wI_4, f2, z_let_e, if_pos rfl]
          · have hmn := d_n3 m hm 2 (by omega)
            have hro := ro hT (te := (te_counts te, te_start te, te_stop te, wI ((m + 2 ^ 2 : Nat) : Int))) (m := m + 2 ^ 2) (h := h) (fl := fl) e2 e3 (by show te_stop te = _; rw [h2, e1]) rfl h4 h5 h6 h7 hD f5 hh (fun h => hmh (by omega)) (fun h => hm0 (by omega)) (fun h => hm1 (by omega)) hc0 hc1
            rw [eK1, eM1, tok 5 (by omega) (by omega), z_bd_s, o01_t w5, if_neg (show ¬ wI 1 = 0 by decide), show (4 : Int32) = wI ((2 ^ 2 : Nat) : Int) from wI_4, f2, z_let_e, if_neg (show ¬ (1 : Int32) = 0 by decide), m_fr1 hT (by omega) hsl hss _ _ _ _ 6 w5 f3, z_bd_s, if_neg (show ¬ (1 : Int32) = 0 by decide)]
            dsimp only
            rw [show (hdv m h ||| (1 <<< ((6 : Int32) &&& 31))) = hdv (m + 2 ^ 2) h from f4, (out_w hro).1]
            exact hro
        · by_cases w6 : Wd t l 6 s
          · obtain ⟨e1, e2, e3⟩ := hen 6 (by omega) (by omega) w6
            rcases mk_ok (te := te) (i := 3) hm (by omega) hh h3 with ⟨_, f2, f3⟩ | ⟨f1, f2, f3, f4, f5⟩
            · refine none_ _ (Or.inl w0) (Or.inl w1) w2 w4 (Or.inl w5) (Or.inr f3) ?_
              rw [eK1, tok 5 (by omega) (by omega), z_bd_s, o01_f w5, if_pos (show wI 0 = 0 from rfl), tok 6 (by omega) (by omega), z_bd_s, o01_t w6, if_neg (show ¬ wI 1 = 0 by decide), show (8 : Int32) = wI ((2 ^ 3 : Nat) : Int) from wI_8, f2, z_let_e, if_pos rfl]
            · have hmn := d_n3 m hm 3 (by omega)
              have h0 : h = 0 := hmh (by omega)
              subst h0
              have hrf := rf hT (te := (te_counts te, te_start te, te_stop te, wI ((m + 2 ^ 3 : Nat) : Int))) (m := m + 2 ^ 3) (fl := fl) e2 e3 (by show te_stop te = _; rw [h2, e1]) rfl h4 h5 h6 h7 hD f5 (by omega) (fun h => hm0 (by omega)) (fun h => hm1 (by omega)) hc0 hc1
              rw [eK1, eM1, tok 5 (by omega) (by omega), z_bd_s, o01_f w5, if_pos (show wI 0 = 0 from rfl), tok 6 (by omega) (by omega), z_bd_s, o01_t w6, if_neg (show ¬ wI 1 = 0 by decide), show Te_markTold te 8 = (1, (te_counts te, te_start te, te_stop te, wI ((m + 2 ^ 3 : Nat) : Int))) from f2, z_let_e, if_neg (show ¬ (1 : Int32) = 0 by decide), m_fr0 hT (by omega) hsl hss _ _ _ _ _ (Or.inl w5), z_bd_s, if_pos rfl]
              dsimp only
              rw [m_fr1 hT (by omega) hsl hss _ _ _ _ 7 w6 f3, z_bd_s, if_neg (show ¬ (1 : Int32) = 0 by decide)]
              dsimp only
              rw [show (hdv m 0 ||| (1 <<< ((7 : Int32) &&& 31))) = hdv (m + 2 ^ 3) 0 from f4, (out_w hrf).1]
              exact hrf
          · refine none_ _ (Or.inl w0) (Or.inl w1) w2 w4 (Or.inl w5) (Or.inl w6) ?_
            rw [eK1, tok 5 (by omega) (by omega), z_bd_s, o01_f w5, if_pos (show wI 0 = 0 from rfl), tok 6 (by omega) (by omega), z_bd_s, o01_f w6, if_pos (show wI 0 = 0 from rfl)]
end ZLO

/-! LINES, second half: nerves, order, first, any line -/
theorem d_xl : ∀ i, i < 7 → ∀ j, j < 7 → i = 3 ∨ j = 3 ∨ i = j ∨ strLen.getD i 0 ≠ strLen.getD j 0 ∨ cb i 0 ≠ cb j 0 := by decide +kernel
theorem d_l1 : ∀ i, i < 7 → 1 ≤ strLen.getD i 0 := by decide +kernel
theorem d_n1 : ∀ k, k < 2 → ∀ q, q < 2 → (16 <<< ((((if wI (k : Nat) = 0 then (0 : Int32) else 2) + wI (q : Nat)) &&& 31)) : Int32) = wI ((2 ^ (4 + 2 * k + q) : Nat) : Int) := by decide +kernel
theorem d_n2 : ∀ k, k < 2 → ∀ q, q < 2 → (wI ((2 + 2 * k : Nat) : Int) + wI (q : Nat)) = wI (rb (4 + 2 * k + q) : Nat) := by decide +kernel
theorem d_n3 : ∀ m, m < 256 → ∀ i, i < 8 → m / 2 ^ i % 2 = 1 ∨ ((i = 3 ∨ (m + 2 ^ i) / 8 % 2 = m / 8 % 2) ∧ (i = 0 ∨ (m + 2 ^ i) % 2 = m % 2) ∧ (i = 1 ∨ (m + 2 ^ i) / 2 % 2 = m / 2 % 2) ∧ (m + 2 ^ i) / 2 ^ i % 2 = 1) := by decide +kernel
section ZLM
variable {t : Nat → Nat} {l : Nat} {tx : Tx} {mt : Mt}
theorem wd_x {i j s : Nat} (hi : i < 7) (hj : j < 7) (hi3 : i ≠ 3) (hj3 : j ≠ 3) (h1 : Wd t l i s) (h2 : Wd t l j s) : i = j := by
  have e1 := h1.1
  have e2 := h2.1
  have f1 := h1.2 0 (d_l1 i hi)
  have f2 := h2.2 0 (d_l1 j hj)
  rcases d_xl i hi j hj with h | h | h | h | h
  · exact absurd h hi3
  · exact absurd h hj3
  · exact h
  · exact absurd (show strLen.getD i 0 = strLen.getD j 0 by omega) h
  · exact absurd (f1.symm.trans f2) h
theorem c_side (hT : iT t l tx mt) {te : Te} {s : Nat} (hs : s ≤ l) (h1 : te_start te = wI (s : Nat)) (h2 : te_stop te = wI (en t l s : Nat)) : (∃ q : Nat, q ≤ 1 ∧ Wd t l q s ∧ Te_sideOfToken FF te tx = some (wI (q : Nat))) ∨ (¬ Wd t l 0 s ∧ ¬ Wd t l 1 s ∧ Te_sideOfToken FF te tx = some (-1)) := by
  unfold Te_sideOfToken
  rw [c_tok hT (by omega) (by omega) hs h1 h2, z_bd_s, c_tok hT (by omega) (by omega) hs h1 h2]
  by_cases w0 : Wd t l 0 s
  · refine Or.inl ⟨0, by omega, w0, ?_⟩
    rw [o01_t w0, if_neg (show ¬ wI 1 = 0 by decide)]
    rfl
  · rw [o01_f w0, if_pos (show wI 0 = 0 from rfl), z_bd_s]
    by_cases w1 : Wd t l 1 s
    · refine Or.inl ⟨1, by omega, w1, ?_⟩
      rw [o01_t w1, if_neg (show ¬ wI 1 = 0 by decide)]
      rfl
    · refine Or.inr ⟨w0, w1, ?_⟩
      rw [o01_f w1, if_pos (show wI 0 = 0 from rfl)]
theorem m_side (hT : iT t l tx mt) {r s : Nat} (hr : r ≤ l) (hs : skp t l r = s) (fl : Int32) (df : Nat → Int32) (hd : Int32) (tl : Nat → Int32) (a2 : Int32) : (∀ q : Nat, q ≤ 1 → Wd t l q s → M_sideTold FF mt (wI (r : Nat), fl, 1, df, hd, tl) a2 = if (((hd >>> ((a2 + wI (q : Nat)) &&& 31)) &&& 1) = 1) then (some (0, (wI (s : Nat), wI (s : Nat), 0, df, hd, tl)) : Option (Int32 × Ps)) else (some (wI (q : Nat), (wI ((s + 1 : Nat) : Int), fl, 1, df, hd ||| (1 <<< ((a2 + wI (q : Nat)) &&& 31)), tl)) : Option (Int32 × Ps))) ∧ (¬ Wd t l 0 s → ¬ Wd t l 1 s → M_sideTold FF mt (wI (r : Nat), fl, 1, df, hd, tl) a2 = some (0, (wI (s : Nat), wI (s : Nat), 0, df, hd, tl))) := by
  have hsl : s ≤ l := by have := skp_b t hr; omega
  have hss := skp_s hr hs
  constructor
  · intro q hq hw
    unfold M_sideTold
    rw [m_isW hT (by omega) hr hs, z_bd_s, z_jn_e]
    have : q = 0 ∨ q = 1 := by omega
    rcases this with e | e
    · subst e
      rw [o01_t hw, if_neg (show ¬ wI 1 = 0 by decide)]
      dsimp only
      rw [z_jn_e, if_neg (show ¬ (0 : Int32) = -1 by decide), show (0 : Int32) = wI ((0 : Nat) : Int) from wI_0]
      split
      · dsimp only
        rw [m_wr1, z_let_e]
        rfl
      · rw [z_let_e, wI_1, wI_add, z_let_e]
        rfl
    · subst e
      rw [o01_f (fun h => absurd (wd_x (by omega) (by omega) (by omega) (by omega) h hw) (by omega)), if_pos (show wI 0 = 0 from rfl)]
      dsimp only
      rw [m_isW hT (by omega) hsl hss, z_bd_s, o01_t hw, if_neg (show ¬ wI 1 = 0 by decide)]
      dsimp only
      rw [z_jn_e, if_neg (show ¬ (1 : Int32) = -1 by decide)]
      split
      · rename_i h
        rw [if_pos (show ((hd >>> ((a2 + wI ((1 : Nat) : Int)) &&& 31)) &&& 1) = 1 from h)]
        dsimp only
        rw [m_wr1, z_let_e]
      · rename_i h
        rw [if_neg (show ¬ ((hd >>> ((a2 + wI ((1 : Nat) : Int)) &&& 31)) &&& 1) = 1 from h), z_let_e, z_let_e]
        show some ((1 : Int32), wI (s : Nat) + 1, _) = _
        rw [show wI (s : Nat) + 1 = wI ((s + 1 : Nat) : Int) by rw [wI_1, wI_add]; rfl]
        rfl
  · intro w0 w1
    unfold M_sideTold
    rw [m_isW hT (by omega) hr hs, z_bd_s, z_jn_e, o01_f w0, if_pos (show wI 0 = 0 from rfl)]
    dsimp only
    rw [m_isW hT (by omega) hsl hss, z_bd_s, o01_f w1, if_pos (show wI 0 = 0 from rfl)]
    dsimp only
    rw [z_jn_e, if_pos rfl]
    dsimp only
    rw [m_wr1, z_let_e]
theorem set_nv (sh : Sh) {k q : Nat} (hk : k ≤ 1) (hq : q ≤ 1) (v : Int32) : Sh_setNerve sh (wI (q : Nat)) (wI (k : Nat)) v = ((sh_shooters sh), (sh_order sh), (sh_first sh), (sh_kicks sh), (sh_goalBits sh), (sh_sideBits sh), (sh_goalsOfA sh), (sh_goalsOfB sh), (upd (sh_nerves sh) (2 * k + q) v), (sh_skills sh)) := by
  unfold Sh_setNerve
  rw [show (if wI (k : Nat) = 0 then (0 : Int32) else 2) = wI ((2 * k : Nat) : Int) by
    have : k = 0 ∨ k = 1 := by omega
    rcases this with h | h <;> rw [h] <;> decide, z_let_e, wI_add, z_let_e, if_neg (by rw [wI_0, wI_lt (by omega) (by omega) (by omega) (by omega)]; omega), if_neg (by rw [wI_4, wI_le (by omega) (by omega) (by omega) (by omega)]; omega), wI_nat (by omega) (by omega), show (((2 * k : Nat) : Int) + q).toNat = 2 * k + q by omega]
theorem mk_ok {m h i : Nat} {te : Te} (hm : m < 256) (hi : i < 8) (hh : h < 3) (ht : te_told te = wI (m : Nat)) : (m / 2 ^ i % 2 = 1 ∧ Te_markTold te (wI ((2 ^ i : Nat) : Int)) = (0, te) ∧ ((hdv m h >>> (wI (rb i : Nat) &&& 31)) &&& 1) = 1) ∨ (m / 2 ^ i % 2 = 0 ∧ Te_markTold te (wI ((2 ^ i : Nat) : Int)) = (1, (te_counts te, te_start te, te_stop te, wI ((m + 2 ^ i : Nat) : Int))) ∧ ¬ ((hdv m h >>> (wI (rb i : Nat) &&& 31)) &&& 1) = 1 ∧ (hdv m h ||| (1 <<< (wI (rb i : Nat) &&& 31))) = hdv (m + 2 ^ i) h ∧ m + 2 ^ i < 256) := by
  unfold Te_markTold
  rw [ht]
  have h1 := d_m1 m hm i hi
  have h2 := d_m2 m hm i hi
  have h3 := d_m3 m hm i hi
  have h4 := d_h1 m hm i hi h hh
  have h5 := d_h2 m hm i hi h hh
  by_cases q : m / 2 ^ i % 2 = 0
  · refine Or.inr ⟨q, ?_, fun h => ?_, ?_, ?_⟩
    · rw [if_pos (h1.mpr q), z_let_e]
      rcases h2 with h | h
      · omega
      · rw [h]
    · have := h4.mp h
      omega
    · rcases h5 with h | h
      · omega
      · exact h
    · rcases h3 with h | h
      · omega
      · exact h
  · have q' : m / 2 ^ i % 2 = 1 := by omega
    refine Or.inl ⟨q', ?_, h4.mpr q'⟩
    rw [if_neg (fun h => q (h1.mp h))]
theorem rn (hT : iT t l tx mt) {s0 e0 m h c0 c1 k : Nat} {S : St} {te : Te} {sh : Sh} {fl : Int32} {df tl : Nat → Int32} (hk : k ≤ 1) (he : e0 ≤ l) (hse : s0 < e0) (h2 : te_stop te = wI (e0 : Nat)) (h3 : te_told te = wI (m : Nat)) (h4 : te_counts te 0 = wI (c0 : Nat)) (h5 : te_counts te 1 = wI (c1 : Nat)) (h6 : tl 0 = wI (c0 : Nat)) (h7 : tl 1 = wI (c1 : Nat)) (hD : DD S sh df) (hm : m < 256) (hh : h < 3) (hmh : m / 8 % 2 = 0 → h = 0) (hm0 : m % 2 = 0 → c0 = 0) (hm1 : m / 2 % 2 = 0 → c1 = 0) (hc0 : c0 ≤ 5) (hc1 : c1 ≤ 5) : OUT t l s0 (Te_readNerve FF te tx sh (wI (k : Nat))) (M_readNerves FF mt (wI (e0 : Nat), fl, 1, df, hdv m h, tl) (wI ((4 + 2 * k : Nat) : Int)) (wI ((2 + 2 * k : Nat) : Int))) := by
  have hl := hT.1
  have hadv := c_adv hT he h2
  obtain ⟨s1, hs1⟩ : ∃ s1, s1 = skp t l e0 := ⟨_, rfl⟩
  have hb1 := skp_b t he
  rw [← hs1] at hadv hb1
  have hms := m_side hT he hs1.symm fl df (hdv m h) tl (wI ((2 + 2 * k : Nat) : Int))
  have bad : ∀ (f x : Nat) (te' : Te) (df' : Nat → Int32) (hd' : Int32), x ≤ 1 → f ≤ l → te_start te' = wI (f : Nat) → Te_readNerve FF te tx sh (wI (k : Nat)) = some (0, te', sh) → M_readNerves FF mt (wI (e0 : Nat), fl, 1, df, hdv m h, tl) (wI ((4 + 2 * k : Nat) : Int)) (wI ((2 + 2 * k : Nat) : Int)) = z_gd (z_in (wI ((4 + 2 * k : Nat) : Int) + wI (x : Nat)) 78) (some (wI (f : Nat), wI (f : Nat), 0, upd df' (wI ((4 + 2 * k : Nat) : Int) + wI (x : Nat)).toNatClampNeg (if (0 : Int32) = 0 then 0 else 0), hd', tl)) → OUT t l s0 (Te_readNerve FF te tx sh (wI (k : Nat))) (M_readNerves FF mt (wI (e0 : Nat), fl, 1, df, hdv m h, tl) (wI ((4 + 2 * k : Nat) : Int)) (wI ((2 + 2 * k : Nat) : Int))) := by
    intro f x te' df' hd' hx hf h1 eK eM
    rw [eK, eM, wI_add, z_gd_e (wI_in (by omega) (by omega) (by omega))]
    exact Or.inr (Or.inl ⟨f, te', sh, _, _, _, _, rfl, rfl, h1, hf⟩)
  have e00 : ∀ z : Nat, wI (z : Nat) + 0 = wI (z : Nat) := fun z => by rw [wI_0, wI_add, Int.add_zero]
  have badM : ∀ (f : Nat), M_sideTold FF mt (wI (e0 : Nat), fl, 1, df, hdv m h, tl) (wI ((2 + 2 * k : Nat) : Int)) = some (0, (wI (f : Nat), wI (f : Nat), 0, df, hdv m h, tl)) → M_readNerves FF mt (wI (e0 : Nat), fl, 1, df, hdv m h, tl) (wI ((4 + 2 * k : Nat) : Int)) (wI ((2 + 2 * k : Nat) : Int)) = z_gd (z_in (wI ((4 + 2 * k : Nat) : Int) + wI ((0 : Nat) : Int)) 78) (some (wI (f : Nat), wI (f : Nat), 0, upd df (wI ((4 + 2 * k : Nat) : Int) + wI ((0 : Nat) : Int)).toNatClampNeg (if (0 : Int32) = 0 then 0 else 0), hdv m h, tl)) := by
    intro f e
    unfold M_readNerves
    rw [e, z_bd_s, z_let_e]
    dsimp only
    rw [m_takes0, z_bd_s, z_let_e]
    dsimp only
    rw [m_dig0, z_bd_s, z_let_e, e00, if_pos rfl, z_let_e]
    rfl
  obtain ⟨te1, hte1⟩ : ∃ te1 : Te, te1 = (te_counts te, wI (s1 : Nat), wI (en t l s1 : Nat), te_told te) := ⟨_, rfl⟩
  rw [← hte1] at hadv
  have t1 : te_start te1 = wI (s1 : Nat) := by rw [hte1]
  have t2 : te_stop te1 = wI (en t l s1 : Nat) := by rw [hte1]
  have t3 : te_told te1 = wI (m : Nat) := by rw [hte1]; exact h3
  have t4 : te_counts te1 = te_counts te := by rw [hte1]
  rcases c_side hT hb1.2.1 t1 t2 with ⟨q, hq, hw, eS⟩ | ⟨w0, w1, eS⟩
  · have hmsq := hms.1 q hq hw
    rw [d_n2 k (by omega) q (by omega)] at hmsq
    have hw1 : en t l s1 = s1 + 1 := by
      rw [wd_en hw (by omega) (by omega)]
      have : q = 0 ∨ q = 1 := by omega
      rcases this with e | e <;> rw [e] <;> rfl
    have hs1l : s1 < l := by have := en_b t hb1.2.1; omega
    rcases mk_ok (te := te1) (i := 4 + 2 * k + q) hm (by omega) hh t3 with ⟨_, f2, f3⟩ | ⟨f1, f2, f3, f4, f5⟩
    · rw [if_pos f3] at hmsq
      refine bad s1 0 te1 df (hdv m h) (by omega) hb1.2.1 t1 ?_ (badM s1 hmsq)
      unfold Te_readNerve
      rw [hadv, z_bd_s, eS, z_bd_s, if_neg (by rw [wI_0, wI_lt (by omega) (by omega) (by omega) (by omega)]; omega), z_let_e, d_n1 k (by omega) q (by omega), f2, z_let_e, if_pos rfl]
    · rw [if_neg f3, f4] at hmsq
      obtain ⟨m', hm'⟩ : ∃ m', m' = m + 2 ^ (4 + 2 * k + q) := ⟨_, rfl⟩
      rw [← hm'] at hmsq f2 f5
      have hb8 : (m' / 8 % 2 = m / 8 % 2) ∧ (m' % 2 = m % 2) ∧ (m' / 2 % 2 = m / 2 % 2) := by
        rcases d_n3 m hm (4 + 2 * k + q) (by omega) with h | ⟨g1, g2, g3, _⟩
        · omega
        · rw [hm']
          refine ⟨?_, ?_, ?_⟩
          · rcases g1 with h | h
            · omega
            · exact h
          · rcases g2 with h | h
            · omega
            · exact h
          · rcases g3 with h | h
            · omega
            · exact h
      obtain ⟨te2, hte2⟩ : ∃ te2 : Te, te2 = (te_counts te1, te_start te1, te_stop te1, wI (m' : Nat)) := ⟨_, rfl⟩
      rw [← hte2] at f2
      have hadv2 := c_adv hT (te := te2) (e := s1 + 1) (by omega) (by rw [hte2]; show te_stop te1 = _; rw [t2, hw1])
      obtain ⟨s2, hs2⟩ : ∃ s2, s2 = skp t l (s1 + 1) := ⟨_, rfl⟩
      have hb2 := skp_b t (show s1 + 1 ≤ l by omega)
      rw [← hs2] at hadv2 hb2
      obtain ⟨te3, hte3⟩ : ∃ te3 : Te, te3 = (te_counts te2, wI (s2 : Nat), wI (en t l s2 : Nat), te_told te2) := ⟨_, rfl⟩
      rw [← hte3] at hadv2
      have u1 : te_start te3 = wI (s2 : Nat) := by rw [hte3]
      have u2 : te_stop te3 = wI (en t l s2 : Nat) := by rw [hte3]
      have u3 : te_told te3 = wI (m' : Nat) := by rw [hte3, hte2]
      have u4 : te_counts te3 = te_counts te := by rw [hte3, hte2]; exact t4
      have htok := c_tok1 hT (i0 := 3) (Or.inl rfl) hb2.2.1 u1 u2
      rw [show cb 3 0 = 45 by decide] at htok
      have htk := m_takes hT (c := 45) (by omega) (by omega) (show s1 + 1 ≤ l by omega) hs2.symm fl df (hdv m' h) tl
      rw [show wI ((45 : Nat) : Int) = 45 from wI_45.symm] at htk
      -- the rest after the sign
      have tail : ∀ (b s3 r3 : Nat) (te4 : Te) (r11 : Int32), b ≤ 1 → r11 = wI (b : Nat) → r3 ≤ l → skp t l r3 = s3 → s1 < s3 → te_start te4 = wI (s3 : Nat) → te_stop te4 = wI (en t l s3 : Nat) → te_told te4 = wI (m' : Nat) → te_counts te4 = te_counts te → M_takes FF mt (wI ((s1 + 1 : Nat) : Int), fl, 1, df, hdv m' h, tl) 45 = some (wI (b : Nat), (wI (r3 : Nat), fl, 1, df, hdv m' h, tl)) → Te_readNerve FF te tx sh (wI (k : Nat)) = z_let (Te_digitOfToken te4 tx 3) (fun x15 : Int32 => if 0 ≤ x15 then (z_let (if r11 = 0 then x15 else (-x15)) (fun v17 : Int32 => z_let (Sh_setNerve sh (wI (q : Nat)) (wI (k : Nat)) v17) (fun u21 : Sh => z_bd (Te_advance FF te4 tx) (fun u22 : Te => some (1, u22, u21))))) else (some (0, te4, sh))) → OUT t l s0 (Te_readNerve FF te tx sh (wI (k : Nat))) (M_readNerves FF mt (wI (e0 : Nat), fl, 1, df, hdv m h, tl) (wI ((4 + 2 * k : Nat) : Int)) (wI ((2 + 2 * k : Nat) : Int))) := by
        intro b s3 r3 te4 r11 hb hr11 hr3 hs3 hlt v1 v2 v3 v4 eT eK
        have hs3l : s3 ≤ l := by have := skp_b t hr3; omega
        have hcd := c_dig hT (a := 3) (by omega) hs3l v1 v2
        have hmd := m_dig hT (a := 3) (by omega) hr3 hs3 fl df (hdv m' h) tl
        rw [show wI ((3 : Nat) : Int) = 3 from wI_3.symm] at hcd hmd
        have ix : wI ((4 + 2 * k : Nat) : Int) + wI (q : Nat) = wI ((4 + (2 * k + q) : Nat) : Int) := by rw [wI_add]; exact wI_c (by omega)
        by_cases hd3 : DG t l 3 s3
        · rw [if_pos hd3] at hcd hmd
          obtain ⟨g1, g2, g3⟩ := hd3
          have hen : en t l s3 = s3 + 1 := dg_en (a := 3) (by omega) ⟨g1, g2, g3⟩
          obtain ⟨v, hv⟩ : ∃ v, v = t s3 - 48 := ⟨_, rfl⟩
          rw [← hv] at hcd hmd
          have hadv4 := c_adv hT (te := te4) (e := s3 + 1) (by omega) (by rw [v2, hen])
          obtain ⟨w, hw3, hwv⟩ : ∃ w : Int, (-3 ≤ w ∧ w ≤ 3) ∧ (if wI (b : Nat) = 0 then wI (v : Nat) else -wI (v : Nat)) = wI w := by
            have : b = 0 ∨ b = 1 := by omega
            rcases this with e | e
            · exact ⟨v, by omega, by rw [e, if_pos (show wI ((0 : Nat) : Int) = 0 from rfl)]⟩
            · exact ⟨-(v : Int), by omega, by rw [e, if_neg (show ¬ wI ((1 : Nat) : Int) = 0 by decide), wI_neg]⟩
          have hD' := DD_nerve hD (j := 2 * k + q) (by omega) hw3
          have hsb := skp_b t (show s3 + 1 ≤ l by omega)
          rw [eK]
          have eM : M_readNerves FF mt (wI (e0 : Nat), fl, 1, df, hdv m h, tl) (wI ((4 + 2 * k : Nat) : Int)) (wI ((2 + 2 * k : Nat) : Int)) = some (wI ((s3 + 1 : Nat) : Int), fl, 1, upd df (4 + (2 * k + q)) (wI w), hdv m' h, tl) := by
            unfold M_readNerves
            rw [hmsq, z_bd_s, z_let_e]
            dsimp only
            rw [eT, z_bd_s, z_let_e]
            dsimp only
            rw [hmd, z_bd_s, z_let_e, hwv, z_let_e, ix, z_gd_e (wI_in (by omega) (by omega) (by omega)), wI_ix (by omega)]
          rw [eM]
          refine Or.inl ⟨skp t l (s3 + 1), m', h, c0, c1, _, (te_counts te4, wI (skp t l (s3 + 1) : Nat), wI (en t l (skp t l (s3 + 1)) : Nat), te_told te4), _, _, ?_, rfl, ⟨s3 + 1, fl, _, tl, rfl, by omega, rfl, rfl, rfl, v3, by show te_counts te4 0 = _; rw [v4]; exact h4, by show te_counts te4 1 = _; rw [v4]; exact h5, h6, h7, hD', f5, hh, fun h => hmh (by omega), fun h => hm0 (by omega), fun h => hm1 (by omega), hc0, hc1⟩, by omega⟩
          rw [hcd, z_let_e, if_pos (by rw [wI_0, wI_le (by omega) (by omega) (by omega) (by omega)]; omega), hr11, hwv, z_let_e, set_nv sh hk hq, z_let_e, hadv4, z_bd_s]
        · rw [if_neg hd3] at hcd hmd
          refine bad s3 q te4 df (hdv m' h) hq hs3l v1 ?_ ?_
          · rw [eK, hcd, z_let_e, if_neg (by decide)]
          · unfold M_readNerves
            rw [hmsq, z_bd_s, z_let_e]
            dsimp only
            rw [eT, z_bd_s, z_let_e]
            dsimp only
            rw [hmd, z_bd_s, z_let_e, show (if wI (b : Nat) = 0 then (0 : Int32) else -0) = (if (0 : Int32) = 0 then 0 else 0) by split <;> rfl, z_let_e]
      by_cases q45 : s2 < l ∧ t s2 = 45
      · rw [o01_t q45] at htok
        rw [if_pos q45] at htk
        have hen : en t l s2 = s2 + 1 := en_1 t q45.1 (by omega)
        have hadv3 := c_adv hT (te := te3) (e := s2 + 1) (by omega) (by rw [u2, hen])
        have hsb := skp_b t (show s2 + 1 ≤ l by omega)
        refine tail 1 (skp t l (s2 + 1)) (s2 + 1) (te_counts te3, wI (skp t l (s2 + 1) : Nat), wI (en t l (skp t l (s2 + 1)) : Nat), te_told te3) (wI 1) (by omega) rfl (by omega) rfl (by omega) rfl rfl u3 u4 htk ?_
        unfold Te_readNerve
        rw [hadv, z_bd_s, eS, z_bd_s, if_neg (by rw [wI_0, wI_lt (by omega) (by omega) (by omega) (by omega)]; omega), z_let_e, d_n1 k (by omega) q (by omega), f2, z_let_e, if_neg (show ¬ (1 : Int32) = 0 by decide), hadv2, z_bd_s, htok, z_bd_s, z_jn_e, if_neg (show ¬ wI 1 = 0 by decide), hadv3, z_bd_s]
      · rw [o01_f q45] at htok
        rw [if_neg q45] at htk
        refine tail 0 s2 s2 te3 (wI 0) (by omega) rfl hb2.2.1 (skp_s (show s1 + 1 ≤ l by omega) hs2.symm) (by omega) u1 u2 u3 u4 htk ?_
        unfold Te_readNerve
        rw [hadv, z_bd_s, eS, z_bd_s, if_neg (by rw [wI_0, wI_lt (by omega) (by omega) (by omega) (by omega)]; omega), z_let_e, d_n1 k (by omega) q (by omega), f2, z_let_e, if_neg (show ¬ (1 : Int32) = 0 by decide), hadv2, z_bd_s, htok, z_bd_s, z_jn_e, if_pos (show wI 0 = 0 from rfl)]
  · refine bad s1 0 te1 df (hdv m h) (by omega) hb1.2.1 t1 ?_ (badM s1 (hms.2 w0 w1))
    unfold Te_readNerve
    rw [hadv, z_bd_s, eS, z_bd_s, if_pos (by decide)]
end ZLM

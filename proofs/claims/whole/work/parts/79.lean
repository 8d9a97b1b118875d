/-! WAYS OF THE CLASS: all kicks -/
def cQ (S : St) (gr : Nat) (V : Ob → Ac → Int64) (k : Nat) (lo hi : Int) (g0 : Nat) (d0 : Int) (fc : Fc) : Prop := fc_grow fc = wI gr ∧ fc_last fc = wI ((2 * sn S : Nat) : Int) ∧ (∀ c, c < 132 → fc_ways fc c ≠ 0 → gd S gr k (cG c) (cD c) (cL c) ∧ lo ≤ cD c ∧ cD c ≤ hi ∧ (g0 < cG c ∨ (cG c = g0 ∧ d0 ≤ cD c))) ∧ (∀ c, c < 132 → fc_waysBehind fc c ≠ 0 → gd S gr (k + 1) (cG c) (cD c) (cL c) ∧ lo - 1 ≤ cD c ∧ cD c ≤ hi + 1) ∧ (∀ f a, obS S gr f a → acF a fc + fB S gr f k (fc_ways fc) + fB S gr f (k + 1) (fc_waysBehind fc) = V f a)
section ZRN
variable {S : St} {sh : Sh} {fc : Fc} {gr : Nat} {V : Ob → Ac → Int64} {k : Nat} {lo hi : Int} {g0 : Nat} {d0 : Int}
theorem c_two (hS : okS S) (hC : CS S sh) (hgr : gr ≤ 1) (hk : k < 2 * sn S) (hg : g0 ≤ 5) (h1 : -5 ≤ d0) (h2 : d0 ≤ 5) (hlo : lo ≤ d0) (hhi : d0 ≤ hi) (hQ : cQ S gr V k lo hi g0 d0 fc) : cQ S gr V k lo hi g0 (d0 + 1) (Fc_leave (Fc_leave fc sh (wI k) (wI g0) (wI d0) 0) sh (wI k) (wI g0) (wI d0) 1) := by
  obtain ⟨q1, q2, q3, q4, q5⟩ := hQ
  have hb0 := cI_b (l := 0) hg h1 h2 (by omega)
  have hb1 := cI_b (l := 1) hg h1 h2 (by omega)
  have hne : cI g0 d0 1 ≠ cI g0 d0 0 := by unfold cI; omega
  obtain ⟨f1, e1, g1, l1, w1, o1, p1⟩ := c_leave (l := 0) hS hC hgr q1 q2 hk hg h1 h2 (by omega) (fun h => by
    have := (q3 _ hb0.1 h).1
    rw [hb0.2.1, hb0.2.2.1, hb0.2.2.2] at this
    exact this)
  obtain ⟨f2, e2, g2, l2, w2, o2, p2⟩ := c_leave (fc := f1) (l := 1) hS hC hgr g1 l1 hk hg h1 h2 (by omega) (fun h => by
    rw [w1, if_neg hne] at h
    have := (q3 _ hb1.1 h).1
    rw [hb1.2.1, hb1.2.2.1, hb1.2.2.2] at this
    exact this)
  have ee : Fc_leave (Fc_leave fc sh (wI k) (wI g0) (wI d0) 0) sh (wI k) (wI g0) (wI d0) 1 = f2 := by
    have e1' : Fc_leave fc sh (wI k) (wI g0) (wI d0) 0 = f1 := e1
    rw [e1']
    exact e2
  rw [ee]
  refine ⟨g2, l2, fun c hc h => ?_, fun c hc h => ?_, fun f a hob => (o2 f a hob).trans ((o1 f a hob).trans (q5 f a hob))⟩
  · rw [w2] at h
    by_cases n1 : c = cI g0 d0 1
    · rw [if_pos n1] at h; exact absurd rfl h
    · rw [if_neg n1, w1] at h
      by_cases n0 : c = cI g0 d0 0
      · rw [if_pos n0] at h; exact absurd rfl h
      · rw [if_neg n0] at h
        obtain ⟨a1, a2, a3, a4⟩ := q3 c hc h
        refine ⟨a1, a2, a3, ?_⟩
        rcases a4 with a4 | a4
        · exact Or.inl a4
        · refine Or.inr ⟨a4.1, ?_⟩
          have he := cI_e hc
          have : cD c ≠ d0 := fun hd => by
            have h5 := he.1
            rw [a4.1, hd] at h5
            have hl : cL c = 0 ∨ cL c = 1 := by omega
            rcases hl with hl | hl
            · rw [hl] at h5; exact n0 h5
            · rw [hl] at h5; exact n1 h5
          omega
  · rcases p2 c hc h with h' | h'
    · rcases p1 c hc h' with h'' | h''
      · exact q4 c hc h''
      · exact ⟨h''.1, by omega, by omega⟩
    · exact ⟨h'.1, by omega, by omega⟩
theorem c_dl (hS : okS S) (hC : CS S sh) (hgr : gr ≤ 1) (hk : k < 2 * sn S) (hg : g0 ≤ 5) (h1 : -5 ≤ lo) (h2 : hi ≤ 5) (h3 : lo ≤ hi) (hQ : cQ S gr V k lo hi g0 lo fc) (kx : Fc → Option Fc) {n : Nat} (hn : 20 ≤ n) : ∃ fc', Fc_run_L123 sh (wI k) (wI hi) (wI g0) kx n (wI lo) fc = kx fc' ∧ cQ S gr V k lo hi g0 (hi + 1) fc' := by
  obtain ⟨s', e, h⟩ := lpx (fun i : Nat => wI (lo + i)) (fun n x (s : Fc) => Fc_run_L123 sh (wI k) (wI hi) (wI g0) kx n x s) kx (hi + 1 - lo).toNat (fun i s => cQ S gr V k lo hi g0 (lo + i) s)
    (fun n i s hi' hp => by
      have h5 := c_two hS hC hgr hk hg (show -5 ≤ lo + (i : Int) by omega) (by omega) (by omega) (by omega) hp
      refine ⟨_, ?_, by rw [show lo + ((i + 1 : Nat) : Int) = lo + i + 1 by omega]; exact h5⟩
      simp only [Fc_run_L123, z_let_e]
      rw [if_neg (by rw [wI_lt (by omega) (by omega) (by omega) (by omega)]; omega), wI_1, wI_add, show lo + (i : Int) + 1 = lo + ((i + 1 : Nat) : Int) by omega])
    (fun n s _ => by
      simp only [Fc_run_L123]
      exact if_pos (by rw [wI_lt (by omega) (by omega) (by omega) (by omega)]; omega)) (hi + 1 - lo).toNat 0 n fc (by omega) (by omega) (by rw [show lo + ((0 : Nat) : Int) = lo by omega]; exact hQ)
  refine ⟨s', ?_, by rw [show hi + 1 = lo + ((hi + 1 - lo).toNat : Int) by omega]; exact h⟩
  rw [← e, show lo + ((0 : Nat) : Int) = lo by omega]
theorem c_gl (hS : okS S) (hC : CS S sh) (hgr : gr ≤ 1) (hk : k < 2 * sn S) (h1 : -5 ≤ lo) (h2 : hi ≤ 5) (h3 : lo ≤ hi) (hQ : cQ S gr V k lo hi 0 lo fc) (kx : Fc → Option Fc) {F n : Nat} (hF : 20 ≤ F) (hn : 20 ≤ n) : ∃ fc', Fc_run_L107 F sh (wI (sn S)) (wI k) (wI lo) (wI hi) kx n 0 fc = kx fc' ∧ fc_grow fc' = wI gr ∧ fc_last fc' = wI ((2 * sn S : Nat) : Int) ∧ (∀ c, c < 132 → fc_ways fc' c = 0) ∧ (∀ c, c < 132 → fc_waysBehind fc' c ≠ 0 → gd S gr (k + 1) (cG c) (cD c) (cL c) ∧ lo - 1 ≤ cD c ∧ cD c ≤ hi + 1) ∧ (∀ f a, obS S gr f a → acF a fc' + fB S gr f k (fc_ways fc') + fB S gr f (k + 1) (fc_waysBehind fc') = V f a) := by
  have hn5 := hS.2.1
  obtain ⟨N, hN⟩ : ∃ N : Nat, (gr = 0 ∧ N = 1) ∨ (gr = 1 ∧ N = sn S + 1) := by
    have : gr = 0 ∨ gr = 1 := by omega
    rcases this with h | h
    · exact ⟨1, Or.inl ⟨h, rfl⟩⟩
    · exact ⟨_, Or.inr ⟨h, rfl⟩⟩
  have hgn : wI (gr : Int) * wI (sn S : Int) = wI ((N : Int) - 1) := by
    rw [wI_mul]
    rcases hN with h | h
    · rw [h.1, h.2]; exact wI_c (by omega)
    · rw [h.1, h.2]; exact wI_c (by omega)
  obtain ⟨s', e, h⟩ := lp0 (fun n x (s : Fc) => Fc_run_L107 F sh (wI (sn S)) (wI k) (wI lo) (wI hi) kx n x s) kx N (fun i s => cQ S gr V k lo hi i lo s)
    (fun n i s hi' hp => by
      obtain ⟨fc', e, h⟩ := c_dl hS hC hgr hk (show i ≤ 5 by omega) h1 h2 h3 hp (fun fc32 => z_let (wI (i : Int) + 1) (fun x37 : Int32 => Fc_run_L107 F sh (wI (sn S)) (wI k) (wI lo) (wI hi) kx n x37 fc32)) hF
      refine ⟨fc', ?_, h.1, h.2.1, fun c hc hw => ?_, h.2.2.2⟩
      · simp only [Fc_run_L107]
        rw [hp.1, hgn, if_neg (by rw [wI_lt (by omega) (by omega) (by omega) (by omega)]; omega)]
        refine e.trans ?_
        show z_let _ _ = _
        rw [z_let_e, wI_1, wI_add]
        rfl
      · obtain ⟨a1, a2, a3, a4⟩ := h.2.2.1 c hc hw
        exact ⟨a1, a2, a3, by omega⟩)
    (fun n s hp => by
      simp only [Fc_run_L107]
      rw [hp.1, hgn]
      exact if_pos (by rw [wI_lt (by omega) (by omega) (by omega) (by omega)]; omega)) (n := n) (s := fc) (by omega) hQ
  refine ⟨s', e, h.1, h.2.1, fun c hc => ?_, h.2.2.2.1, h.2.2.2.2⟩
  refine Classical.byContradiction (fun hw => ?_)
  obtain ⟨a1, a2, a3, a4⟩ := h.2.2.1 c hc hw
  obtain ⟨b1, b2, b3, b4⟩ := a1
  have he := cI_e hc
  rcases hN with h | h
  · have := b3 h.1
    omega
  · have := b4 h.1
    omega
theorem fB_0 {w : Nat → Int64} (h : ∀ c, c < 132 → w c = 0) (f : Ob) : fB S gr f k w = 0 := by
  unfold fB
  exact sj_zero _ (fun c hc => by rw [h c hc, Int64.zero_mul])
theorem c_kl (hS : okS S) (hC : CS S sh) (hgr : gr ≤ 1) {kf : Nat} {d : Int} (hkf : kf < 2 * sn S) (hd1 : -(sn S : Int) ≤ d) (hd2 : d ≤ sn S) {F n : Nat} (hF : 20 ≤ F) (hn : 20 ≤ n) (hG : fc_grow fc = wI gr) (hL : fc_last fc = wI ((2 * sn S : Nat) : Int)) (hw : ∀ c, c < 132 → fc_ways fc c ≠ 0 → gd S gr kf (cG c) (cD c) (cL c) ∧ cD c = d) (hbh : ∀ c, c < 132 → fc_waysBehind fc c = 0) : ∃ fc', Fc_run_L66 F sh (wI kf) (wI d) (wI (sn S)) n (wI kf) fc = some fc' ∧ fc_last fc' = wI ((2 * sn S : Nat) : Int) ∧ (∀ c, c < 132 → fc_ways fc' c = 0) ∧ (∀ c, c < 132 → fc_waysBehind fc' c = 0) ∧ (∀ f a, obS S gr f a → acF a fc' = acF a fc + fB S gr f kf (fc_ways fc)) := by
  have hn5 := hS.2.1
  obtain ⟨s', e, h⟩ := lpx (fun i : Nat => wI ((kf + i : Nat) : Int)) (fun n x (s : Fc) => Fc_run_L66 F sh (wI kf) (wI d) (wI (sn S)) n x s) (fun s => some s) (2 * sn S - kf) (fun i s => fc_grow s = wI gr ∧ fc_last s = wI ((2 * sn S : Nat) : Int) ∧ (∀ c, c < 132 → fc_ways s c ≠ 0 → gd S gr (kf + i) (cG c) (cD c) (cL c) ∧ d - i ≤ cD c ∧ cD c ≤ d + i) ∧ (∀ c, c < 132 → fc_waysBehind s c = 0) ∧ (∀ f a, obS S gr f a → acF a s + fB S gr f (kf + i) (fc_ways s) = acF a fc + fB S gr f kf (fc_ways fc)))
    (fun n i s hi' hp => by
      obtain ⟨p1, p2, p3, p4, p5⟩ := hp
      obtain ⟨lo, hlo⟩ : ∃ lo : Int, lo = if -(sn S : Int) < d - i then d - i else -(sn S : Int) := ⟨_, rfl⟩
      obtain ⟨hi, hhi⟩ : ∃ hi : Int, hi = if d + i < (sn S : Int) then d + i else (sn S : Int) := ⟨_, rfl⟩
      have hlo2 : -5 ≤ lo ∧ lo ≤ d ∧ (∀ x : Int, -(sn S : Int) ≤ x → d - i ≤ x → lo ≤ x) ∧ d - i ≤ lo := by
        rw [hlo]
        split
        · exact ⟨by omega, by omega, fun x _ _ => by omega, by omega⟩
        · exact ⟨by omega, by omega, fun x _ _ => by omega, by omega⟩
      have hhi2 : hi ≤ 5 ∧ d ≤ hi ∧ (∀ x : Int, x ≤ (sn S : Int) → x ≤ d + i → x ≤ hi) ∧ hi ≤ d + i := by
        rw [hhi]
        split
        · exact ⟨by omega, by omega, fun x _ _ => by omega, by omega⟩
        · exact ⟨by omega, by omega, fun x _ _ => by omega, by omega⟩
      obtain ⟨fc', e, r1, r2, r3, r4, r5⟩ := c_gl (V := fun f a => acF a fc + fB S gr f kf (fc_ways fc)) (k := kf + i) (lo := lo) (hi := hi) hS hC hgr (by omega) hlo2.1 hhi2.1 (by omega) (fc := s)
        ⟨p1, p2, fun c hc hw => by
          obtain ⟨a1, a2, a3⟩ := p3 c hc hw
          have h5 := gd_5 hS a1
          have h6 := hlo2.2.2.1 (cD c) h5.1 a2
          exact ⟨a1, h6, hhi2.2.2.1 (cD c) h5.2 a3, by omega⟩,
         fun c hc hw => absurd (p4 c hc) hw,
         fun f a hob => by rw [fB_0 p4, Int64.add_zero]; exact p5 f a hob⟩
        (fun fc24 => z_let (wI ((kf + i : Nat) : Int) + 1) (fun x38 : Int32 => Fc_run_L66 F sh (wI kf) (wI d) (wI (sn S)) n x38 ((fc_endWays fc24), (fc_scoreWays fc24), (fc_waysBehind fc24), (fc_ways fc24), (fc_grow fc24), (fc_last fc24), (fc_wonByA fc24), (fc_wonByB fc24), (fc_level fc24), (fc_endlessA fc24), (fc_endlessB fc24), (fc_endless fc24), (fc_winsOfA fc24), (fc_winsOfB fc24), (fc_whole fc24)))) hF hF
      refine ⟨((fc_endWays fc'), (fc_scoreWays fc'), (fc_waysBehind fc'), (fc_ways fc'), (fc_grow fc'), (fc_last fc'), (fc_wonByA fc'), (fc_wonByB fc'), (fc_level fc'), (fc_endlessA fc'), (fc_endlessB fc'), (fc_endless fc'), (fc_winsOfA fc'), (fc_winsOfB fc'), (fc_whole fc')), ?_, r1, r2, fun c hc hw => ?_, r3, fun f a hob => ?_⟩
      · have el : (if (-(wI (sn S : Int))) < (wI d - (wI ((kf + i : Nat) : Int) - wI kf)) then (wI d - (wI ((kf + i : Nat) : Int) - wI kf)) else (-(wI (sn S : Int)))) = wI lo := by
          rw [wI_neg, wI_sub, wI_sub, hlo]
          simp (disch := omega) only [wI_lt]
          rw [show d - (((kf + i : Nat) : Int) - kf) = d - i by omega]
          split <;> rfl
        have eh : (if (wI d + (wI ((kf + i : Nat) : Int) - wI kf)) < wI (sn S : Int) then (wI d + (wI ((kf + i : Nat) : Int) - wI kf)) else wI (sn S : Int)) = wI hi := by
          rw [wI_sub, wI_add, hhi]
          simp (disch := omega) only [wI_lt]
          rw [show d + (((kf + i : Nat) : Int) - kf) = d + i by omega]
          split <;> rfl
        simp only [Fc_run_L66]
        rw [p2, if_neg (by rw [wI_le (by omega) (by omega) (by omega) (by omega)]; omega), z_let_e, el, z_let_e, eh]
        refine e.trans ?_
        show z_let _ _ = _
        rw [z_let_e, wI_1, wI_add]
        rfl
      · obtain ⟨a1, a2, a3⟩ := r4 c hc hw
        exact ⟨a1, by omega, by omega⟩
      · have := r5 f a hob
        rw [fB_0 r3, Int64.add_zero] at this
        exact this)
    (fun n s hp => by
      simp only [Fc_run_L66]
      rw [hp.2.1]
      exact if_pos (by rw [wI_le (by omega) (by omega) (by omega) (by omega)]; omega)) (2 * sn S - kf) 0 n fc (by omega) (by omega)
    ⟨hG, hL, fun c hc h => by
      obtain ⟨a1, a2⟩ := hw c hc h
      exact ⟨a1, by omega, by omega⟩, hbh, fun f a _ => rfl⟩
  have hz : ∀ c, c < 132 → fc_ways s' c = 0 := fun c hc => Classical.byContradiction (fun hn => by
    have := (h.2.2.1 c hc hn).1.1
    omega)
  refine ⟨s', e, h.2.1, hz, h.2.2.2.1, fun f a hob => ?_⟩
  have := h.2.2.2.2 f a hob
  rw [fB_0 hz, Int64.add_zero] at this
  exact this
/-! it is cleared -/
theorem c_clear {F : Nat} (hF : 40 ≤ F) (fc : Fc) (hgr : gr ≤ 1) (hG : fc_grow fc = wI gr) : ∃ fc', Fc_clear F fc = some fc' ∧ fc_ways fc' = fc_ways fc ∧ fc_waysBehind fc' = fc_waysBehind fc ∧ fc_grow fc' = fc_grow fc ∧ fc_last fc' = fc_last fc ∧ fc_wonByA fc' = 0 ∧ fc_wonByB fc' = 0 ∧ fc_level fc' = 0 ∧ (∀ t, t < 11 → fc_endWays fc' t = 0) ∧ (gr = 1 → ∀ t, t < 36 → fc_scoreWays fc' t = 0) := by
  obtain ⟨s1, e1, p1⟩ := lp0 (fun n x (s : Fc) => Fc_clear_L17 (fun fc7 => Fc_clear_L41 F 0 fc7) n x s) (fun fc7 => Fc_clear_L41 F 0 fc7) 11 (fun i s => fc_ways s = fc_ways fc ∧ fc_waysBehind s = fc_waysBehind fc ∧ fc_grow s = fc_grow fc ∧ fc_last s = fc_last fc ∧ fc_wonByA s = 0 ∧ fc_wonByB s = 0 ∧ fc_level s = 0 ∧ (∀ t, t < i → fc_endWays s t = 0))
    (fun n i s hi hp => by
      obtain ⟨q1, q2, q3, q4, q5, q6, q7, q8⟩ := hp
      refine ⟨((vp_updL (fc_endWays s) i 0), (fc_scoreWays s), (fc_ways s), (fc_waysBehind s), (fc_grow s), (fc_last s), (fc_wonByA s), (fc_wonByB s), (fc_level s), (fc_endlessA s), (fc_endlessB s), (fc_endless s), (fc_winsOfA s), (fc_winsOfB s), (fc_whole s)), ?_, q1, q2, q3, q4, q5, q6, q7, fun t ht => ?_⟩
      · simp only [Fc_clear_L17, wI_0, wI_1, wI_2, wI_3, wI_4, wI_5, wI_6, wI_8, wI_9, wI_10, wI_11, wI_18, wI_20, wI_24, wI_36, wI_60, wI_78, wI_add, wI_sub, wI_mul, wI_neg]
        simp (disch := omega) only [wI_le, wI_in, wI_nat, z_gd_t, z_let_e, Int.toNat_natCast]
        rw [if_neg (by omega)]
        rfl
      · show vp_updL (fc_endWays s) i 0 t = _
        rcases Nat.lt_or_ge t i with h | h
        · rw [updL_n (by omega)]; exact q8 t h
        · have : t = i := by omega
          rw [this, updL_s])
    (fun n s _ => by simp only [Fc_clear_L17]; exact if_pos (by decide)) (n := F) (s := ((fc_endWays fc), (fc_scoreWays fc), (fc_ways fc), (fc_waysBehind fc), (fc_grow fc), (fc_last fc), 0, 0, 0, (fc_endlessA fc), (fc_endlessB fc), (fc_endless fc), (fc_winsOfA fc), (fc_winsOfB fc), (fc_whole fc))) (by omega) ⟨rfl, rfl, rfl, rfl, rfl, rfl, rfl, fun t h => absurd h (Nat.not_lt_zero t)⟩
  by_cases hg : gr = 0
  · refine ⟨s1, (show _ = _ from e1).trans ?_, p1.1, p1.2.1, p1.2.2.1, p1.2.2.2.1, p1.2.2.2.2.1, p1.2.2.2.2.2.1, p1.2.2.2.2.2.2.1, p1.2.2.2.2.2.2.2, fun h => by omega⟩
    obtain ⟨F, rfl⟩ : ∃ n, F = n + 1 := ⟨F - 1, by omega⟩
    simp only [Fc_clear_L41]
    rw [if_neg (by decide), p1.2.2.1, hG, hg]
    exact if_pos (by decide)
  · have hg1 : gr = 1 := by omega
    obtain ⟨s2, e2, p2⟩ := lp0 (fun n x (s : Fc) => Fc_clear_L41 n x s) (fun s => some s) 36 (fun i s => fc_ways s = fc_ways fc ∧ fc_waysBehind s = fc_waysBehind fc ∧ fc_grow s = fc_grow fc ∧ fc_last s = fc_last fc ∧ fc_wonByA s = 0 ∧ fc_wonByB s = 0 ∧ fc_level s = 0 ∧ (∀ t, t < 11 → fc_endWays s t = 0) ∧ (∀ t, t < i → fc_scoreWays s t = 0))
      (fun n i s hi hp => by
        obtain ⟨q1, q2, q3, q4, q5, q6, q7, q8, q9⟩ := hp
        refine ⟨((fc_endWays s), (vp_updL (fc_scoreWays s) i 0), (fc_ways s), (fc_waysBehind s), (fc_grow s), (fc_last s), (fc_wonByA s), (fc_wonByB s), (fc_level s), (fc_endlessA s), (fc_endlessB s), (fc_endless s), (fc_winsOfA s), (fc_winsOfB s), (fc_whole s)), ?_, q1, q2, q3, q4, q5, q6, q7, q8, fun t ht => ?_⟩
        · simp only [Fc_clear_L41, q3, hG, hg1, wI_0, wI_1, wI_2, wI_3, wI_4, wI_5, wI_6, wI_8, wI_9, wI_10, wI_11, wI_18, wI_20, wI_24, wI_36, wI_60, wI_78, wI_add, wI_sub, wI_mul, wI_neg]
          simp (disch := omega) only [wI_le, wI_in, wI_nat, z_gd_t, z_let_e, Int.toNat_natCast]
          rw [if_neg (by omega), if_neg (by omega)]
          rfl
        · show vp_updL (fc_scoreWays s) i 0 t = _
          rcases Nat.lt_or_ge t i with h | h
          · rw [updL_n (by omega)]; exact q9 t h
          · have : t = i := by omega
            rw [this, updL_s])
      (fun n s _ => by simp only [Fc_clear_L41]; exact if_pos (by decide)) (n := F) (s := s1) (by omega) ⟨p1.1, p1.2.1, p1.2.2.1, p1.2.2.2.1, p1.2.2.2.2.1, p1.2.2.2.2.2.1, p1.2.2.2.2.2.2.1, p1.2.2.2.2.2.2.2, fun t h => absurd h (Nat.not_lt_zero t)⟩
    exact ⟨s2, (show _ = _ from e1).trans e2, p2.1, p2.2.1, p2.2.2.1, p2.2.2.2.1, p2.2.2.2.2.1, p2.2.2.2.2.2.1, p2.2.2.2.2.2.2.1, p2.2.2.2.2.2.2.2.1, fun _ => p2.2.2.2.2.2.2.2.2⟩
def cln (fc : Fc) : Prop := (∀ c, c < 132 → fc_ways fc c = 0) ∧ (∀ c, c < 132 → fc_waysBehind fc c = 0)
theorem c_run {gl : Nat → Nat} {F : Nat} (hF : 40 ≤ F) (hS : okS S) (hC : CS S sh) (hg : ∀ i, gl i ≤ 1) (hM : CM S gl k sh) (hk : k < 2 * sn S) (ho : ¬ ovr S k (mD (mAt S gl k)) (mAt S gl k).2.2.2) (hgr : gr ≤ 1) (hg0 : gr = 1 → k = 0) (hcl : cln fc) : ∃ fc', Fc_run F fc sh (wI gr) = some fc' ∧ cln fc' ∧ fc_last fc' = wI ((2 * sn S : Nat) : Int) ∧
    fc_wonByA fc' = wJ (TW S gr (fWA S) (2 * sn S - k) k 0 (mD (mAt S gl k)) (mAt S gl k).2.2.2) ∧ fc_wonByB fc' = wJ (TW S gr (fWB S) (2 * sn S - k) k 0 (mD (mAt S gl k)) (mAt S gl k).2.2.2) ∧ fc_level fc' = wJ (TW S gr (fLV S) (2 * sn S - k) k 0 (mD (mAt S gl k)) (mAt S gl k).2.2.2) ∧
    (∀ t, t < 11 → fc_endWays fc' t = wJ (TW S gr (fE S t) (2 * sn S - k) k 0 (mD (mAt S gl k)) (mAt S gl k).2.2.2)) ∧ (gr = 1 → ∀ t, t < 36 → fc_scoreWays fc' t = wJ (TW S gr (fSc t) (2 * sn S - k) k 0 (mD (mAt S gl k)) (mAt S gl k).2.2.2)) := by
  have hn5 := hS.2.1
  have hlb := mAt_l hS gl k
  have hld := c_leader hS hC hg hM (by omega)
  have hle := c_lead hM
  have hD0 : k = 0 → mD (mAt S gl k) = 0 := fun h => by rw [h]; rfl
  obtain ⟨d, hd⟩ : ∃ d, d = mD (mAt S gl k) := ⟨_, rfl⟩
  obtain ⟨l, hl⟩ : ∃ l, l = (mAt S gl k).2.2.2 := ⟨_, rfl⟩
  rw [← hl] at hlb hld ho ⊢
  rw [← hd] at hle ho hD0 ⊢
  have hd5 : -(sn S : Int) ≤ d ∧ d ≤ sn S := by
    refine Classical.byContradiction (fun hc => ho ?_)
    unfold ovr
    rw [if_pos (by omega)]
    omega
  have hx1 : 2 * sh_shooters sh = wI ((2 * sn S : Nat) : Int) := by rw [hC.1, wI_2, wI_mul]; rfl
  obtain ⟨f1, e1, q1, q2, q3, q4, q5, q6, q7, q8, q9⟩ := c_clear hF ((fc_endWays fc), (fc_scoreWays fc), (fc_ways fc), (fc_waysBehind fc), wI gr, wI ((2 * sn S : Nat) : Int), (fc_wonByA fc), (fc_wonByB fc), (fc_level fc), (fc_endlessA fc), (fc_endlessB fc), (fc_endless fc), (fc_winsOfA fc), (fc_winsOfB fc), (fc_whole fc)) hgr rfl
  have q1 : fc_ways f1 = fc_ways fc := q1
  have q2 : fc_waysBehind f1 = fc_waysBehind fc := q2
  have q3 : fc_grow f1 = wI gr := q3
  have q4 : fc_last f1 = wI ((2 * sn S : Nat) : Int) := q4
  have hb := cI_b (g := 0) (l := l) (by omega) (show -5 ≤ d by omega) (by omega) hlb
  have hat : Fc_at 0 (wI d) (wI (l : Int)) = wI ((cI 0 d l : Nat) : Int) := by
    unfold Fc_at
    simp only [wI_0, wI_1, wI_2, wI_3, wI_4, wI_5, wI_6, wI_8, wI_9, wI_10, wI_11, wI_18, wI_20, wI_24, wI_36, wI_60, wI_78, wI_add, wI_sub, wI_mul, wI_neg]
    exact wI_c (by unfold cI; omega)
  obtain ⟨fc', e2, r1, r2, r3, r4⟩ := c_kl (fc := ((fc_endWays f1), (fc_scoreWays f1), vp_updL (fc_ways f1) (cI 0 d l) (fc_ways f1 (cI 0 d l) + 1), (fc_waysBehind f1), (fc_grow f1), (fc_last f1), (fc_wonByA f1), (fc_wonByB f1), (fc_level f1), (fc_endlessA f1), (fc_endlessB f1), (fc_endless f1), (fc_winsOfA f1), (fc_winsOfB f1), (fc_whole f1))) (n := F) (F := F) (gr := gr) hS hC hgr (kf := k) (d := d) hk hd5.1 hd5.2 (by omega) (by omega) q3 q4
    (fun c hc hw => by
      have hw : vp_updL (fc_ways f1) (cI 0 d l) (fc_ways f1 (cI 0 d l) + 1) c ≠ 0 := hw
      by_cases h : c = cI 0 d l
      · rw [h, hb.2.1, hb.2.2.1, hb.2.2.2]
        refine ⟨⟨hk, ho, fun _ => rfl, fun h1 => ?_⟩, rfl⟩
        have h2 := hD0 (hg0 h1)
        omega
      · rw [updL_n h, q1] at hw
        exact absurd (hcl.1 c hc) hw)
    (fun c hc => by show fc_waysBehind f1 c = 0; rw [q2]; exact hcl.2 c hc)
  have hfb : ∀ f : Ob, fB S gr f k (vp_updL (fc_ways f1) (cI 0 d l) (fc_ways f1 (cI 0 d l) + 1)) = wJ (TW S gr f (2 * sn S - k) k 0 d l) := fun f => by
    have h0 : fB S gr f k (fc_ways f1) = 0 := fB_0 (fun c hc => by rw [q1]; exact hcl.1 c hc) f
    unfold fB at h0 ⊢
    rw [sj_upd 132 hb.1, h0, hb.2.1, hb.2.2.1, hb.2.2.2, Int64.zero_add, Int64.one_mul]
    rfl
  have fin : ∀ f a, obS S gr f a → acF a f1 = 0 → acF a fc' = wJ (TW S gr f (2 * sn S - k) k 0 d l) := fun f a hob h0 => by
    have := r4 f a hob
    refine this.trans ?_
    show acF a f1 + fB S gr f k (vp_updL (fc_ways f1) (cI 0 d l) (fc_ways f1 (cI 0 d l) + 1)) = _
    rw [hfb, h0, Int64.zero_add]
  refine ⟨fc', ?_, ⟨r2, r3⟩, r1, fin _ _ (ob_A S gr) q5, fin _ _ (ob_B S gr) q6, fin _ _ (ob_L S gr) q7, fun t ht => fin _ _ (ob_E S gr t) (q8 t ht), fun h1 t ht => ?_⟩
  · unfold Fc_run
    rw [hx1, z_let_e, e1, z_bd_s, hM.1, z_let_e, q4, if_pos (by rw [wI_lt (by omega) (by omega) (by omega) (by omega)]; omega), hle, z_let_e, hld, hat, c_add (by decide) hb.1, z_let_e, hC.1, z_let_e]
    rw [q4] at e2
    exact e2
  · subst h1
    exact fin _ _ (ob_S S t) (q9 rfl t ht)
end ZRN

/-! WAYS OF THE CLASS: a cell is left, a kick, all of them -/
theorem lpx {σ ρ : Type} (x : Nat → Int32) (f : Nat → Int32 → σ → ρ) (K : σ → ρ) (N : Nat) (P : Nat → σ → Prop)
    (hs : ∀ n i s, i < N → P i s → ∃ s', f (n + 1) (x i) s = f n (x (i + 1)) s' ∧ P (i + 1) s')
    (he : ∀ n s, P N s → f (n + 1) (x N) s = K s) :
    ∀ j i n s, i + j = N → j < n → P i s → ∃ s', f n (x i) s = K s' ∧ P N s' := by
  intro j
  induction j with
  | zero =>
    intro i n s h hn hp
    obtain ⟨n, rfl⟩ : ∃ k, n = k + 1 := ⟨n - 1, by omega⟩
    have : i = N := by omega
    subst this
    exact ⟨s, he n s hp, hp⟩
  | succ j ih =>
    intro i n s h hn hp
    obtain ⟨n, rfl⟩ : ∃ k, n = k + 1 := ⟨n - 1, by omega⟩
    obtain ⟨s', e, hp'⟩ := hs n i s (by omega) hp
    obtain ⟨s'', e2, hp2⟩ := ih (i + 1) n s' (by omega) (by omega) hp'
    exact ⟨s'', e.trans e2, hp2⟩
def gd (S : St) (gr k g : Nat) (d : Int) (l : Nat) : Prop := k < 2 * sn S ∧ ¬ ovr S k d l ∧ (gr = 0 → g = 0) ∧ (gr = 1 → g ≤ (k + 1 - l) / 2 ∧ 0 ≤ (g : Int) - d ∧ (g : Int) - d ≤ ((k + l) / 2 : Nat))
section ZCR
variable {S : St} {sh : Sh} {fc : Fc} {gr : Nat}
theorem gd_5 (hS : okS S) {k g l : Nat} {d : Int} (h : gd S gr k g d l) : -(sn S : Int) ≤ d ∧ d ≤ sn S := by
  have hk := h.1
  have ho := h.2.1
  refine Classical.byContradiction (fun hc => ho ?_)
  unfold ovr
  rw [if_pos (by omega)]
  omega
theorem nld_c (hS : okS S) (k : Nat) (d : Int) {l : Nat} (hl : l ≤ 1) : nld S k d l ≤ 1 ∧ (k % 2 = 0 ∨ nld S k d l = l) := by
  refine ⟨nld_b hS k d hl, ?_⟩
  by_cases h : k % 2 = 0
  · exact Or.inl h
  · exact Or.inr (if_neg h)
theorem sdA_c (k : Nat) {l : Nat} (hl : l ≤ 1) : sdA k l ≤ 1 ∧ ((k % 2 = 0 ∧ sdA k l = l) ∨ (k % 2 = 1 ∧ sdA k l = 1 - l)) := by
  unfold sdA
  split <;> omega
theorem gd_hit (hS : okS S) (hgr : gr ≤ 1) {k g l : Nat} {d : Int} (hl : l ≤ 1) (h : gd S gr k g d l) (hk : k + 1 < 2 * sn S) (ho : ¬ ovr S (k + 1) (if sdA k l = 0 then d + 1 else d - 1) l) : gd S gr (k + 1) (if sdA k l = 0 then g + gr else g) (if sdA k l = 0 then d + 1 else d - 1) (nld S (k + 1) (if sdA k l = 0 then d + 1 else d - 1) l) := by
  refine ⟨hk, fun h' => ho ((nld_o hS hl).mp h'), ?_, ?_⟩
  · intro h0
    have := h.2.2.1 h0
    split <;> omega
  · intro h1
    have h2 := h.2.2.2 h1
    have hn := nld_c hS (k + 1) (if sdA k l = 0 then d + 1 else d - 1) hl
    have hs := sdA_c k hl
    generalize nld S (k + 1) (if sdA k l = 0 then d + 1 else d - 1) l = nl at hn ⊢
    split <;> omega
theorem gd_miss (hS : okS S) {k g l : Nat} {d : Int} (hl : l ≤ 1) (h : gd S gr k g d l) (hk : k + 1 < 2 * sn S) (ho : ¬ ovr S (k + 1) d l) : gd S gr (k + 1) g d (nld S (k + 1) d l) := by
  refine ⟨hk, fun h' => ho ((nld_o hS hl).mp h'), h.2.2.1, ?_⟩
  intro h1
  have h2 := h.2.2.2 h1
  have hn := nld_c hS (k + 1) d hl
  generalize nld S (k + 1) d l = nl at hn ⊢
  omega
theorem c_arrc (hS : okS S) (hC : CS S sh) (hgr : gr ≤ 1) (hG : fc_grow fc = wI gr) (hL : fc_last fc = wI ((2 * sn S : Nat) : Int)) {k g l : Nat} {d : Int} (hk : k ≤ 2 * sn S) (hl : l ≤ 1) (hd1 : -6 ≤ d) (hd2 : d ≤ 6) (hg : g ≤ 5) (hgd : gr = 1 → 0 ≤ (g : Int) - d ∧ (g : Int) - d ≤ 5) {c : Int} (hc0 : 0 ≤ c) (hc6 : c ≤ 6) (m : Int64) :
    ∃ fc', (if wI c ≤ 0 then fc else Fc_arrive fc sh (wI k) (wI g) (wI d) (wI l) (m * (wI c).toInt64)) = fc' ∧ fc_ways fc' = fc_ways fc ∧ fc_grow fc' = fc_grow fc ∧ fc_last fc' = fc_last fc ∧
      (∀ f a, obS S gr f a → acF a fc' + fB S gr f k (fc_waysBehind fc') = acF a fc + fB S gr f k (fc_waysBehind fc) + (m * wJ c) * wJ (TW S gr f (2 * sn S - k) k g d (nld S k d l))) ∧
      (∀ c, c < 132 → fc_waysBehind fc' c ≠ 0 → fc_waysBehind fc c ≠ 0 ∨ (¬ ovr S k d l ∧ k < 2 * sn S ∧ cG c = g ∧ cD c = d ∧ cL c = nld S k d l)) := by
  by_cases h : c = 0
  · subst h
    refine ⟨fc, if_pos (by decide), rfl, rfl, rfl, fun f a _ => ?_, fun c _ h => Or.inl h⟩
    rw [← wJ_0, Int64.mul_zero, Int64.zero_mul, Int64.add_zero]
  · rw [if_neg (by rw [wI_0, wI_le (by omega) (by omega) (by omega) (by omega)]; omega), wI_l (by omega) (by omega)]
    exact c_arrive hS hC hgr hG hL hk hl hd1 hd2 hg hgd _
theorem c_leave (hS : okS S) (hC : CS S sh) (hgr : gr ≤ 1) (hG : fc_grow fc = wI gr) (hL : fc_last fc = wI ((2 * sn S : Nat) : Int)) {k g l : Nat} {d : Int} (hk : k < 2 * sn S) (hg : g ≤ 5) (h1 : -5 ≤ d) (h2 : d ≤ 5) (hl : l ≤ 1) (hgood : fc_ways fc (cI g d l) ≠ 0 → gd S gr k g d l) :
    ∃ fc', Fc_leave fc sh (wI k) (wI g) (wI d) (wI l) = fc' ∧ fc_grow fc' = wI gr ∧ fc_last fc' = wI ((2 * sn S : Nat) : Int) ∧ (∀ c, fc_ways fc' c = if c = cI g d l then 0 else fc_ways fc c) ∧
      (∀ f a, obS S gr f a → acF a fc' + fB S gr f k (fc_ways fc') + fB S gr f (k + 1) (fc_waysBehind fc') = acF a fc + fB S gr f k (fc_ways fc) + fB S gr f (k + 1) (fc_waysBehind fc)) ∧
      (∀ c, c < 132 → fc_waysBehind fc' c ≠ 0 → fc_waysBehind fc c ≠ 0 ∨ (gd S gr (k + 1) (cG c) (cD c) (cL c) ∧ d - 1 ≤ cD c ∧ cD c ≤ d + 1)) := by
  have hn5 := hS.2.1
  have hb := cI_b hg h1 h2 hl
  have hat : Fc_at (wI (g : Int)) (wI d) (wI (l : Int)) = wI ((cI g d l : Nat) : Int) := by
    unfold Fc_at
    simp only [wI_0, wI_1, wI_2, wI_3, wI_4, wI_5, wI_6, wI_8, wI_9, wI_10, wI_11, wI_18, wI_20, wI_24, wI_36, wI_60, wI_78, wI_add, wI_sub, wI_mul, wI_neg]
    exact wI_c (by unfold cI; omega)
  obtain ⟨i, hi⟩ : ∃ i, i = cI g d l := ⟨_, rfl⟩
  rw [← hi] at hat hb hgood ⊢
  have hn0 : ¬ wI (i : Int) < 0 := by rw [wI_0, wI_lt (by omega) (by omega) (by omega) (by omega)]; omega
  have hn1 : ¬ 132 ≤ wI (i : Int) := by rw [wI_132, wI_le (by omega) (by omega) (by omega) (by omega)]; omega
  have hix : (wI (i : Int)).toNatClampNeg = i := wI_ix (by omega)
  by_cases hz : fc_ways fc i = 0
  · refine ⟨fc, ?_, hG, hL, fun c => ?_, fun f a _ => rfl, fun c _ h => Or.inl h⟩
    · unfold Fc_leave
      simp only [z_let_e, hat, if_neg hn0, if_neg hn1, hix]
      exact if_pos ((lg_cmp_eq _ _).mpr hz)
    · split
      · rw [← hz]; congr 1
      · rfl
  · have hgd := hgood hz
    have hs := sdA_c k hl
    obtain ⟨s, hsd⟩ : ∃ s, s = sdA k l := ⟨_, rfl⟩
    obtain ⟨c, hcd⟩ : ∃ c, c = chn S s (k / 2) (sgd s d) := ⟨_, rfl⟩
    have hcb : 0 ≤ c ∧ c ≤ 6 := by rw [hcd]; exact chn_b _ _ _ _
    have hs1 : s ≤ 1 := by rw [hsd]; exact hs.1
    have hv6 : (if z_rem (wI (k : Int)) 2 = 0 then wI (l : Int) else 1 - wI (l : Int)) = wI (s : Int) := by
      rw [wI_2, wI_0, wI_1, wI_sub, wI_rem (by omega) (by omega) (by omega) (by omega), hsd]
      unfold sdA
      by_cases h : k % 2 = 0
      · rw [if_pos h, if_pos (by rw [wI_eq (by omega) (by omega) (by omega) (by omega)]; omega)]
      · rw [if_neg h, if_neg (by rw [wI_eq (by omega) (by omega) (by omega) (by omega)]; omega)]
        exact wI_c (by omega)
    have hs01 : (wI (s : Int) = 0) ↔ s = 0 := by rw [wI_0, wI_eq (by omega) (by omega) (by omega) (by omega)]; omega
    have hv10 : (if wI (s : Int) = 0 then wI d else -(wI d)) = wI (sgd s d) := by
      unfold sgd
      by_cases h : s = 0
      · rw [if_pos h, if_pos (hs01.mpr h)]
      · rw [if_neg h, if_neg (fun h' => h (hs01.mp h')), wI_neg]
    have hch : Sh_chanceOf sh (wI (s : Int)) (wI (k : Int) / 2) (wI (sgd s d)) = wI c := by
      rw [wI_2, wI_div (by omega) (by omega) (by omega) (by omega), show (k : Int) / 2 = ((k / 2 : Nat) : Int) by omega, c_chanceOf hS hC hs1 (by omega) (by unfold sgd; split <;> omega) (by unfold sgd; split <;> omega), hcd]
    obtain ⟨m, hm⟩ : ∃ m, m = fc_ways fc i := ⟨_, rfl⟩
    obtain ⟨fc0, hfc0⟩ : ∃ fc0 : Fc, fc0 = ((fc_endWays fc), (fc_scoreWays fc), (vp_updL (fc_ways fc) i 0), (fc_waysBehind fc), (fc_grow fc), (fc_last fc), (fc_wonByA fc), (fc_wonByB fc), (fc_level fc), (fc_endlessA fc), (fc_endlessB fc), (fc_endless fc), (fc_winsOfA fc), (fc_winsOfB fc), (fc_whole fc)) := ⟨_, rfl⟩
    obtain ⟨g1, hg1⟩ : ∃ g1, g1 = if s = 0 then g + gr else g := ⟨_, rfl⟩
    obtain ⟨d1, hd1⟩ : ∃ d1, d1 = if s = 0 then d + 1 else d - 1 := ⟨_, rfl⟩
    have hv21 : (if wI (s : Int) = 0 then wI (g : Int) + fc_grow fc else wI (g : Int)) = wI (g1 : Int) := by
      rw [hg1, hG]
      by_cases h : s = 0
      · rw [if_pos h, if_pos (hs01.mpr h), wI_add]; rfl
      · rw [if_neg h, if_neg (fun h' => h (hs01.mp h'))]
    have hv25 : (if wI (s : Int) = 0 then wI d + 1 else wI d - 1) = wI d1 := by
      rw [hd1, wI_1, wI_add, wI_sub]
      by_cases h : s = 0
      · rw [if_pos h, if_pos (hs01.mpr h)]
      · rw [if_neg h, if_neg (fun h' => h (hs01.mp h'))]
    have hk1 : wI (k : Int) + 1 = wI ((k + 1 : Nat) : Int) := by rw [wI_1, wI_add]; rfl
    have hd1b : -6 ≤ d1 ∧ d1 ≤ 6 ∧ d - 1 ≤ d1 ∧ d1 ≤ d + 1 := by rw [hd1]; split <;> omega
    have hg1b : g1 ≤ 5 ∧ (gr = 1 → 0 ≤ (g1 : Int) - d1 ∧ (g1 : Int) - d1 ≤ 5) := by
      have q0 := hgd.2.2.1
      have q1 := hgd.2.2.2
      have hs2 : (k % 2 = 0 ∧ s = l) ∨ (k % 2 = 1 ∧ s = 1 - l) := by rw [hsd]; exact hs.2
      have hgd1 : (s = 0 ∧ g1 = g + gr ∧ d1 = d + 1) ∨ (s ≠ 0 ∧ g1 = g ∧ d1 = d - 1) := by
        rw [hg1, hd1]
        by_cases h : s = 0
        · exact Or.inl ⟨h, if_pos h, if_pos h⟩
        · exact Or.inr ⟨h, if_neg h, if_neg h⟩
      have hgr2 : gr = 0 ∨ gr = 1 := by omega
      rcases hgr2 with h | h
      · have := q0 h
        omega
      · have := q1 h
        omega
    have hgm : gr = 1 → 0 ≤ (g : Int) - d ∧ (g : Int) - d ≤ 5 := fun h => by have := hgd.2.2.2 h; omega
    obtain ⟨fc1, e1, w1, gg1, ll1, o1, p1⟩ := c_arrc (fc := fc0) hS hC hgr (by rw [hfc0]; exact hG) (by rw [hfc0]; exact hL) (k := k + 1) (g := g1) (l := l) (d := d1) (by omega) hl hd1b.1 hd1b.2.1 hg1b.1 hg1b.2 hcb.1 hcb.2 m
    obtain ⟨fc2, e2, w2, gg2, ll2, o2, p2⟩ := c_arrc (fc := fc1) hS hC hgr (by rw [gg1, hfc0]; exact hG) (by rw [ll1, hfc0]; exact hL) (k := k + 1) (g := g) (l := l) (d := d) (by omega) hl (by omega) (by omega) hg hgm (c := 6 - c) (by omega) (by omega) m
    have hw : fc_ways fc2 = vp_updL (fc_ways fc) i 0 := by rw [w2, w1, hfc0]
    have hzm : ¬ lg_cmp m 0 = 0 := fun h => hz (hm ▸ (lg_cmp_eq _ _).mp h)
    refine ⟨fc2, ?_, by rw [gg2, gg1, hfc0]; exact hG, by rw [ll2, ll1, hfc0]; exact hL, fun c => ?_, fun f a hob => ?_, fun c hc h => ?_⟩
    · unfold Fc_leave
      simp only [z_let_e, hat, if_neg hn0, if_neg hn1, hix, ← hm, if_neg hzm, hv6, hv10, hch, ← hfc0, hv21, hv25, hk1]
      refine (z_jn_c fc1 (fun K => ?_)).trans ?_
      · rw [← e1]
        split <;> rfl
      · rw [← e2, ← wI_sub, ← wI_6]
        by_cases h : c = 6
        · rw [if_pos (by rw [h]; decide), if_pos (by rw [h]; decide)]
        · rw [if_neg (by rw [wI_6, wI_le (by omega) (by omega) (by omega) (by omega)]; omega), if_neg (by rw [wI_6, wI_0, wI_sub, wI_le (by omega) (by omega) (by omega) (by omega)]; omega)]
    · rw [hw]
      rfl
    · have q1 := o1 f a hob
      have q2 := o2 f a hob
      have q3 : fB S gr f k (fc_ways fc2) = fB S gr f k (fc_ways fc) + (0 - m) * wJ (TW S gr f (2 * sn S - k) k g d l) := by
        rw [hw]
        unfold fB
        have e0 : vp_updL (fc_ways fc) i 0 = vp_updL (fc_ways fc) i (fc_ways fc i + (0 - m)) := by
          congr 1
          rw [← hm]
          grind
        rw [e0, sj_upd 132 hb.1, hb.2.1, hb.2.2.1, hb.2.2.2]
      have q4 : TW S gr f (2 * sn S - k) k g d l = c * TW S gr f (2 * sn S - (k + 1)) (k + 1) g1 d1 (nld S (k + 1) d1 l) + (6 - c) * TW S gr f (2 * sn S - (k + 1)) (k + 1) g d (nld S (k + 1) d l) := by
        rw [show 2 * sn S - k = 2 * sn S - (k + 1) + 1 by omega, TW_n hgd.2.1, hcd, hg1, hd1, hsd]
        congr 3
        split <;> simp
      have q5 : acF a fc0 = acF a fc := by rw [hfc0]; rfl
      have q6 : fc_waysBehind fc0 = fc_waysBehind fc := by rw [hfc0]
      rw [q5, q6] at q1
      rw [q3, q4, ← wJ_add, ← wJ_mul, ← wJ_mul]
      generalize wJ (TW S gr f (2 * sn S - (k + 1)) (k + 1) g1 d1 (nld S (k + 1) d1 l)) = t1 at q1 ⊢
      generalize wJ (TW S gr f (2 * sn S - (k + 1)) (k + 1) g d (nld S (k + 1) d l)) = t0 at q2 ⊢
      generalize wJ c = cc at q1 ⊢
      generalize wJ (6 - c) = c6 at q2 ⊢
      generalize fB S gr f (k + 1) (fc_waysBehind fc2) = b2 at *
      generalize fB S gr f (k + 1) (fc_waysBehind fc1) = b1 at *
      generalize fB S gr f (k + 1) (fc_waysBehind fc) = b0 at *
      generalize acF a fc2 = a2 at *
      generalize acF a fc1 = a1 at *
      generalize acF a fc = a0 at *
      generalize fB S gr f k (fc_ways fc) = w0 at *
      clear q3 q4
      grind
    · rcases p2 c hc h with h' | h'
      · rcases p1 c hc h' with h'' | h''
        · rw [hfc0] at h''
          exact Or.inl h''
        · obtain ⟨r1, r2, r3, r4, r5⟩ := h''
          refine Or.inr ⟨?_, by omega, by omega⟩
          rw [r3, r4, r5, hg1, hd1, hsd]
          rw [hd1, hsd] at r1
          exact gd_hit hS hgr hl hgd r2 r1
      · obtain ⟨r1, r2, r3, r4, r5⟩ := h'
        refine Or.inr ⟨?_, by omega, by omega⟩
        rw [r3, r4, r5]
        exact gd_miss hS hl hgd r2 r1
end ZCR

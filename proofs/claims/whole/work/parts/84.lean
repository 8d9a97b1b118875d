/-! WHEN, HOW -/
section ZWH
variable {p : Po} {now sh : Sh} {row : MRow} {F : Nat} {S : St} {fc : Fc}
noncomputable def tS (S : St) (f : Ob) : Int := TW S 1 f (2 * sn S) 0 0 0 (sf S)
theorem ov_0 (hS : okS S) : ¬ ovr S 0 0 (sf S) := fun h => ovr_ne hS hS.2.2.2.1 h rfl
theorem l_run (hF : 40 ≤ F) (hp : okP p) (hc : cP p now) (hcl : cln fc) (tr : Sh) {gr : Nat} (hgr : gr ≤ 1) : ∃ tr' fc', K_runFromStart F now tr fc (wI gr) = some (tr', fc') ∧ cln fc' ∧ fc_level fc' = wJ (tS p.1 (fLV p.1)) ∧ (∀ t, t < 11 → fc_endWays fc' t = wJ (tS p.1 (fE p.1 t))) ∧ (gr = 1 → ∀ t, t < 36 → fc_scoreWays fc' t = wJ (tS p.1 (fSc t))) := by
  obtain ⟨r, e, hC, hM⟩ := c_start (F := F) (by omega) hc.1 tr
  have hn1 := hp.1.1
  obtain ⟨fc', e1, cl, la, wA, wB, lv, en, sc⟩ := c_run (gr := gr) (k := 0) (gl := fun _ => 0) hF hp.1 hC (fun _ => Nat.zero_le _) (hM _) (by omega) (ov_0 hp.1) hgr (fun _ => rfl) hcl
  refine ⟨r, fc', ?_, cl, lv.trans (wJ_c ?_), fun t ht => (en t ht).trans (wJ_c ?_), fun h1 t ht => (sc h1 t ht).trans (wJ_c ?_)⟩
  · unfold K_runFromStart
    rw [e, z_bd_s, e1, z_bd_s]
  · exact TW_ig (fun _ _ _ _ _ => rfl) _ _ _ _ _ _
  · exact TW_ig (fun _ _ _ _ _ => rfl) _ _ _ _ _ _
  · rw [h1]; rfl
theorem r_start (hF : 1100 ≤ F) (hp : okP p) (hm : mP p row) (bx : Bx) (mo : Mo) (wy : Wy) (wa : Wa) : ∃ bx' mo' wy' wa', M_layStart F row bx mo wy wa = some (bx', mo', wy', wa') ∧ wy_leftWays wy' = wJ (6 ^ (2 * sn p.1)) ∧ (∀ t, t < 11 → wy_endWays wy' t = wJ (tS p.1 (fEz p.1 t))) ∧ (∀ t, t < 36 → wy_scoreWays wy' t = wJ (tS p.1 (fSc t))) := by
  obtain ⟨bx', mo', e, hR, hM⟩ := r_beg (F := F) (by omega) hp.1 hm bx mo
  obtain ⟨mo2, wy', wa', e2, hM2, t1, t2, t3, t4, t5, t6⟩ := r_layWays hF hp.1 hR hM (okM_0 hp.1) (Nat.zero_le _) wy wa
  refine ⟨bx', mo2, wy', wa', ?_, t4, t5, t6⟩
  unfold M_layStart
  rw [e, z_bd_s, e2, z_bd_s]
theorem q_ends (hF : 1100 ≤ F) (hp : okP p ∨ p = p00) (hc : cP p now) (hm : mP p row) (hcl : cln fc) (tr : Sh) (bx : Bx) (mo : Mo) (wy : Wy) (wa : Wa) (x : Int32) : ∃ r tr' fc' bx' mo' wy' wa', K_ends F now tr fc x = some (r, tr', fc') ∧ M_ends F row bx mo wy wa x = some (r, 0, bx', mo', wy', wa') ∧ cln fc' := by
  obtain ⟨b, rfl, b1, b2⟩ := wI_of x
  rcases hp with hp | rfl
  · have hn1 := hp.1.1
    have hn5 := hp.1.2.1
    have hmn : 2 * ((M_n row).toInt64) = wJ (2 * (sn p.1 : Int)) := by
      unfold M_n
      rw [hm.1, wI_l (by omega) (by omega), wJ_2, wJ_mul]
    have hz : (M_in (wI b).toInt64 0 (wJ (2 * (sn p.1 : Int))) = 0) ↔ ¬ (0 ≤ b ∧ b ≤ 2 * (sn p.1 : Int)) := in_z (a := b) (lo := 0) (hi := 2 * (sn p.1 : Int)) b1 b2 (by omega) (by omega) (by omega) (by omega)
    have h2n : 2 * sh_shooters now = wI (2 * (sn p.1 : Int)) := by rw [hc.1.1, wI_2, wI_mul]
    by_cases q : 0 ≤ b ∧ b ≤ 2 * (sn p.1 : Int)
    · obtain ⟨t, rfl⟩ : ∃ s : Nat, b = s := ⟨b.toNat, by omega⟩
      obtain ⟨tr', fc', e1, cl, lv, en, -⟩ := l_run (F := F) (by omega) hp hc hcl tr (gr := 0) (by omega)
      obtain ⟨bx', mo', wy', wa', e2, lw, en2, -⟩ := r_start hF hp hm bx mo wy wa
      have e1 : K_runFromStart F now tr fc 0 = some (tr', fc') := e1
      refine ⟨wJ (tS p.1 (fEz p.1 t)), tr', fc', bx', mo', wy', wa', ?_, ?_, cl⟩
      · unfold K_ends
        rw [if_neg (t_now hp hc).1, if_neg (by rw [wI_0, wI_lt (by omega) (by omega) (by omega) (by omega)]; omega), if_pos (by rw [h2n, wI_le (by omega) (by omega) (by omega) (by omega)]; omega), e1, z_bd_s]
        by_cases h : t = 0
        · subst h
          rw [if_pos (by decide), lv]
          rfl
        · rw [if_neg (by rw [wI_0, wI_eq (by omega) (by omega) (by omega) (by omega)]; omega), show fEz p.1 t = fE p.1 t from if_neg h]
          unfold Fc_endsAt
          rw [if_neg (by rw [wI_0, wI_lt (by omega) (by omega) (by omega) (by omega)]; omega), if_neg (by rw [wI_11, wI_le (by omega) (by omega) (by omega) (by omega)]; omega), wI_ix (by omega), en t (by omega)]
      · unfold M_ends
        rw [if_neg (t_row hp hm), hmn, if_neg (fun h => hz.mp h q), e2, z_bd_s, z_gd_e (wI_in (by omega) (by omega) (by omega)), wI_ix (by omega)]
        show some (wy_endWays wy' t, _) = _
        rw [en2 t (by omega)]
    · refine ⟨-1, tr, fc, bx, mo, wy, wa, ?_, ?_, hcl⟩
      · unfold K_ends
        rw [if_neg (t_now hp hc).1]
        by_cases h : b < 0
        · rw [if_pos (by rw [wI_0, wI_lt (by omega) (by omega) (by omega) (by omega)]; omega)]
        · rw [if_neg (by rw [wI_0, wI_lt (by omega) (by omega) (by omega) (by omega)]; omega), if_neg (by rw [h2n, wI_le (by omega) (by omega) (by omega) (by omega)]; omega)]
      · unfold M_ends
        rw [if_neg (t_row hp hm), hmn]
        exact if_pos (hz.mpr q)
  · refine ⟨-1, tr, fc, bx, mo, wy, wa, ?_, ?_, hcl⟩
    · unfold K_ends
      rw [if_pos (u_now hc)]
    · unfold M_ends
      rw [if_pos (u_row hm)]
theorem c_scoreAt {x y : Nat} (hx : x ≤ 5) (hy : y ≤ 5) (hsc : ∀ t, t < 36 → fc_scoreWays fc t = wJ (tS S (fSc t))) : Fc_scoreAt fc (wI x) (wI y) = wJ (tS S (fSc (6 * x + y))) := by
  unfold Fc_scoreAt
  rw [z_let_e, wI_6, wI_mul, wI_add, if_neg (by rw [wI_0, wI_lt (by omega) (by omega) (by omega) (by omega)]; omega), if_neg (by rw [wI_36, wI_le (by omega) (by omega) (by omega) (by omega)]; omega), wI_nat (by omega) (by omega), show ((x : Int) * 6 + y).toNat = 6 * x + y by omega, hsc _ (by omega)]
theorem q_score (hF : 1100 ≤ F) (hp : okP p ∨ p = p00) (hc : cP p now) (hm : mP p row) (hcl : cln fc) (tr : Sh) (bx : Bx) (mo : Mo) (wy : Wy) (wa : Wa) (x y : Int32) : ∃ r tr' fc' bx' mo' wy' wa', K_score F now tr fc x y = some (r, tr', fc') ∧ M_score F row bx mo wy wa x y = some (r, 0, bx', mo', wy', wa') ∧ cln fc' := by
  obtain ⟨a, rfl, a1, a2⟩ := wI_of x
  obtain ⟨b, rfl, b1, b2⟩ := wI_of y
  rcases hp with hp | rfl
  · have hn1 := hp.1.1
    have hn5 := hp.1.2.1
    have hmn : (M_n row).toInt64 = wJ (sn p.1 : Int) := by
      unfold M_n
      rw [hm.1, wI_l (by omega) (by omega)]
    have hz : (M_in (wI a).toInt64 0 (wJ (sn p.1 : Int)) = 0) ↔ ¬ (0 ≤ a ∧ a ≤ (sn p.1 : Int)) := in_z (a := a) (lo := 0) (hi := (sn p.1 : Int)) a1 a2 (by omega) (by omega) (by omega) (by omega)
    have hz2 : (M_in (wI b).toInt64 0 (wJ (sn p.1 : Int)) = 0) ↔ ¬ (0 ≤ b ∧ b ≤ (sn p.1 : Int)) := in_z (a := b) (lo := 0) (hi := (sn p.1 : Int)) b1 b2 (by omega) (by omega) (by omega) (by omega)
    by_cases q1 : 0 ≤ a ∧ a ≤ (sn p.1 : Int)
    · by_cases q2 : 0 ≤ b ∧ b ≤ (sn p.1 : Int)
      · obtain ⟨x, rfl⟩ : ∃ s : Nat, a = s := ⟨a.toNat, by omega⟩
        obtain ⟨y, rfl⟩ : ∃ s : Nat, b = s := ⟨b.toNat, by omega⟩
        obtain ⟨tr', fc', e1, cl, lv, en, sc⟩ := l_run (F := F) (by omega) hp hc hcl tr (gr := 1) (by omega)
        obtain ⟨bx', mo', wy', wa', e2, lw, en2, sc2⟩ := r_start hF hp hm bx mo wy wa
        have e1 : K_runFromStart F now tr fc 1 = some (tr', fc') := e1
        refine ⟨wJ (tS p.1 (fSc (6 * x + y))), tr', fc', bx', mo', wy', wa', ?_, ?_, cl⟩
        · unfold K_score
          rw [if_neg (t_now hp hc).1, hc.1.1, if_neg (by rw [wI_0, wI_lt (by omega) (by omega) (by omega) (by omega)]; omega), if_neg (by rw [wI_lt (by omega) (by omega) (by omega) (by omega)]; omega), if_neg (by rw [wI_0, wI_lt (by omega) (by omega) (by omega) (by omega)]; omega), if_pos (by rw [wI_le (by omega) (by omega) (by omega) (by omega)]; omega), e1, z_bd_s, c_scoreAt (by omega) (by omega) (sc rfl)]
        · unfold M_score
          rw [if_neg (t_row hp hm), hmn, if_neg (fun h => hz.mp h q1), if_neg (fun h => hz2.mp h q2), e2, z_bd_s, wI_6, wI_mul, wI_add, z_gd_e (wI_in (by omega) (by omega) (by omega)), wI_nat (by omega) (by omega), show (6 * (x : Int) + y).toNat = 6 * x + y by omega]
          show some (wy_scoreWays wy' (6 * x + y), _) = _
          rw [sc2 _ (by omega)]
      · refine ⟨-1, tr, fc, bx, mo, wy, wa, ?_, ?_, hcl⟩
        · unfold K_score
          rw [if_neg (t_now hp hc).1, hc.1.1, if_neg (by rw [wI_0, wI_lt (by omega) (by omega) (by omega) (by omega)]; omega), if_neg (by rw [wI_lt (by omega) (by omega) (by omega) (by omega)]; omega)]
          by_cases h : b < 0
          · rw [if_pos (by rw [wI_0, wI_lt (by omega) (by omega) (by omega) (by omega)]; omega)]
          · rw [if_neg (by rw [wI_0, wI_lt (by omega) (by omega) (by omega) (by omega)]; omega), if_neg (by rw [wI_le (by omega) (by omega) (by omega) (by omega)]; omega)]
        · unfold M_score
          rw [if_neg (t_row hp hm), hmn, if_neg (fun h => hz.mp h q1)]
          exact if_pos (hz2.mpr q2)
    · refine ⟨-1, tr, fc, bx, mo, wy, wa, ?_, ?_, hcl⟩
      · unfold K_score
        rw [if_neg (t_now hp hc).1, hc.1.1]
        by_cases h : a < 0
        · rw [if_pos (by rw [wI_0, wI_lt (by omega) (by omega) (by omega) (by omega)]; omega)]
        · rw [if_neg (by rw [wI_0, wI_lt (by omega) (by omega) (by omega) (by omega)]; omega), if_pos (by rw [wI_lt (by omega) (by omega) (by omega) (by omega)]; omega)]
      · unfold M_score
        rw [if_neg (t_row hp hm), hmn]
        exact if_pos (hz.mpr q1)
  · refine ⟨-1, tr, fc, bx, mo, wy, wa, ?_, ?_, hcl⟩
    · unfold K_score
      rw [if_pos (u_now hc)]
    · unfold M_score
      rw [if_pos (u_row hm)]
/-! likely: the first of the most -/
theorem tS_b (S : St) (hS : okS S) (t : Nat) : 0 ≤ tS S (fSc t) ∧ tS S (fSc t) ≤ 60466176 := by
  have h1 := p6_b (2 * sn S) (by have := hS.2.1; omega)
  have h2 : tS S (fSc t) ≤ 6 ^ (2 * sn S) := TW_le (fun _ _ _ _ => o01_le _) _ _ _ _ _
  exact ⟨TW_nn (fun _ _ _ _ => o01_nn _) _ _ _ _ _, by omega⟩
theorem TW_S0 (hS : okS S) {x y : Nat} (hy : y ≤ 5) (hxy : sn S < x ∨ sn S < y) : ∀ (j k : Nat) (g d : Int) (l : Nat), k + j = 2 * sn S → l ≤ 1 → 0 ≤ g → g ≤ ((k + 1 - l) / 2 : Nat) → 0 ≤ g - d → g - d ≤ ((k + l) / 2 : Nat) → TW S 1 (fSc (6 * x + y)) j k g d l = 0
  | 0, k, g, d, l, hk, hl, h1, h2, h3, h4 => by
    have := hS.2.1
    exact o01_f (fun h => by omega)
  | j + 1, k, g, d, l, hk, hl, h1, h2, h3, h4 => by
    have hn5 := hS.2.1
    by_cases ho : ovr S k d l
    · rw [TW_o ho, show fSc (6 * x + y) k g d l = 0 from o01_f (fun h => by omega), Int.mul_zero]
    · have hs := sdA_c k hl
      have n1 := nld_c hS (k + 1) d hl
      have m1 := TW_S0 hS hy hxy j (k + 1) g d (nld S (k + 1) d l) (by omega) n1.1 h1 (by omega) h3 (by omega)
      by_cases hz : sdA k l = 0
      · have n2 := nld_c hS (k + 1) (d + 1) hl
        have m2 := TW_S0 hS hy hxy j (k + 1) (g + 1) (d + 1) (nld S (k + 1) (d + 1) l) (by omega) n2.1 (by omega) (by omega) (by omega) (by omega)
        rw [TW_n ho]
        simp only [if_pos hz]
        rw [m1, m2, Int.mul_zero, Int.mul_zero]
        rfl
      · have n2 := nld_c hS (k + 1) (d - 1) hl
        have m2 := TW_S0 hS hy hxy j (k + 1) g (d - 1) (nld S (k + 1) (d - 1) l) (by omega) n2.1 (by omega) (by omega) (by omega) (by omega)
        rw [TW_n ho]
        simp only [if_neg hz]
        rw [m1, m2, Int.mul_zero, Int.mul_zero]
        rfl
theorem tS_0 (hS : okS S) {x y : Nat} (hy : y ≤ 5) (hxy : sn S < x ∨ sn S < y) : tS S (fSc (6 * x + y)) = 0 := TW_S0 hS hy hxy _ _ _ _ _ (by omega) hS.2.2.2.1 (by omega) (by omega) (by omega) (by omega)
/-- the first of the most of a row of numbers -/
def fst (v : Nat → Int) (n t : Nat) : Prop := t < n ∧ (∀ i, i < t → v i < v t) ∧ (∀ i, i < n → v i ≤ v t)
theorem r_likely (hS : okS S) (u : Bx × Mo × Wy × Wa) (hsc : ∀ t, t < 36 → wy_scoreWays u.2.2.1 t = wJ (tS S (fSc t))) (kx : Int32 → Option (Int32 × Th × Bx × Mo × Wy × Wa)) (hF : 40 ≤ F) : ∃ t, fst (fun t => tS S (fSc t)) 36 t ∧ M_likely_L22 u kx F 0 1 = kx (wI (t : Nat)) := by
  obtain ⟨s', e, t, ht, hft⟩ := lpx (fun i => wI ((i + 1 : Nat) : Int)) (fun n x (s : Int32) => M_likely_L22 u kx n s x) kx 35 (fun i s => ∃ t : Nat, s = wI (t : Nat) ∧ fst (fun t => tS S (fSc t)) (i + 1) t)
    (fun n i s hi hp => by
      obtain ⟨t, rfl, h1, h2, h3⟩ := hp
      have bi := tS_b S hS (i + 1)
      have bt := tS_b S hS t
      have hst : ∀ s', (if lg_cmp (wJ (tS S (fSc (i + 1)))) (wJ (tS S (fSc t))) ≤ 0 then M_likely_L22 u kx n (wI (t : Nat)) (wI ((i + 1 + 1 : Nat) : Int)) else M_likely_L22 u kx n (wI ((i + 1 : Nat) : Int)) (wI ((i + 1 + 1 : Nat) : Int))) = s' → M_likely_L22 u kx (n + 1) (wI (t : Nat)) (wI ((i + 1 : Nat) : Int)) = s' := fun s' hs' => by
        rw [← hs']
        have hw : wI ((i + 1 : Nat) : Int) + 1 = wI ((i + 1 + 1 : Nat) : Int) := by rw [wI_1, wI_add]; rfl
        rw [M_likely_L22, if_neg (by rw [wI_36, wI_le (by omega) (by omega) (by omega) (by omega)]; omega), z_gd_e (wI_in (by omega) (by omega) (by omega)), z_gd_e (wI_in (by omega) (by omega) (by omega)), wI_ix (by omega), wI_ix (by omega), hsc _ (by omega), hsc _ (by omega), z_let_e, z_let_e, hw]
      by_cases hle : tS S (fSc (i + 1)) ≤ tS S (fSc t)
      · refine ⟨wI (t : Nat), hst _ (if_pos (by rw [lg_cmp_le, wJ_le (by omega) (by omega) (by omega) (by omega)]; exact hle)), t, rfl, by omega, h2, fun q hq => ?_⟩
        by_cases hqi : q = i + 1
        · rw [hqi]; exact hle
        · exact h3 q (by omega)
      · refine ⟨wI ((i + 1 : Nat) : Int), hst _ (if_neg (by rw [lg_cmp_le, wJ_le (by omega) (by omega) (by omega) (by omega)]; exact hle)), i + 1, rfl, by omega, fun q hq => ?_, fun q hq => ?_⟩
        · have : tS S (fSc q) ≤ tS S (fSc t) := h3 q hq
          show tS S (fSc q) < tS S (fSc (i + 1))
          omega
        · by_cases hqi : q = i + 1
          · rw [hqi]; exact Int.le_refl _
          · have : tS S (fSc q) ≤ tS S (fSc t) := h3 q (by omega)
            show tS S (fSc q) ≤ tS S (fSc (i + 1))
            omega)
    (fun n s _ => by
      simp only [M_likely_L22]
      exact if_pos (by decide)) 35 0 F 0 (by omega) (by omega) ⟨0, rfl, by omega, fun i h => absurd h (Nat.not_lt_zero i), fun i h => by rw [show i = 0 by omega]; exact Int.le_refl _⟩
  exact ⟨t, hft, by rw [← ht]; exact e⟩
/-- the same over those of n by n alone -/
def fsc (v : Nat → Int) (n X Y x y : Nat) : Prop := x ≤ n ∧ y ≤ n ∧ (x < X ∨ (x = X ∧ y < Y)) ∧ (∀ i j, i ≤ n → j ≤ n → (i < x ∨ (i = x ∧ j < y)) → v (6 * i + j) < v (6 * x + y)) ∧ (∀ i j, i ≤ n → j ≤ n → (i < X ∨ (i = X ∧ j < Y)) → v (6 * i + j) ≤ v (6 * x + y))
theorem c_likely (hS : okS S) (hn : sh_shooters now = wI (sn S)) (u : Sh × Fc) (hsc : ∀ t, t < 36 → fc_scoreWays u.2 t = wJ (tS S (fSc t))) (hF : 40 ≤ F) : ∃ x y : Nat, fsc (fun t => tS S (fSc t)) (sn S) (sn S + 1) 0 x y ∧ K_likely_L26 F now u F 0 (-1) 0 = some (wI ((10 * x + y : Nat) : Int), u.1, u.2) := by
  have hn5 := hS.2.1
  -- the state: nothing yet, or the first of the most
  have inner : ∀ (X : Nat) (kx : Int32 → Int64 → Option (Int32 × Sh × Fc)) (s : Int32 × Int64), X ≤ sn S → ((X = 0 ∧ s = (0, -1)) ∨ ∃ x y : Nat, s = (wI ((10 * x + y : Nat) : Int), wJ (tS S (fSc (6 * x + y)))) ∧ fsc (fun t => tS S (fSc t)) (sn S) X 0 x y) → ∃ x y : Nat, K_likely_L41 now u (wI X) kx F s.1 s.2 0 = kx (wI ((10 * x + y : Nat) : Int)) (wJ (tS S (fSc (6 * x + y)))) ∧ fsc (fun t => tS S (fSc t)) (sn S) (X + 1) 0 x y := fun X kx s hX h0 => by
    obtain ⟨s', e, hp⟩ := lp0 (fun n x (s : Int32 × Int64) => K_likely_L41 now u (wI X) kx n s.1 s.2 x) (fun s => kx s.1 s.2) (sn S + 1) (fun Y s => (X = 0 ∧ Y = 0 ∧ s = (0, -1)) ∨ ∃ x y : Nat, s = (wI ((10 * x + y : Nat) : Int), wJ (tS S (fSc (6 * x + y)))) ∧ fsc (fun t => tS S (fSc t)) (sn S) X Y x y)
      (fun n Y s hY hp => by
        have bY := tS_b S hS (6 * X + Y)
        have hw : wI (Y : Int) + 1 = wI ((Y + 1 : Nat) : Int) := by rw [wI_1, wI_add]; rfl
        have hxy : 10 * wI (X : Int) + wI (Y : Int) = wI ((10 * X + Y : Nat) : Int) := by rw [wI_10, wI_mul, wI_add]; rfl
        have hst : ∀ s', (if lg_cmp (wJ (tS S (fSc (6 * X + Y)))) s.2 ≤ 0 then K_likely_L41 now u (wI X) kx n s.1 s.2 (wI ((Y + 1 : Nat) : Int)) else K_likely_L41 now u (wI X) kx n (wI ((10 * X + Y : Nat) : Int)) (wJ (tS S (fSc (6 * X + Y)))) (wI ((Y + 1 : Nat) : Int))) = s' → K_likely_L41 now u (wI X) kx (n + 1) s.1 s.2 (wI (Y : Nat)) = s' := fun s' hs' => by
          rw [← hs', K_likely_L41, hn, if_neg (by rw [wI_lt (by omega) (by omega) (by omega) (by omega)]; omega), c_scoreAt (by omega) (by omega) hsc, z_let_e, z_let_e, z_let_e, z_let_e, hw, hxy]
        rcases hp with ⟨h1, h2, h3⟩ | ⟨x, y, h1, h2⟩
        · subst h1 h2 h3
          refine ⟨(wI ((10 * 0 + 0 : Nat) : Int), wJ (tS S (fSc (6 * 0 + 0)))), hst _ (if_neg (by
            rw [lg_cmp_le, show ((0, -1) : Int32 × Int64).2 = wJ (-1) from rfl, wJ_le (by omega) (by omega) (by omega) (by omega)]
            omega)), Or.inr ⟨0, 0, rfl, by omega, by omega, by omega, fun i j _ _ h => by omega, fun i j _ _ h => by
              have : i = 0 ∧ j = 0 := by omega
              rw [this.1, this.2]
              exact Int.le_refl _⟩⟩
        · obtain ⟨g1, g2, g3, g4, g5⟩ := h2
          subst h1
          have bt := tS_b S hS (6 * x + y)
          by_cases hle : tS S (fSc (6 * X + Y)) ≤ tS S (fSc (6 * x + y))
          · refine ⟨(wI ((10 * x + y : Nat) : Int), wJ (tS S (fSc (6 * x + y)))), hst _ (if_pos (by
              show lg_cmp _ (wJ (tS S (fSc (6 * x + y)))) ≤ 0
              rw [lg_cmp_le, wJ_le (by omega) (by omega) (by omega) (by omega)]; exact hle)), Or.inr ⟨x, y, rfl, g1, g2, by omega, g4, fun i j hi hj h => ?_⟩⟩
            by_cases hq : i = X ∧ j = Y
            · rw [hq.1, hq.2]; exact hle
            · exact g5 i j hi hj (by omega)
          · refine ⟨(wI ((10 * X + Y : Nat) : Int), wJ (tS S (fSc (6 * X + Y)))), hst _ (if_neg (by
              show ¬ lg_cmp _ (wJ (tS S (fSc (6 * x + y)))) ≤ 0
              rw [lg_cmp_le, wJ_le (by omega) (by omega) (by omega) (by omega)]; exact hle)), Or.inr ⟨X, Y, rfl, hX, by omega, by omega, fun i j hi hj h => ?_, fun i j hi hj h => ?_⟩⟩
            · have := g5 i j hi hj h
              show tS S (fSc (6 * i + j)) < tS S (fSc (6 * X + Y))
              have this : tS S (fSc (6 * i + j)) ≤ tS S (fSc (6 * x + y)) := this
              omega
            · by_cases hq : i = X ∧ j = Y
              · rw [hq.1, hq.2]; exact Int.le_refl _
              · have := g5 i j hi hj (by omega)
                show tS S (fSc (6 * i + j)) ≤ tS S (fSc (6 * X + Y))
                have this : tS S (fSc (6 * i + j)) ≤ tS S (fSc (6 * x + y)) := this
                omega)
      (fun n s _ => by
        simp only [K_likely_L41]
        rw [hn]
        exact if_pos (by rw [wI_lt (by omega) (by omega) (by omega) (by omega)]; omega)) (n := F) (s := s) (by omega) (by
          rcases h0 with h0 | h0
          · exact Or.inl ⟨h0.1, rfl, h0.2⟩
          · exact Or.inr h0)
    rcases hp with ⟨_, h2, _⟩ | ⟨x, y, h1, h2⟩
    · omega
    · refine ⟨x, y, ?_, h2.1, h2.2.1, by have := h2.2.2.1; have := h2.2.1; omega, h2.2.2.2.1, fun i j hi hj h => h2.2.2.2.2 i j hi hj (by omega)⟩
      subst h1
      exact e
  obtain ⟨s', e, hp⟩ := lp0 (fun n x (s : Int32 × Int64) => K_likely_L26 F now u n s.1 s.2 x) (fun s => some (s.1, u.1, u.2)) (sn S + 1) (fun X s => (X = 0 ∧ s = (0, -1)) ∨ ∃ x y : Nat, s = (wI ((10 * x + y : Nat) : Int), wJ (tS S (fSc (6 * x + y)))) ∧ fsc (fun t => tS S (fSc t)) (sn S) X 0 x y)
    (fun n X s hX hp => by
      obtain ⟨x, y, e, h⟩ := inner X (fun x20 x21 => z_let (wI (X : Int) + 1) (fun x28 : Int32 => K_likely_L26 F now u n x20 x21 x28)) s (by omega) hp
      refine ⟨(wI ((10 * x + y : Nat) : Int), wJ (tS S (fSc (6 * x + y)))), ?_, Or.inr ⟨x, y, rfl, h⟩⟩
      simp only [K_likely_L26]
      rw [hn, if_neg (by rw [wI_lt (by omega) (by omega) (by omega) (by omega)]; omega)]
      refine e.trans ?_
      show z_let _ _ = _
      rw [z_let_e, wI_1, wI_add]
      rfl)
    (fun n s _ => by
      simp only [K_likely_L26]
      rw [hn]
      exact if_pos (by rw [wI_lt (by omega) (by omega) (by omega) (by omega)]; omega)) (n := F) (s := (0, -1)) (by omega) (Or.inl ⟨rfl, rfl⟩)
  rcases hp with ⟨h1, _⟩ | ⟨x, y, h1, h2⟩
  · omega
  · subst h1
    exact ⟨x, y, h2, e⟩
theorem q_likely (hF : 1100 ≤ F) (hp : okP p ∨ p = p00) (hc : cP p now) (hm : mP p row) (hcl : cln fc) (tr : Sh) (bx : Bx) (mo : Mo) (wy : Wy) (wa : Wa) : ∃ r tr' fc' bx' mo' wy' wa', K_likely F now tr fc = some (r, tr', fc') ∧ M_likely F row bx mo wy wa = some (r, 0, bx', mo', wy', wa') ∧ cln fc' := by
  rcases hp with hp | rfl
  · have hS := hp.1
    have hn5 := hp.1.2.1
    obtain ⟨tr', fc', e1, cl, lv, en, sc⟩ := l_run (F := F) (by omega) hp hc hcl tr (gr := 1) (by omega)
    obtain ⟨bx', mo', wy', wa', e2, lw, en2, sc2⟩ := r_start hF hp hm bx mo wy wa
    have e1 : K_runFromStart F now tr fc 1 = some (tr', fc') := e1
    obtain ⟨x, y, ⟨g1, g2, g3, g4, g5⟩, eK⟩ := c_likely (F := F) hS hc.1.1 (tr', fc') (sc rfl) (by omega)
    obtain ⟨t, ⟨f1, f2, f3⟩, eM⟩ := r_likely (F := F) hS (bx', mo', wy', wa') sc2 (fun (x9 : Int32) => some ((((x9 / 6) * 10) + (z_rem x9 6)), 0, bx', mo', wy', wa')) (by omega)
    have htt : t = 6 * x + y := by
      obtain ⟨i, j, hij, hj⟩ : ∃ i j : Nat, t = 6 * i + j ∧ j ≤ 5 := ⟨t / 6, t % 6, by omega, by omega⟩
      by_cases hin : i ≤ sn p.1 ∧ j ≤ sn p.1
      · rcases Nat.lt_trichotomy t (6 * x + y) with h | h | h
        · have a1 := g4 i j hin.1 hin.2 (by omega)
          have a2 := f3 (6 * x + y) (by omega)
          rw [← hij] at a1
          have a1 : tS p.1 (fSc t) < tS p.1 (fSc (6 * x + y)) := a1
          have a2 : tS p.1 (fSc (6 * x + y)) ≤ tS p.1 (fSc t) := a2
          omega
        · exact h
        · have a1 := f2 (6 * x + y) h
          have a2 := g5 i j hin.1 hin.2 (by omega)
          rw [← hij] at a2
          have a1 : tS p.1 (fSc (6 * x + y)) < tS p.1 (fSc t) := a1
          have a2 : tS p.1 (fSc t) ≤ tS p.1 (fSc (6 * x + y)) := a2
          omega
      · have hz : tS p.1 (fSc t) = 0 := by rw [hij]; exact tS_0 hS hj (by omega)
        have a1 := f2 0 (by omega)
        have a2 := tS_b p.1 hS 0
        have a1 : tS p.1 (fSc 0) < tS p.1 (fSc t) := a1
        omega
    refine ⟨wI ((10 * x + y : Nat) : Int), tr', fc', bx', mo', wy', wa', ?_, ?_, cl⟩
    · unfold K_likely
      rw [if_neg (t_now hp hc).1, e1, z_bd_s]
      exact eK
    · unfold M_likely
      rw [if_neg (t_row hp hm), e2, z_bd_s]
      refine eM.trans ?_
      rw [htt, wI_6, wI_10, wI_div (by omega) (by omega) (by omega) (by omega), wI_mul, wI_rem (by omega) (by omega) (by omega) (by omega), wI_add]
      exact congrArg (fun z => some (wI z, (0 : Th), bx', mo', wy', wa')) (by omega)
  · refine ⟨-1, tr, fc, bx, mo, wy, wa, ?_, ?_, hcl⟩
    · unfold K_likely
      rw [if_pos (u_now hc)]
    · unfold M_likely
      rw [if_pos (u_row hm)]
/-! mean -/
noncomputable def sE (S : St) : Nat → Int
  | 0 => 2 * (sn S : Int) * tS S (fLV S)
  | i + 1 => sE S i + ((i + 1 : Nat) : Int) * tS S (fE S (i + 1))
theorem tE_b (hS : okS S) (t : Nat) : 0 ≤ tS S (fE S t) ∧ tS S (fE S t) ≤ 60466176 := by
  have h1 := p6_b (2 * sn S) (by have := hS.2.1; omega)
  have h2 : tS S (fE S t) ≤ 6 ^ (2 * sn S) := TW_le (fun _ _ _ _ => o01_le _) _ _ _ _ _
  exact ⟨TW_nn (fun _ _ _ _ => o01_nn _) _ _ _ _ _, by omega⟩
theorem sE_b (hS : okS S) : ∀ i : Nat, i ≤ 10 → 0 ≤ sE S i ∧ sE S i ≤ 604661760 * (i + 1)
  | 0, _ => by
    have h1 := p6_b (2 * sn S) (by have := hS.2.1; omega)
    have h2 : tS S (fLV S) ≤ 6 ^ (2 * sn S) := TW_le (fun _ _ _ _ => o01_le _) _ _ _ _ _
    have h3 : 0 ≤ tS S (fLV S) := TW_nn (fun _ _ _ _ => o01_nn _) _ _ _ _ _
    have h4 := Int.mul_nonneg (show 0 ≤ 2 * (sn S : Int) by omega) h3
    have h5 := Int.mul_le_mul_of_nonneg_right (show 2 * (sn S : Int) ≤ 10 by have := hS.2.1; omega) h3
    show 0 ≤ 2 * (sn S : Int) * tS S (fLV S) ∧ _
    refine ⟨h4, ?_⟩
    show 2 * (sn S : Int) * tS S (fLV S) ≤ _
    omega
  | i + 1, hi => by
    have ih := sE_b hS i (by omega)
    have hb := tE_b hS (i + 1)
    have h4 := Int.mul_nonneg (show 0 ≤ ((i + 1 : Nat) : Int) by omega) hb.1
    have h5 := Int.mul_le_mul_of_nonneg_right (show ((i + 1 : Nat) : Int) ≤ 10 by omega) hb.1
    show 0 ≤ sE S i + ((i + 1 : Nat) : Int) * tS S (fE S (i + 1)) ∧ sE S i + ((i + 1 : Nat) : Int) * tS S (fE S (i + 1)) ≤ _
    omega
theorem sE_z (hS : okS S) : ∀ j : Nat, sE S (2 * sn S + j) = sE S (2 * sn S)
  | 0 => rfl
  | j + 1 => by
    show sE S (2 * sn S + j) + ((2 * sn S + j + 1 : Nat) : Int) * tS S (fE S (2 * sn S + j + 1)) = _
    rw [sE_z hS j, show tS S (fE S (2 * sn S + j + 1)) = 0 from TW_E0 _ _ _ _ _ (by omega), Int.mul_zero, Int.add_zero]
theorem q_mean (hF : 1100 ≤ F) (hp : okP p ∨ p = p00) (hc : cP p now) (hm : mP p row) (hcl : cln fc) (tr : Sh) (to : Fr) (bx : Bx) (mo : Mo) (wy : Wy) (wa : Wa) (x : Int32) : ∃ r tr' fc' to' bx' mo' wy' wa', K_mean F now tr fc to x = some (r, tr', fc', to') ∧ M_mean F row bx mo wy wa x = some (r, 0, bx', mo', wy', wa') ∧ cln fc' := by
  obtain ⟨b, rfl, b1, b2⟩ := wI_of x
  rcases hp with hp | rfl
  · have hS := hp.1
    have hn1 := hp.1.1
    have hn5 := hp.1.2.1
    by_cases q2 : 0 ≤ b ∧ b ≤ 1
    · have n3 : ¬ K_isPart (wI b) = 0 := fun h => (part_z b1 b2).mp h q2
      have n4 : ¬ M_in (wI b).toInt64 0 1 = 0 := fun h => (in_z (lo := 0) (hi := 1) b1 b2 (by omega) (by omega) (by omega) (by omega)).mp h q2
      obtain ⟨tr', fc', e1, cl, lv, en, -⟩ := l_run (F := F) (by omega) hp hc hcl tr (gr := 0) (by omega)
      obtain ⟨bx', mo', wy', wa', e2, lw, en2, -⟩ := r_start hF hp hm bx mo wy wa
      have e1 : K_runFromStart F now tr fc 0 = some (tr', fc') := e1
      have hsb := sE_b hS (2 * sn p.1) (by omega)
      have hz10 : sE p.1 10 = sE p.1 (2 * sn p.1) := by
        have := sE_z hS (10 - 2 * sn p.1)
        rw [show 2 * sn p.1 + (10 - 2 * sn p.1) = 10 by omega] at this
        exact this
      have hp6 := p6 (2 * sn p.1)
      have hp62 := p6_b (2 * sn p.1) (by omega)
      obtain ⟨fr, er1, er2⟩ := rd_told (F := F) (by omega) (a := sE p.1 (2 * sn p.1)) (b := 6 ^ (2 * sn p.1)) (by omega) (by omega) (by omega) (by omega)
      have h2n : 2 * sh_shooters now = wI ((2 * sn p.1 : Nat) : Int) := by rw [hc.1.1, wI_2, wI_mul]; rfl
      -- the class's sum
      obtain ⟨K, hK⟩ : ∃ K : Int64 → Option (Int64 × Sh × Fc × Fr), K = fun (x15 : Int64) => z_let (Fr_put x15 (K_sixes (wI ((2 * sn p.1 : Nat) : Int)))) (fun u19 : Fr => z_bd (Fr_reduce F u19) (fun u20 : Fr => some (Fr_part u20 (wI b), tr', fc', u20))) := ⟨_, rfl⟩
      obtain ⟨s', eS, hs'⟩ := lpx (fun i => wI ((i + 1 : Nat) : Int)) (fun n x (s : Int64) => K_mean_L50 (tr', fc') (wI ((2 * sn p.1 : Nat) : Int)) K n s x) K (2 * sn p.1) (fun i s => s = wJ (sE p.1 i))
        (fun n i s hi hp => by
          refine ⟨wJ (sE p.1 (i + 1)), ?_, rfl⟩
          simp only [K_mean_L50]
          have he : Fc_endsAt fc' (wI ((i + 1 : Nat) : Int)) = wJ (tS p.1 (fE p.1 (i + 1))) := by
            unfold Fc_endsAt
            rw [if_neg (by rw [wI_0, wI_lt (by omega) (by omega) (by omega) (by omega)]; omega), if_neg (by rw [wI_11, wI_le (by omega) (by omega) (by omega) (by omega)]; omega), wI_ix (by omega), en _ (by omega)]
          rw [if_neg (by rw [wI_lt (by omega) (by omega) (by omega) (by omega)]; omega), he, hp, wI_l (by omega) (by omega), wJ_mul, wJ_add, z_let_e, z_let_e, wI_1, wI_add]
          rw [Int.mul_comm]
          rfl)
        (fun n s _ => by
          simp only [K_mean_L50]
          exact if_pos (by rw [wI_lt (by omega) (by omega) (by omega) (by omega)]; omega)) (2 * sn p.1) 0 F (wJ (sE p.1 0)) (by omega) (by omega) rfl
      -- the reference's
      obtain ⟨G, hG⟩ : ∃ G : Int64 → Option (Int64 × Th × Bx × Mo × Wy × Wa), G = fun (x11 : Int64) => z_bd (M_told F x11 (wy_leftWays wy') (wI b)) (fun r16 : Int64 => some (r16, 0, bx', mo', wy', wa')) := ⟨_, rfl⟩
      obtain ⟨t', eT, ht'⟩ := lpx (fun i => wI ((i + 1 : Nat) : Int)) (fun n x (s : Int64) => M_mean_L50 (bx', mo', wy', wa') G n s x) G 10 (fun i s => s = wJ (sE p.1 i))
        (fun n i s hi hp => by
          refine ⟨wJ (sE p.1 (i + 1)), ?_, rfl⟩
          simp only [M_mean_L50]
          rw [if_neg (by rw [wI_11, wI_le (by omega) (by omega) (by omega) (by omega)]; omega), z_gd_e (wI_in (by omega) (by omega) (by omega)), wI_ix (by omega), en2 _ (by omega), show fEz p.1 (i + 1) = fE p.1 (i + 1) from if_neg (by omega), hp, wI_l (by omega) (by omega), wJ_mul, wJ_add, z_let_e, z_let_e, wI_1, wI_add]
          rfl)
        (fun n s _ => by
          simp only [M_mean_L50]
          exact if_pos (by decide)) 10 0 F (wJ (sE p.1 0)) (by omega) (by omega) rfl
      refine ⟨Fr_part fr (wI b), tr', fc', fr, bx', mo', wy', wa', ?_, ?_, cl⟩
      · unfold K_mean
        rw [if_neg (t_now hp hc).1, if_neg n3, e1, z_bd_s, h2n, z_let_e, wI_l (by omega) (by omega), z_let_e, ← hK]
        have hx8 : fc_level fc' * wJ ((2 * sn p.1 : Nat) : Int) = wJ (sE p.1 0) := by
          rw [lv, wJ_mul, Int.mul_comm]
          rfl
        have eS : K_mean_L50 (tr', fc') (wI ((2 * sn p.1 : Nat) : Int)) K F (wJ (sE p.1 0)) 1 = K s' := eS
        rw [hx8, eS, hs', hK]
        show z_let _ _ = _
        rw [k_sixes _ (by omega), f_put (by omega) (by omega), z_let_e, er1, z_bd_s]
      · unfold M_mean
        rw [if_neg (t_row hp hm), if_neg n4, e2, z_bd_s, z_let_e, ← hG]
        have hx4 : 2 * ((M_n row).toInt64) * wy_endWays wy' 0 = wJ (sE p.1 0) := by
          unfold M_n
          rw [hm.1, wI_l (by omega) (by omega), wJ_2, wJ_mul, en2 0 (by omega), wJ_mul]
          rfl
        have eT : M_mean_L50 (bx', mo', wy', wa') G F (wJ (sE p.1 0)) 1 = G t' := eT
        rw [hx4, eT, ht', hG, hz10, lw]
        exact (z_bd_e (er2 (wI b))).trans rfl
    · refine ⟨-1, tr, fc, to, bx, mo, wy, wa, ?_, ?_, hcl⟩
      · unfold K_mean
        rw [if_neg (t_now hp hc).1, if_pos ((part_z b1 b2).mpr q2)]
      · unfold M_mean
        rw [if_neg (t_row hp hm)]
        exact if_pos ((in_z (lo := 0) (hi := 1) b1 b2 (by omega) (by omega) (by omega) (by omega)).mpr q2)
  · refine ⟨-1, tr, fc, to, bx, mo, wy, wa, ?_, ?_, hcl⟩
    · unfold K_mean
      rw [if_pos (u_now hc)]
    · unfold M_mean
      rw [if_pos (u_row hm)]
end ZWH

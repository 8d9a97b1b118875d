/-! The law's run: every call answers alike -/
def INV (ko : Ko) (tx : Tx) (now : Sh) (pa : Pa) (fc : Fc) (re : Re) (k0 k1 : Sh) (row : MRow) (un : Un) (kp : Kp) (mt : Mt) (ju : Ju) (rg : Nat → Sh) : Prop := ∃ (p : Po) (ps : List Po) (t : Nat → Nat) (l : Nat), (okP p ∨ p = p00) ∧ cP p now ∧ mP p row ∧ iT t l tx mt ∧ iPast ps pa rg un ∧ iRest p.1 re ∧ iKept p ko k0 k1 kp ∧ iJud ko ju ∧ cln fc
theorem lg_self (x : Int64) : lg_cmp x x = 0 := by rw [lg_cmp_eq]
theorem okp {p p' : Po} (h : okP p' ∨ (p' = p00 ∧ p = p00)) : okP p' ∨ p' = p00 := by
  rcases h with h | h
  · exact Or.inl h
  · exact Or.inr h.1
theorem kept_p {p p' : Po} {ko : Ko} {k0 k1 : Sh} {kp : Kp} (hk : iKept p ko k0 k1 kp) (h : okP p' ∨ (p' = p00 ∧ p = p00)) : iKept p' ko k0 k1 kp := by
  refine ⟨hk.1, fun e => ?_, hk.2.2.1, hk.2.2.2⟩
  rcases h with h | h
  · rw [e] at h
    exact absurd h.1.1 (by decide)
  · exact hk.2.1 h.2
theorem kept_ko {p : Po} {ko ko' : Ko} {k0 k1 : Sh} {kp : Kp} (hk : iKept p ko k0 k1 kp) (h : ko_isKept ko' = ko_isKept ko) : iKept p ko' k0 k1 kp := ⟨fun i hi => by rw [h]; exact hk.1 i hi, hk.2⟩
theorem jud_ko {ko ko' : Ko} {ju : Ju} (hj : iJud ko ju) (h1 : ko_verdict ko' = ko_verdict ko) (h2 : ko_hasVerdict ko' = ko_hasVerdict ko) : iJud ko' ju := ⟨by rw [h2]; exact hj.1, fun i hi => by rw [h1]; exact hj.2 i hi⟩
set_option maxHeartbeats 8000000 in
set_option maxRecDepth 100000 in
theorem law_run (xs : Nat → Int32) (L : Nat) (hL : L ≤ 2560) : ∀ (d i n : Nat) {ko : Ko} {tx : Tx} {now : Sh} {tr : Sh} {te : Te} {pa : Pa} {fc : Fc} {to : Fr} {tp : Fr} {re : Re} {k0 : Sh} {k1 : Sh} {ti : Sh} {th : Th} {row : MRow} {un : Un} {kp : Kp} {mt : Mt} {pz : Ps} {bx : Bx} {mo : Mo} {su : Su} {wy : Wy} {wa : Wa} {od : Od} {py : Py} {ju : Ju} {pl : Pl} {rs : Rs} {w : (Nat → Int64)} {rg : (Nat → Sh)}, L < i + 5 * d + 5 → i ≤ L → d < n → INV ko tx now pa fc re k0 k1 row un kp mt ju rg → L_law_L23 FF xs L n (wI (i : Nat)) ko tx now tr te pa fc to tp re k0 k1 ti th row un kp mt pz bx mo su wy wa od py ju pl rs w rg = some 1 := by
  have eL : Int32.ofNat L = wI (L : Nat) := Int32.ofInt_eq_ofNat.symm
  intro d
  induction d with
  | zero =>
    intro i n ko tx now tr te pa fc to tp re k0 k1 ti th row un kp mt pz bx mo su wy wa od py ju pl rs w rg h1 h2 h3 _
    obtain ⟨n, rfl⟩ : ∃ k, n = k + 1 := ⟨n - 1, by omega⟩
    rw [L_law_L23]
    exact if_pos (by rw [eL, wI_5, wI_sub, wI_lt (by omega) (by omega) (by omega) (by omega)]; omega)
  | succ d ih =>
    intro i n ko tx now tr te pa fc to tp re k0 k1 ti th row un kp mt pz bx mo su wy wa od py ju pl rs w rg h1 h2 h3 hI
    obtain ⟨n, rfl⟩ : ∃ k, n = k + 1 := ⟨n - 1, by omega⟩
    rw [L_law_L23]
    by_cases hend : L < i + 5
    · exact if_pos (by rw [eL, wI_5, wI_sub, wI_lt (by omega) (by omega) (by omega) (by omega)]; omega)
    refine (if_neg (by rw [eL, wI_5, wI_sub, wI_lt (by omega) (by omega) (by omega) (by omega)]; omega)).trans ?_
    obtain ⟨p, ps, t, l, hp, hc, hm, hT, hps, hre, hk, hj, hcl⟩ := hI
    have g0 : z_in (wI (i : Nat)) L = true := wI_in (by omega) (by omega) (by omega)
    have g1 : z_in (wI ((i + 1 : Nat) : Int)) L = true := wI_in (by omega) (by omega) (by omega)
    have g2 : z_in (wI ((i + 2 : Nat) : Int)) L = true := wI_in (by omega) (by omega) (by omega)
    have g3 : z_in (wI ((i + 3 : Nat) : Int)) L = true := wI_in (by omega) (by omega) (by omega)
    have g4 : z_in (wI ((i + 4 : Nat) : Int)) L = true := wI_in (by omega) (by omega) (by omega)
    have i1 : wI (i : Nat) + 1 = wI ((i + 1 : Nat) : Int) := by rw [wI_1, wI_add]; rfl
    have i2 : wI (i : Nat) + 2 = wI ((i + 2 : Nat) : Int) := by rw [wI_2, wI_add]; rfl
    have i3 : wI (i : Nat) + 3 = wI ((i + 3 : Nat) : Int) := by rw [wI_3, wI_add]; rfl
    have i4 : wI (i : Nat) + 4 = wI ((i + 4 : Nat) : Int) := by rw [wI_4, wI_add]; rfl
    have i5 : wI (i : Nat) + 5 = wI ((i + 5 : Nat) : Int) := by rw [wI_5, wI_add]; rfl
    have j1 : (wI ((i + 1 : Nat) : Int)).toNatClampNeg = i + 1 := wI_ix (by omega)
    have j2 : (wI ((i + 2 : Nat) : Int)).toNatClampNeg = i + 2 := wI_ix (by omega)
    have j3 : (wI ((i + 3 : Nat) : Int)).toNatClampNeg = i + 3 := wI_ix (by omega)
    have j4 : (wI ((i + 4 : Nat) : Int)).toNatClampNeg = i + 4 := wI_ix (by omega)
    refine (z_gd_e g0).trans ?_
    refine (z_let_e _ _).trans ?_
    generalize (xs (wI (i : Nat)).toNatClampNeg) &&& 63 = x39
    by_cases h_0 : x39 = 0
    · refine (if_pos h_0).trans ?_
      simp only [i5, i1, j1, g1, z_gd_t]
      obtain ⟨r, tx', mt', t', l', eK, eM, hT'⟩ := q_sign hT (xs (i + 1))
      rw [eK, z_bd_s, eM, z_bd_s]
      try dsimp only
      rw [if_pos rfl, z_let_e]
      refine ih (i + 5) n (by omega) (by omega) (by omega) ?_
      exact ⟨p, ps, t', l', hp, hc, hm, hT', hps, hre, hk, hj, hcl⟩
    refine (if_neg h_0).trans ?_
    by_cases h_1 : x39 = 1
    · refine (if_pos h_1).trans ?_
      simp only [i5, i1, j1, g1, z_gd_t]
      obtain ⟨r, tx', mt', l', eK, eM, hT'⟩ := q_end hT (xs (i + 1))
      rw [eK, z_let_e, eM, z_let_e]
      try dsimp only
      rw [if_pos rfl, z_let_e]
      refine ih (i + 5) n (by omega) (by omega) (by omega) ?_
      exact ⟨p, ps, t, l', hp, hc, hm, hT', hps, hre, hk, hj, hcl⟩
    refine (if_neg h_1).trans ?_
    by_cases h_2 : x39 = 2
    · refine (if_pos h_2).trans ?_
      simp only [i5]
      obtain ⟨r, ko', tx', now', tr', te', pa', re', row', un', kp', mt', pz', p', ps', l', eK, eM, hT', hp', hc', hm', hps', hre', hk', hv1, hv2⟩ := q_teams hp hc hm hps hre hT hk ti te pz
      rw [eK, z_bd_s, eM, z_bd_s]
      try dsimp only
      rw [if_pos rfl, z_let_e]
      refine ih (i + 5) n (by omega) (by omega) (by omega) ?_
      exact ⟨p', ps', t, l', hp', hc', hm', hT', hps', hre', hk', jud_ko hj hv1 hv2, hcl⟩
    refine (if_neg h_2).trans ?_
    by_cases h_3 : x39 = 3
    · refine (if_pos h_3).trans ?_
      simp only [i5, i1, j1, g1, i2, j2, g2, z_gd_t]
      obtain ⟨bx', mo', eM⟩ := q_side (F := FF) (by decide) hp hc hm bx mo (xs (i + 1)) (xs (i + 2))
      rw [eM, z_bd_s]
      try dsimp only
      rw [if_pos rfl, z_let_e]
      refine ih (i + 5) n (by omega) (by omega) (by omega) ?_
      exact ⟨p, ps, t, l, hp, hc, hm, hT, hps, hre, hk, hj, hcl⟩
    refine (if_neg h_3).trans ?_
    by_cases h_4 : x39 = 4
    · refine (if_pos h_4).trans ?_
      simp only [i5, i1, j1, g1, z_gd_t]
      obtain ⟨b, hb, hv⟩ : ∃ b : Nat, b ≤ 1 ∧ (if xs (i + 1) = 0 then (0 : Int32) else 1) = wI (b : Nat) := by
        by_cases h : xs (i + 1) = 0
        · exact ⟨0, by omega, by rw [if_pos h]; rfl⟩
        · exact ⟨1, by omega, by rw [if_neg h]; rfl⟩
      obtain ⟨r, now', pa', re', rg', row', un', bx', mo', p', ps', eK, eM, hpp, _, hc', hm', hps', hre'⟩ := q_kick (F := FF) (by decide) hp hc hm hps hre bx mo hb
      rw [hv, z_let_e, eK, z_bd_s, z_let_e, eM, z_bd_s]
      try dsimp only
      rw [if_pos rfl, z_let_e]
      refine ih (i + 5) n (by omega) (by omega) (by omega) ?_
      exact ⟨p', ps', t, l, okp hpp, hc', hm', hT, hps', hre', kept_p hk hpp, hj, hcl⟩
    refine (if_neg h_4).trans ?_
    by_cases h_5 : x39 = 5
    · refine (if_pos h_5).trans ?_
      simp only [i5]
      obtain ⟨r, tx', now', tr', pa', re', rg', row', un', mt', bx', mo', py', p', ps', l', eK, eM, hT', hpp, _, hc', hm', hps', hre'⟩ := q_play hp hc hm hps hre hT tr bx mo py
      rw [eK, z_bd_s, eM, z_bd_s]
      try dsimp only
      rw [if_pos rfl, z_let_e]
      refine ih (i + 5) n (by omega) (by omega) (by omega) ?_
      exact ⟨p', ps', t, l', okp hpp, hc', hm', hT', hps', hre', kept_p hk hpp, hj, hcl⟩
    refine (if_neg h_5).trans ?_
    by_cases h_6 : x39 = 6
    · refine (if_pos h_6).trans ?_
      simp only [i5]
      obtain ⟨r, ko', tx', tr', mt', bx', mo', py', ju', l', eK, eM, hT', hj', hkk⟩ := q_judge hp hc hm un hT hj tr bx mo py
      rw [eK, z_bd_s, eM, z_bd_s]
      try dsimp only
      rw [if_pos rfl, z_let_e]
      refine ih (i + 5) n (by omega) (by omega) (by omega) ?_
      exact ⟨p, ps, t, l', hp, hc, hm, hT', hps, hre, kept_ko hk hkk, hj', hcl⟩
    refine (if_neg h_6).trans ?_
    by_cases h_7 : x39 = 7
    · refine (if_pos h_7).trans ?_
      simp only [i5, i1, j1, g1, z_gd_t]
      rw [q_judged hj (xs (i + 1)), z_bd_s]
      try dsimp only
      rw [if_pos rfl, z_let_e]
      refine ih (i + 5) n (by omega) (by omega) (by omega) ?_
      exact ⟨p, ps, t, l, hp, hc, hm, hT, hps, hre, hk, hj, hcl⟩
    refine (if_neg h_7).trans ?_
    by_cases h_8 : x39 = 8
    · refine (if_pos h_8).trans ?_
      simp only [i5, i1, j1, g1, i2, j2, g2, i3, j3, g3, z_gd_t]
      obtain ⟨r, now', pa', re', rg', row', un', p', ps', eK, eM, hpp, _, hc', hm', hps', hre'⟩ := q_exchange (F := FF) (by decide) hp hc hm hps hre (xs (i + 1)) (xs (i + 2)) (xs (i + 3))
      rw [eK, z_bd_s, eM, z_bd_s]
      try dsimp only
      rw [if_pos rfl, z_let_e]
      refine ih (i + 5) n (by omega) (by omega) (by omega) ?_
      exact ⟨p', ps', t, l, okp hpp, hc', hm', hT, hps', hre', kept_p hk hpp, hj, hcl⟩
    refine (if_neg h_8).trans ?_
    by_cases h_9 : x39 = 9
    · refine (if_pos h_9).trans ?_
      simp only [i5, i1, j1, g1, z_gd_t]
      obtain ⟨r, now', pa', re', rg', row', un', p', ps', eK, eM, hpp, _, hc', hm', hps', hre'⟩ := q_order (F := FF) (by decide) hp hc hm hps hre (xs (i + 1))
      rw [eK, z_bd_s, eM, z_bd_s]
      try dsimp only
      rw [if_pos rfl, z_let_e]
      refine ih (i + 5) n (by omega) (by omega) (by omega) ?_
      exact ⟨p', ps', t, l, okp hpp, hc', hm', hT, hps', hre', kept_p hk hpp, hj, hcl⟩
    refine (if_neg h_9).trans ?_
    by_cases h_10 : x39 = 10
    · refine (if_pos h_10).trans ?_
      simp only [i5, i1, j1, g1, z_gd_t]
      obtain ⟨r, now', pa', re', rg', row', un', p', ps', eK, eM, hpp, _, hc', hm', hps', hre'⟩ := q_first (F := FF) (by decide) hp hc hm hps hre (xs (i + 1))
      rw [eK, z_bd_s, eM, z_bd_s]
      try dsimp only
      rw [if_pos rfl, z_let_e]
      refine ih (i + 5) n (by omega) (by omega) (by omega) ?_
      exact ⟨p', ps', t, l, okp hpp, hc', hm', hT, hps', hre', kept_p hk hpp, hj, hcl⟩
    refine (if_neg h_10).trans ?_
    by_cases h_11 : x39 = 11
    · refine (if_pos h_11).trans ?_
      simp only [i5, i1, j1, g1, z_gd_t]
      obtain ⟨bx', mo', eM⟩ := q_turn (F := FF) (by decide) hp hc hm bx mo (xs (i + 1))
      rw [eM, z_bd_s]
      try dsimp only
      rw [if_pos rfl, z_let_e]
      refine ih (i + 5) n (by omega) (by omega) (by omega) ?_
      exact ⟨p, ps, t, l, hp, hc, hm, hT, hps, hre, hk, hj, hcl⟩
    refine (if_neg h_11).trans ?_
    by_cases h_12 : x39 = 12
    · refine (if_pos h_12).trans ?_
      simp only [i5, i1, j1, g1, i2, j2, g2, z_gd_t]
      obtain ⟨r, fc', to', bx', mo', su', wy', wa', od', eK, eM, hcl'⟩ := q_odds (F := FF) (by decide) hp hc hm hcl to bx mo su wy wa od (xs (i + 1)) (xs (i + 2))
      rw [eK, z_bd_s, eM, z_bd_s]
      try dsimp only
      rw [if_pos (lg_self _), z_let_e]
      refine ih (i + 5) n (by omega) (by omega) (by omega) ?_
      exact ⟨p, ps, t, l, hp, hc, hm, hT, hps, hre, hk, hj, hcl'⟩
    refine (if_neg h_12).trans ?_
    by_cases h_13 : x39 = 13
    · refine (if_pos h_13).trans ?_
      simp only [i5, i1, j1, g1, z_gd_t]
      obtain ⟨r, tr', fc', to', bx', mo', su', wy', wa', od', eK, eM, hcl'⟩ := q_matters (F := FF) (by decide) hp hc hm hcl tr to bx mo su wy wa od (xs (i + 1))
      rw [eK, z_bd_s, eM, z_bd_s]
      try dsimp only
      rw [if_pos (lg_self _), z_let_e]
      refine ih (i + 5) n (by omega) (by omega) (by omega) ?_
      exact ⟨p, ps, t, l, hp, hc, hm, hT, hps, hre, hk, hj, hcl'⟩
    refine (if_neg h_13).trans ?_
    by_cases h_14 : x39 = 14
    · refine (if_pos h_14).trans ?_
      simp only [i5, i1, j1, g1, i2, j2, g2, i3, j3, g3, i4, j4, g4, z_gd_t]
      obtain ⟨r, tr', fc', to', bx', mo', su', wy', wa', od', eK, eM, hcl'⟩ := q_oddsBy (F := FF) (by decide) hp hc hm hcl tr to bx mo su wy wa od (xs (i + 1)) (xs (i + 2)) (xs (i + 3)) (xs (i + 4))
      rw [eK, z_bd_s, eM, z_bd_s]
      try dsimp only
      rw [if_pos (lg_self _), z_let_e]
      refine ih (i + 5) n (by omega) (by omega) (by omega) ?_
      exact ⟨p, ps, t, l, hp, hc, hm, hT, hps, hre, hk, hj, hcl'⟩
    refine (if_neg h_14).trans ?_
    by_cases h_15 : x39 = 15
    · refine (if_pos h_15).trans ?_
      simp only [i5, i1, j1, g1, i2, j2, g2, z_gd_t]
      obtain ⟨r, tr', fc', to', bx', mo', su', wy', wa', od', eK, eM, hcl'⟩ := q_unfair (F := FF) (by decide) hp hc hm hcl tr to bx mo su wy wa od (xs (i + 1)) (xs (i + 2))
      rw [eK, z_bd_s, eM, z_bd_s]
      try dsimp only
      rw [if_pos (lg_self _), z_let_e]
      refine ih (i + 5) n (by omega) (by omega) (by omega) ?_
      exact ⟨p, ps, t, l, hp, hc, hm, hT, hps, hre, hk, hj, hcl'⟩
    refine (if_neg h_15).trans ?_
    by_cases h_16 : x39 = 16
    · refine (if_pos h_16).trans ?_
      simp only [i5]
      obtain ⟨r, tr', fc', to', tp', bx', mo', su', wy', wa', od', eK, eM, hcl'⟩ := q_fairest (F := FF) (by decide) hp hc hm hcl tr to tp bx mo su wy wa od
      rw [eK, z_bd_s, eM, z_bd_s]
      try dsimp only
      rw [if_pos rfl, z_let_e]
      refine ih (i + 5) n (by omega) (by omega) (by omega) ?_
      exact ⟨p, ps, t, l, hp, hc, hm, hT, hps, hre, hk, hj, hcl'⟩
    refine (if_neg h_16).trans ?_
    by_cases h_17 : x39 = 17
    · refine (if_pos h_17).trans ?_
      simp only [i5, i1, j1, g1, i2, j2, g2, z_gd_t]
      obtain ⟨r, tr', fc', to', tp', bx', mo', su', wy', wa', od', eK, eM, hcl'⟩ := q_toss (F := FF) (by decide) hp hc hm hcl tr to tp bx mo su wy wa od (xs (i + 1)) (xs (i + 2))
      rw [eK, z_bd_s, eM, z_bd_s]
      try dsimp only
      rw [if_pos rfl, z_let_e]
      refine ih (i + 5) n (by omega) (by omega) (by omega) ?_
      exact ⟨p, ps, t, l, hp, hc, hm, hT, hps, hre, hk, hj, hcl'⟩
    refine (if_neg h_17).trans ?_
    by_cases h_18 : x39 = 18
    · refine (if_pos h_18).trans ?_
      simp only [i5, i1, j1, g1, z_gd_t]
      obtain ⟨r, tr', fc', bx', mo', wy', wa', eK, eM, hcl'⟩ := q_ends (F := FF) (by decide) hp hc hm hcl tr bx mo wy wa (xs (i + 1))
      rw [eK, z_bd_s, eM, z_bd_s]
      try dsimp only
      rw [if_pos (lg_self _), z_let_e]
      refine ih (i + 5) n (by omega) (by omega) (by omega) ?_
      exact ⟨p, ps, t, l, hp, hc, hm, hT, hps, hre, hk, hj, hcl'⟩
    refine (if_neg h_18).trans ?_
    by_cases h_19 : x39 = 19
    · refine (if_pos h_19).trans ?_
      simp only [i5, i1, j1, g1, i2, j2, g2, z_gd_t]
      obtain ⟨r, tr', fc', bx', mo', wy', wa', eK, eM, hcl'⟩ := q_score (F := FF) (by decide) hp hc hm hcl tr bx mo wy wa (xs (i + 1)) (xs (i + 2))
      rw [eK, z_bd_s, eM, z_bd_s]
      try dsimp only
      rw [if_pos (lg_self _), z_let_e]
      refine ih (i + 5) n (by omega) (by omega) (by omega) ?_
      exact ⟨p, ps, t, l, hp, hc, hm, hT, hps, hre, hk, hj, hcl'⟩
    refine (if_neg h_19).trans ?_
    by_cases h_20 : x39 = 20
    · refine (if_pos h_20).trans ?_
      simp only [i5]
      obtain ⟨r, tr', fc', bx', mo', wy', wa', eK, eM, hcl'⟩ := q_likely (F := FF) (by decide) hp hc hm hcl tr bx mo wy wa
      rw [eK, z_bd_s, eM, z_bd_s]
      try dsimp only
      rw [if_pos rfl, z_let_e]
      refine ih (i + 5) n (by omega) (by omega) (by omega) ?_
      exact ⟨p, ps, t, l, hp, hc, hm, hT, hps, hre, hk, hj, hcl'⟩
    refine (if_neg h_20).trans ?_
    by_cases h_21 : x39 = 21
    · refine (if_pos h_21).trans ?_
      simp only [i5, i1, j1, g1, z_gd_t]
      obtain ⟨r, tr', fc', to', bx', mo', wy', wa', eK, eM, hcl'⟩ := q_mean (F := FF) (by decide) hp hc hm hcl tr to bx mo wy wa (xs (i + 1))
      rw [eK, z_bd_s, eM, z_bd_s]
      try dsimp only
      rw [if_pos (lg_self _), z_let_e]
      refine ih (i + 5) n (by omega) (by omega) (by omega) ?_
      exact ⟨p, ps, t, l, hp, hc, hm, hT, hps, hre, hk, hj, hcl'⟩
    refine (if_neg h_21).trans ?_
    by_cases h_22 : x39 = 22
    · refine (if_pos h_22).trans ?_
      simp only [i5, i1, j1, g1, z_gd_t]
      obtain ⟨bx', mo', eM⟩ := q_needs (F := FF) (by decide) hp hc hm bx mo (xs (i + 1))
      rw [eM, z_bd_s]
      try dsimp only
      rw [if_pos rfl, z_let_e]
      refine ih (i + 5) n (by omega) (by omega) (by omega) ?_
      exact ⟨p, ps, t, l, hp, hc, hm, hT, hps, hre, hk, hj, hcl⟩
    refine (if_neg h_22).trans ?_
    by_cases h_23 : x39 = 23
    · refine (if_pos h_23).trans ?_
      simp only [i5, i1, j1, g1, i2, j2, g2, i3, j3, g3, z_gd_t]
      obtain ⟨r, tr', fc', to', bx', mo', su', wy', wa', od', pl', eK, eM, hcl'⟩ := q_oddsOf (F := FF) (by decide) hp hc hm hcl tr to bx mo su wy wa od pl (xs (i + 1)) (xs (i + 2)) (xs (i + 3))
      rw [eK, z_bd_s, eM, z_bd_s]
      try dsimp only
      rw [if_pos (lg_self _), z_let_e]
      refine ih (i + 5) n (by omega) (by omega) (by omega) ?_
      exact ⟨p, ps, t, l, hp, hc, hm, hT, hps, hre, hk, hj, hcl'⟩
    refine (if_neg h_23).trans ?_
    by_cases h_24 : x39 = 24
    · refine (if_pos h_24).trans ?_
      simp only [i5, i1, j1, g1, z_gd_t]
      obtain ⟨r, tr', fc', tp', bx', mo', su', wy', wa', od', pl', eK, eM, hcl'⟩ := q_best hp hc hm hcl tr tp bx mo su wy wa od pl (xs (i + 1))
      rw [eK, z_bd_s, eM, z_bd_s]
      try dsimp only
      rw [if_pos rfl, z_let_e]
      refine ih (i + 5) n (by omega) (by omega) (by omega) ?_
      exact ⟨p, ps, t, l, hp, hc, hm, hT, hps, hre, hk, hj, hcl'⟩
    refine (if_neg h_24).trans ?_
    by_cases h_25 : x39 = 25
    · refine (if_pos h_25).trans ?_
      simp only [i5, i1, j1, g1, i2, j2, g2, z_gd_t]
      obtain ⟨r, tr', fc', tp', bx', mo', su', wy', wa', od', pl', eK, eM, hcl'⟩ := q_climbed hp hc hm hcl tr tp bx mo su wy wa od pl (xs (i + 1)) (xs (i + 2))
      rw [eK, z_bd_s, eM, z_bd_s]
      try dsimp only
      rw [if_pos rfl, z_let_e]
      refine ih (i + 5) n (by omega) (by omega) (by omega) ?_
      exact ⟨p, ps, t, l, hp, hc, hm, hT, hps, hre, hk, hj, hcl'⟩
    refine (if_neg h_25).trans ?_
    by_cases h_26 : x39 = 26
    · refine (if_pos h_26).trans ?_
      simp only [i5, i1, j1, g1, z_gd_t]
      obtain ⟨r, tr', fc', re', z, eK, eM, hcl', hre'⟩ := q_rests hp hc hm hcl tr re hre bx mo su wy wa od pl rs (xs (i + 1))
      rw [eK, z_bd_s, eM, z_bd_s]
      try dsimp only
      rw [if_pos rfl, z_let_e]
      refine ih (i + 5) n (by omega) (by omega) (by omega) ?_
      exact ⟨p, ps, t, l, hp, hc, hm, hT, hps, hre', hk, hj, hcl'⟩
    refine (if_neg h_26).trans ?_
    by_cases h_27 : x39 = 27
    · refine (if_pos h_27).trans ?_
      simp only [i5, i1, j1, g1, i2, j2, g2, i3, j3, g3, i4, j4, g4, z_gd_t]
      obtain ⟨r, to', tp', eK, eM⟩ := q_guess to tp (xs (i + 1)) (xs (i + 2)) (xs (i + 3)) (xs (i + 4))
      rw [eK, z_bd_s, eM, z_bd_s]
      try dsimp only
      rw [if_pos rfl, z_let_e]
      refine ih (i + 5) n (by omega) (by omega) (by omega) ?_
      exact ⟨p, ps, t, l, hp, hc, hm, hT, hps, hre, hk, hj, hcl⟩
    refine (if_neg h_27).trans ?_
    by_cases h_28 : x39 = 28
    · refine (if_pos h_28).trans ?_
      simp only [i5, i1, j1, g1, i2, j2, g2, i3, j3, g3, z_gd_t]
      obtain ⟨r, tr', bx', mo', eK, eM⟩ := q_drawn (F := FF) (by decide) hp hc hm tr bx mo (xs (i + 1)) (xs (i + 2)) (xs (i + 3))
      rw [eK, z_bd_s, eM, z_bd_s]
      try dsimp only
      rw [if_pos rfl, z_let_e]
      refine ih (i + 5) n (by omega) (by omega) (by omega) ?_
      exact ⟨p, ps, t, l, hp, hc, hm, hT, hps, hre, hk, hj, hcl⟩
    refine (if_neg h_28).trans ?_
    by_cases h_29 : x39 = 29
    · refine (if_pos h_29).trans ?_
      simp only [i5]
      obtain ⟨r, now', pa', re', row', un', p', ps', eK, eM, hpp, _, hc', hm', hps', hre'⟩ := q_undo (F := FF) (by decide) hp hc hm hps hre
      rw [eK, z_bd_s, eM, z_bd_s]
      try dsimp only
      rw [if_pos rfl, z_let_e]
      refine ih (i + 5) n (by omega) (by omega) (by omega) ?_
      exact ⟨p', ps', t, l, okp hpp, hc', hm', hT, hps', hre', kept_p hk hpp, hj, hcl⟩
    refine (if_neg h_29).trans ?_
    by_cases h_30 : x39 = 30
    · refine (if_pos h_30).trans ?_
      simp only [i5, i1, j1, g1, z_gd_t]
      obtain ⟨r, ko', k0', k1', kp', eK, eM, hk', hv1, hv2⟩ := q_keep (F := FF) (by decide) hp hc hm hk (xs (i + 1))
      rw [eK, z_bd_s, eM, z_bd_s]
      try dsimp only
      rw [if_pos rfl, z_let_e]
      refine ih (i + 5) n (by omega) (by omega) (by omega) ?_
      exact ⟨p, ps, t, l, hp, hc, hm, hT, hps, hre, hk', jud_ko hj hv1 hv2, hcl⟩
    refine (if_neg h_30).trans ?_
    by_cases h_31 : x39 = 31
    · refine (if_pos h_31).trans ?_
      simp only [i5, i1, j1, g1, z_gd_t]
      obtain ⟨r, now', pa', re', rg', row', un', p', ps', eK, eM, hpp, _, hc', hm', hps', hre'⟩ := q_again (F := FF) (by decide) hp hc hm hk hps hre (xs (i + 1))
      rw [eK, z_bd_s, eM, z_bd_s]
      try dsimp only
      rw [if_pos rfl, z_let_e]
      refine ih (i + 5) n (by omega) (by omega) (by omega) ?_
      exact ⟨p', ps', t, l, okp hpp, hc', hm', hT, hps', hre', kept_p hk hpp, hj, hcl⟩
    refine (if_neg h_31).trans ?_
    by_cases h_32 : x39 = 32
    · refine (if_pos h_32).trans ?_
      simp only [i5, i1, j1, g1, z_gd_t]
      obtain ⟨r, w', b, bx', mo', eK, eM, hr0⟩ := q_made (F := FF) (by decide) hp hc hm bx mo w (xs (i + 1))
      rw [eK, z_let_e, z_let_e, eM, z_bd_s, z_let_e]
      try dsimp only
      rw [if_pos (show M_thrown r = r from rfl)]
      by_cases hr : r = 0
      · rw [if_pos hr, if_pos (show lg_cmp (w' 0) b.toInt64 = 0 by rw [hr0 hr]; exact lg_self _), z_let_e]
        refine ih (i + 5) n (by omega) (by omega) (by omega) ?_
        exact ⟨p, ps, t, l, hp, hc, hm, hT, hps, hre, hk, hj, hcl⟩
      · rw [if_neg hr, z_let_e]
        refine ih (i + 5) n (by omega) (by omega) (by omega) ?_
        exact ⟨p, ps, t, l, hp, hc, hm, hT, hps, hre, hk, hj, hcl⟩
    refine (if_neg h_32).trans ?_
    by_cases h_33 : x39 = 33
    · refine (if_pos h_33).trans ?_
      simp only [i5, i1, j1, g1, z_gd_t]
      obtain ⟨bx', mo', eM⟩ := q_count (F := FF) (by decide) hp hc hm (hT.2.2.1.trans hT.2.2.2.1.symm) (hps.2.2.1.trans hps.2.2.2.1.symm) bx mo (xs (i + 1))
      rw [eM, z_bd_s]
      try dsimp only
      rw [if_pos rfl, z_let_e]
      refine ih (i + 5) n (by omega) (by omega) (by omega) ?_
      exact ⟨p, ps, t, l, hp, hc, hm, hT, hps, hre, hk, hj, hcl⟩
    refine (if_neg h_33).trans ?_
    rw [i5, z_let_e]
    refine ih (i + 5) n (by omega) (by omega) (by omega) ?_
    exact ⟨p, ps, t, l, hp, hc, hm, hT, hps, hre, hk, hj, hcl⟩
theorem law0_ok (xs : Nat → Int32) (L : Nat) (hL : L ≤ 2560) : law0 FF 600 xs L = some 1 := by
  unfold law0
  refine law_run xs L hL 520 0 600 (by omega) (by omega) (by omega) ?_
  refine ⟨p00, [], (fun _ => 0), 0, Or.inr rfl, ⟨⟨rfl, rfl, rfl, fun i hi => rfl, fun i hi => rfl⟩, ⟨rfl, rfl, rfl, rfl, rfl⟩⟩, ⟨rfl, rfl, rfl, rfl, fun i hi => rfl, fun i hi => rfl, fun i hi => absurd hi (Nat.not_lt_zero i)⟩, ⟨by omega, fun i => by show 0 < 256; omega, rfl, rfl, fun i hi => absurd hi (Nat.not_lt_zero i), fun i hi => absurd hi (Nat.not_lt_zero i)⟩, ⟨Nat.zero_le _, fun q hq => absurd hq (List.not_mem_nil), rfl, rfl, 0, by omega, rfl, fun j q hj => absurd hj (by simp)⟩, Or.inl rfl, ⟨fun i hi => rfl, fun _ => ⟨rfl, rfl⟩, fun h => absurd rfl h, fun h => absurd rfl h⟩, ⟨rfl, fun i hi => rfl⟩, ⟨fun c hc => rfl, fun c hc => rfl⟩⟩

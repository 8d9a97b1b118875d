/-! The call teams -/
theorem c_forget (sh : Sh) : ∃ u, Sh_forgetAll FF sh = some u ∧ sh_order u = 0 ∧ sh_first u = 0 ∧ sh_kicks u = 0 ∧ sh_goalBits u = 0 ∧ sh_sideBits u = 0 ∧ sh_goalsOfA u = 0 ∧ sh_goalsOfB u = 0 ∧ (∀ i, i < 4 → sh_nerves u i = 0) ∧ (∀ i, i < 10 → sh_skills u i = 0) := by
  obtain ⟨P, hP⟩ : ∃ P : Sh → Prop, P = fun u => sh_order u = 0 ∧ sh_first u = 0 ∧ sh_kicks u = 0 ∧ sh_goalBits u = 0 ∧ sh_sideBits u = 0 ∧ sh_goalsOfA u = 0 ∧ sh_goalsOfB u = 0 := ⟨_, rfl⟩
  obtain ⟨u1, e1, h1, n1⟩ := lp0 (fun n x (s : Sh) => Sh_forgetAll_L21 (fun (sh8 : Sh) => Sh_forgetAll_L45 FF 0 sh8) n x s) (fun (sh8 : Sh) => Sh_forgetAll_L45 FF 0 sh8) 4 (fun i s => P s ∧ ∀ j, j < i → sh_nerves s j = 0)
    (fun n i s hi hp => by
      refine ⟨((sh_shooters s), (sh_order s), (sh_first s), (sh_kicks s), (sh_goalBits s), (sh_sideBits s), (sh_goalsOfA s), (sh_goalsOfB s), (upd (sh_nerves s) i 0), (sh_skills s)), ?_, by rw [hP] at hp ⊢; exact hp.1, fun j hj => ?_⟩
      · show Sh_forgetAll_L21 _ (n + 1) (wI (i : Nat)) s = _
        rw [Sh_forgetAll_L21, if_neg (by rw [wI_4, wI_le (by omega) (by omega) (by omega) (by omega)]; omega), z_gd_e (wI_in (by omega) (by omega) (by omega)), wI_1, wI_add, z_let_e, wI_ix (by omega)]
        rfl
      · show upd (sh_nerves s) i 0 j = 0
        by_cases e : j = i
        · rw [e, upd_s]
        · rw [upd_n e]; exact hp.2 j (by omega))
    (fun n s _ => by
      show Sh_forgetAll_L21 _ (n + 1) (wI ((4 : Nat) : Int)) s = _
      rw [Sh_forgetAll_L21, if_pos (by rw [wI_4, wI_le (by omega) (by omega) (by omega) (by omega)]; omega)]) (n := FF) (s := (0, 0, 0, 0, 0, 0, 0, 0, (sh_nerves sh), (sh_skills sh))) (by decide) ⟨by rw [hP]; exact ⟨rfl, rfl, rfl, rfl, rfl, rfl, rfl⟩, fun j hj => absurd hj (Nat.not_lt_zero j)⟩
  obtain ⟨u2, e2, ⟨h2, n2⟩, k2⟩ := lp0 (fun n x (s : Sh) => Sh_forgetAll_L45 n x s) (fun (sh8 : Sh) => some sh8) 10 (fun i s => (P s ∧ ∀ j, j < 4 → sh_nerves s j = 0) ∧ ∀ j, j < i → sh_skills s j = 0)
    (fun n i s hi hp => by
      refine ⟨((sh_shooters s), (sh_order s), (sh_first s), (sh_kicks s), (sh_goalBits s), (sh_sideBits s), (sh_goalsOfA s), (sh_goalsOfB s), (sh_nerves s), (upd (sh_skills s) i 0)), ?_, ⟨by rw [hP] at hp ⊢; exact hp.1.1, hp.1.2⟩, fun j hj => ?_⟩
      · show Sh_forgetAll_L45 (n + 1) (wI (i : Nat)) s = _
        rw [Sh_forgetAll_L45, if_neg (by rw [wI_10, wI_le (by omega) (by omega) (by omega) (by omega)]; omega), z_gd_e (wI_in (by omega) (by omega) (by omega)), wI_1, wI_add, z_let_e, wI_ix (by omega)]
        rfl
      · show upd (sh_skills s) i 0 j = 0
        by_cases e : j = i
        · rw [e, upd_s]
        · rw [upd_n e]; exact hp.2 j (by omega))
    (fun n s _ => by
      show Sh_forgetAll_L45 (n + 1) (wI ((10 : Nat) : Int)) s = _
      rw [Sh_forgetAll_L45, if_pos (by rw [wI_10, wI_le (by omega) (by omega) (by omega) (by omega)]; omega)]) (n := FF) (s := u1) (by decide) ⟨⟨h1, n1⟩, fun j hj => absurd hj (Nat.not_lt_zero j)⟩
  rw [hP] at h2
  refine ⟨u2, ?_, h2.1, h2.2.1, h2.2.2.1, h2.2.2.2.1, h2.2.2.2.2.1, h2.2.2.2.2.2.1, h2.2.2.2.2.2.2, n2, k2⟩
  unfold Sh_forgetAll
  rw [z_let_e]
  exact e1.trans e2
theorem m_blank (kx : Ps → Option (Int32 × Th × MRow × Un × Kp × Mt × Ps)) (rd fl g hd : Int32) (df tl : Nat → Int32) : ∃ df', M_teams_L36 kx FF 0 (rd, fl, g, df, hd, tl) = kx (rd, fl, g, df', hd, tl) ∧ ∀ i, i < 78 → df' i = 0 := by
  obtain ⟨u, e, h⟩ := lp0 (fun n x (s : Nat → Int32) => M_teams_L36 kx n x (rd, fl, g, s, hd, tl)) (fun s => kx (rd, fl, g, s, hd, tl)) 78 (fun i s => ∀ j, j < i → s j = 0)
    (fun n i s hi hp => by
      refine ⟨upd s i 0, ?_, fun j hj => ?_⟩
      · show M_teams_L36 kx (n + 1) (wI (i : Nat)) (rd, fl, g, s, hd, tl) = _
        rw [M_teams_L36, if_neg (by rw [wI_78, wI_le (by omega) (by omega) (by omega) (by omega)]; omega), z_gd_e (wI_in (by omega) (by omega) (by omega)), wI_1, wI_add, z_let_e, wI_ix (by omega)]
        rfl
      · by_cases e : j = i
        · rw [e, upd_s]
        · rw [upd_n e]; exact hp j (by omega))
    (fun n s _ => by
      show M_teams_L36 kx (n + 1) (wI ((78 : Nat) : Int)) (rd, fl, g, s, hd, tl) = _
      rw [M_teams_L36, if_pos (by rw [wI_78, wI_le (by omega) (by omega) (by omega) (by omega)]; omega)]) (n := FF) (s := df) (by decide) (fun j hj => absurd hj (Nat.not_lt_zero j))
  exact ⟨u, e, h⟩
theorem c_clearK (tx : Tx) (re : Re) (u1 : Int32 × Te × Sh) (u4 : Sh) (u5 : Pa) (ko : Ko) : K_teams_L57 tx re u1 u4 u5 FF 0 ko = some ((sh_shooters u4), ((upd (upd (ko_isKept ko) 0 (vp_nar .boolean 0)) 1 (vp_nar .boolean 0)), (ko_verdict ko), (ko_hasVerdict ko)), ((tx_signs tx), 0), u4, u1.2.1, u5, re0 re, u1.2.2) := by
  show K_teams_L57 tx re u1 u4 u5 (1997 + 1 + 1 + 1) 0 ko = _
  rw [K_teams_L57, if_neg (by decide), z_gd_e (by decide), z_let_e, K_teams_L57, if_neg (by decide), z_gd_e (by decide), z_let_e, K_teams_L57, if_pos (by decide)]
  rfl
theorem q_teams {p : Po} {ps : List Po} {now : Sh} {row : MRow} {pa : Pa} {rg : Nat → Sh} {un : Un} {re : Re} {t : Nat → Nat} {l : Nat} {tx : Tx} {mt : Mt} {ko : Ko} {k0 k1 : Sh} {kp : Kp} (hp : okP p ∨ p = p00) (hc : cP p now) (hm : mP p row) (hps : iPast ps pa rg un) (hre : iRest p.1 re) (hT : iT t l tx mt) (hk : iKept p ko k0 k1 kp) (tr : Sh) (te : Te) (pz : Ps) : ∃ (r : Int32) (ko' : Ko) (tx' : Tx) (now' tr' : Sh) (te' : Te) (pa' : Pa) (re' : Re) (row' : MRow) (un' : Un) (kp' : Kp) (mt' : Mt) (pz' : Ps) (p' : Po) (ps' : List Po) (l' : Nat), K_teams FF ko tx now te pa re tr = some (r, ko', tx', now', te', pa', re', tr') ∧ M_teams FF row un kp mt pz = some (r, 0, row', un', kp', mt', pz') ∧ iT t l' tx' mt' ∧ (okP p' ∨ p' = p00) ∧ cP p' now' ∧ mP p' row' ∧ iPast ps' pa' rg un' ∧ iRest p'.1 re' ∧ iKept p' ko' k0 k1 kp' ∧ ko_verdict ko' = ko_verdict ko ∧ ko_hasVerdict ko' = ko_hasVerdict ko := by
  have hl := hT.1
  obtain ⟨u1, eF, f1, f2, f3, f4, f5, f6, f7, f8, f9⟩ := c_forget tr
  have hadv := c_adv hT (te := ((upd (upd (te_counts te) 0 0) 1 0), (te_start te), 0, 0)) (e := 0) (by omega) rfl
  obtain ⟨df', eB, hB⟩ := m_blank (fun (ps7 : Ps) => z_bd (M_readLine FF mt ps7) (fun u11 : Ps => M_teams_L59 FF mt (k16 row un kp mt) FF u11)) 0 (ps_fault pz) 1 0 (ps_draft pz) (upd (upd (ps_tells pz) 0 0) 1 0)
  have hsb := skp_b t (show 0 ≤ l by omega)
  have c0 : ∀ f : Nat → Int32, upd (upd f 0 0) 1 0 0 = wI ((0 : Nat) : Int) := fun f => by rw [upd_n (by omega), upd_s]; rfl
  have c1 : ∀ f : Nat → Int32, upd (upd f 0 0) 1 0 1 = wI ((0 : Nat) : Int) := fun f => by rw [upd_s]; rfl
  have hD : DD S00 u1 df' := ⟨⟨Nat.zero_le _, Nat.zero_le _, fun i hi => by show (-3 : Int) ≤ 0 ∧ (0 : Int) ≤ 3; omega, fun i hi => by show (0 : Int) ≤ 0 ∧ (0 : Int) ≤ 6; omega⟩, ⟨f1, f2, fun i hi => f8 i hi, fun i hi => f9 i hi⟩, ⟨hB 1 (by omega), hB 2 (by omega), hB 3 (by omega), fun i hi => hB _ (by omega), fun i hi => hB _ (by omega)⟩, f3, f4, f5, f6, f7⟩
  have hrun := tx_run hT row un kp (l - skp t l 0) (skp t l 0) 0 FF FF 0 0 0 0 S00 ((upd (upd (te_counts te) 0 0) 1 0), wI (skp t l 0 : Nat), wI (en t l (skp t l 0) : Nat), 0) u1 (0, ps_fault pz, 1, df', 0, (upd (upd (ps_tells pz) 0 0) 1 0)) (by omega) (by show l - skp t l 0 < 2000; omega) (by show l - skp t l 0 < 2000; omega) (by omega) ⟨0, ps_fault pz, df', _, rfl, by omega, rfl, rfl, rfl, rfl, c0 (te_counts te), c1 (te_counts te), c0 (ps_tells pz), c1 (ps_tells pz), hD, by omega, by omega, fun _ => rfl, fun _ => rfl, fun _ => rfl, by omega, by omega⟩
  have eK : Te_readText FF te tx tr = Te_readText_L37 FF tx (k9 tx) (k10 tx) FF (wI ((0 : Nat) : Int)) ((upd (upd (te_counts te) 0 0) 1 0), wI (skp t l 0 : Nat), wI (en t l (skp t l 0) : Nat), 0) u1 := by
    unfold Te_readText
    rw [eF, z_bd_s, hadv, z_bd_s]
    rfl
  have eM : M_teams FF row un kp mt pz = z_bd (M_readLine FF mt (0, ps_fault pz, 1, df', 0, (upd (upd (ps_tells pz) 0 0) 1 0))) (fun u11 : Ps => M_teams_L59 FF mt (k16 row un kp mt) FF u11) := eB
  rw [← eK, ← eM] at hrun
  rcases hrun with ⟨f, te', sh', ps', hf, g1, g2⟩ | ⟨S, te', sh', row', ps', hS, hcc, hmm, g1, g2⟩
  · refine ⟨(-1000) - wI (f : Nat), ko, (tx_signs tx, 0), now, sh', te', pa, re, row, un, kp, (mt_text mt, 0), ps', p, ps, 0, ?_, g2, iT_0 hT, hp, hc, hm, hps, hre, hk, rfl, rfl⟩
    unfold K_teams
    rw [g1, z_bd_s, z_let_e, if_neg (by rw [wI_0, wI_lt (by omega) (by omega) (by omega) (by omega)]; omega)]
  · obtain ⟨now', e4, q1, q2⟩ := c_cp (F := FF) (by decide) hcc.1 hcc.2 now
    obtain ⟨_, _, _, _, nx, n1, n2, _⟩ := hps
    refine ⟨wI (sn S : Nat), ((upd (upd (ko_isKept ko) 0 (vp_nar .boolean 0)) 1 (vp_nar .boolean 0)), (ko_verdict ko), (ko_hasVerdict ko)), (tx_signs tx, 0), now', sh', te', (pa_next pa, 0), re0 re, row', _, _, (mt_text mt, 0), ps', (S, (fun _ => 0), 0), [], 0, ?_, g2, iT_0 hT, Or.inl ⟨hS, fun _ => Nat.zero_le _, Nat.zero_le _⟩, ⟨q1, q2⟩, hmm, ⟨Nat.zero_le _, fun q hq => absurd hq (List.not_mem_nil), rfl, rfl, nx, n1, n2, fun j q hj => absurd hj (by simp)⟩, Or.inl rfl, ⟨fun i hi => ?_, fun h => ?_, fun h => ?_, fun h => ?_⟩, rfl, rfl⟩
    · unfold K_teams
      rw [g1, z_bd_s, z_let_e, if_pos (show (-1 : Int32) < 0 by decide)]
      dsimp only
      rw [e4, z_bd_s, z_let_e, c_clearK, show sh_shooters now' = wI (sn S : Nat) from q1.1]
      rfl
    · show upd (upd (ko_isKept ko) 0 (vp_nar .boolean 0)) 1 (vp_nar .boolean 0) i = upd (upd (kp_isKept kp) 0 (vp_nar .boolean 0)) 1 (vp_nar .boolean 0) i
      have : i = 0 ∨ i = 1 := by omega
      rcases this with e | e
      · rw [e, upd_n (by omega), upd_s, upd_n (by omega), upd_s]
      · rw [e, upd_s, upd_s]
    · have : S = S00 := congrArg Prod.fst h
      rw [this] at hS
      exact absurd hS.1 (by decide)
    · refine absurd ?_ h
      show upd (upd (kp_isKept kp) 0 (vp_nar .boolean 0)) 1 (vp_nar .boolean 0) 0 = 0
      rw [upd_n (by omega), upd_s]
      rfl
    · refine absurd ?_ h
      show upd (upd (kp_isKept kp) 0 (vp_nar .boolean 0)) 1 (vp_nar .boolean 0) 1 = 0
      rw [upd_s]
      rfl

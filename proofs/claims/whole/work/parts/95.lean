/-! ACTS: kick, exchange, order, first -/
section ZAD
variable {p : Po} {ps : List Po} {now : Sh} {row : MRow} {F : Nat} {pa : Pa} {rg : Nat → Sh} {un : Un} {re : Re} {S : St} {gl : Nat → Nat} {k : Nat} {bx : Bx} {mo : Mo}
theorem r_make (hF : 1100 ≤ F) (hS : okS S) (hg : ∀ i, gl i ≤ 1) (hm : MR S gl k row) (hR : RS S row bx) (hM : RM S (mAt S gl k) mo) (hk : k ≤ 59) {b : Nat} (hb : b ≤ 1) : ∃ row' mo', M_make F row bx mo (wI (b : Nat)) = some (row', mo') ∧ MR S (glP gl k b) (k + 1) row' ∧ RS S row' bx ∧ RM S (mAt S (glP gl k b) (k + 1)) mo' := by
  obtain ⟨h1, h2, h3, h4, h5, h6, h7⟩ := hm
  obtain ⟨row', hrow⟩ : ∃ row', row' = upd (upd row (18 + k) (wI (b : Nat))) 3 (wI ((k + 1 : Nat) : Int)) := ⟨_, rfl⟩
  have hlow : ∀ i, i ≠ 3 → i < 18 → row' i = row i := fun i hi hi2 => by rw [hrow, upd_n hi, upd_n (by omega)]
  have hR' : RS S row' bx := ⟨(hlow 0 (by omega) (by omega)).trans hR.1, hR.2.1, hR.2.2.1, fun i hi => (hlow _ (by omega) (by omega)).trans (hR.2.2.2.1 i hi), hR.2.2.2.2⟩
  obtain ⟨mo', e, hM'⟩ := r_go (F := F) (by omega) hS hR' hM (okM_at hS hg k) (by rw [mAt_k]; omega) hb
  refine ⟨row', mo', ?_, ⟨(hlow 0 (by omega) (by omega)).trans h1, (hlow 1 (by omega) (by omega)).trans h2, (hlow 2 (by omega) (by omega)).trans h3, by rw [hrow, upd_s], fun i hi => (hlow _ (by omega) (by omega)).trans (h5 i hi), fun i hi => (hlow _ (by omega) (by omega)).trans (h6 i hi), fun i hi => ?_⟩, hR', by rw [mAt_P]; exact hM'⟩
  · unfold M_make
    rw [h4, wI_18, wI_add, z_gd_e (wI_in (by omega) (by omega) (by omega)), wI_nat (by omega) (by omega), show (18 + (k : Int)).toNat = 18 + k by omega, upd_n (show 3 ≠ 18 + k by omega), h4, wI_1, wI_add, z_let_e, show wI ((k : Int) + 1) = wI ((k + 1 : Nat) : Int) from rfl, ← hrow, e, z_bd_s]
  · rw [hrow, upd_n (by omega)]
    by_cases hik : i = k
    · rw [hik, upd_s, glP_s]
    · rw [upd_n (by omega), glP_n gl hik]
      exact h7 i (by omega)
theorem c_goalsS {s : Nat} (hs : s ≤ 1) (hM : CM S gl k now) : Sh_goalsOf now (wI (s : Nat)) = wI ((if s = 0 then (mAt S gl k).2.1 else (mAt S gl k).2.2.1 : Nat) : Int) := by
  unfold Sh_goalsOf
  have : s = 0 ∨ s = 1 := by omega
  rcases this with h | h
  · rw [h, if_pos (by decide), if_pos rfl]; exact hM.2.2.2.1
  · rw [h, if_neg (by decide), if_neg (by decide)]; exact hM.2.2.2.2
theorem q_kick (hF : 1600 ≤ F) (hp : okP p ∨ p = p00) (hc : cP p now) (hm : mP p row) (hps : iPast ps pa rg un) (hre : iRest p.1 re) (bx : Bx) (mo : Mo) {b : Nat} (hb : b ≤ 1) : ∃ (r : Int32) (now' : Sh) (pa' : Pa) (re' : Re) (rg' : Nat → Sh) (row' : MRow) (un' : Un) (bx' : Bx) (mo' : Mo) (p' : Po) (ps' : List Po), K_kick F now pa re rg (wI (b : Nat)) = some (r, now', pa', re', rg') ∧ M_kick F row un bx mo (wI (b : Nat)) = some (r, 0, row', un', bx', mo') ∧ (okP p' ∨ (p' = p00 ∧ p = p00)) ∧ (okP p → okP p') ∧ cP p' now' ∧ mP p' row' ∧ iPast ps' pa' rg' un' ∧ iRest p'.1 re' := by
  rcases hp with hp | rfl
  · obtain ⟨hS, hg, hk⟩ := hp
    have hp : okP p := ⟨hS, hg, hk⟩
    obtain ⟨bx1, mo1, e1, hR, hM⟩ := r_now (F := F) (by omega) hS hg hm hk bx mo
    have hgo := c_goesOn hS hc.1 hg hc.2 hk
    have hov := hM.2.2.2.2.2.2
    have hkk := hM.2.2.2.2.1
    rw [mAt_k] at hkk
    by_cases hend : p.2.2 = 60 ∨ mOv p.1 (mAt p.1 p.2.1 p.2.2) = 1
    · refine ⟨-3, now, pa, re, rg, row, un, bx1, mo1, p, ps, ?_, ?_, Or.inl hp, fun h => h, hc, hm, hps, hre⟩
      · unfold K_kick
        rw [if_neg (t_now hp hc).1, if_pos (hgo.mpr hend)]
      · unfold M_kick
        rw [if_neg (t_row hp hm), e1, z_bd_s]
        dsimp only
        rw [hov, hkk]
        rcases mOv_b p.1 (mAt p.1 p.2.1 p.2.2) with h | h
        · rw [h, if_pos (show wI 0 = 0 from rfl), if_pos (by rw [wI_60, wI_eq (by omega) (by omega) (by omega) (by omega)]; omega)]
        · rw [h, if_neg (show ¬ wI 1 = 0 by decide)]
    · have hk59 : p.2.2 ≤ 59 := by omega
      have hov0 : mOv p.1 (mAt p.1 p.2.1 p.2.2) = 0 := by rcases mOv_b p.1 (mAt p.1 p.2.1 p.2.2) with h | h; exact h; exact absurd (Or.inr h) hend
      obtain ⟨pa', rg', un', eK, eM, hps'⟩ := q_rem hF hp hc hm hps re
      have hkr := c_kicker hS hc.1 hg hc.2 (by omega)
      have hT : M_turnNow mo1 = wI (tnA p.1 p.2.1 p.2.2) := r_turn hM (okM_at hS hg p.2.2) (by rw [mAt_k]; omega)
      have hsb := tnA_b hS p.2.1 p.2.2
      obtain ⟨s, hs⟩ : ∃ s, s = tnA p.1 p.2.1 p.2.2 := ⟨_, rfl⟩
      rw [← hs] at hkr hT hsb
      have hput := c_putP hS hc.1 hg hc.2 (by omega) hb
      obtain ⟨row', mo', e2, hm', hR', hM'⟩ := r_make (F := F) (by omega) hS hg hm hR hM hk59 hb
      have hgl := glP_b (k := p.2.2) hg hb
      refine ⟨wI ((if s = 0 then (mAt p.1 (glP p.2.1 p.2.2 b) (p.2.2 + 1)).2.1 else (mAt p.1 (glP p.2.1 p.2.2 b) (p.2.2 + 1)).2.2.1 : Nat) : Int), Sh_put now (wI (b : Nat)), pa', re0 re, rg', row', un', bx1, mo', (p.1, glP p.2.1 p.2.2 b, p.2.2 + 1), (p :: ps).take 20, ?_, ?_, Or.inl ⟨hS, hgl, by show p.2.2 + 1 ≤ 60; omega⟩, fun _ => ⟨hS, hgl, by show p.2.2 + 1 ≤ 60; omega⟩, hput, hm', hps', Or.inl rfl⟩
      · unfold K_kick
        rw [if_neg (t_now hp hc).1, if_neg (fun h => hend (hgo.mp h)), eK, z_bd_s, hkr, z_let_e, z_let_e, c_goalsS hsb hput.2]
      · unfold M_kick
        have hv : (if wI (b : Int) = 0 then (0 : Int32) else 1) = wI (b : Nat) := by
          have : b = 0 ∨ b = 1 := by omega
          rcases this with h | h <;> rw [h] <;> rfl
        rw [if_neg (t_row hp hm), e1, z_bd_s]
        dsimp only
        rw [hov, hkk, hov0, if_pos (show wI 0 = 0 from rfl), if_neg (by rw [wI_60, wI_eq (by omega) (by omega) (by omega) (by omega)]; omega), eM, z_bd_s, hT, z_let_e, hv, z_let_e, e2, z_bd_s, z_gd_e (wI_in (by omega) (by omega) (by omega)), wI_ix (by omega)]
        have hgs : mo_goals mo' s = wI ((if s = 0 then (mAt p.1 (glP p.2.1 p.2.2 b) (p.2.2 + 1)).2.1 else (mAt p.1 (glP p.2.1 p.2.2 b) (p.2.2 + 1)).2.2.1 : Nat) : Int) := by
          have : s = 0 ∨ s = 1 := by omega
          rcases this with h | h
          · rw [h, if_pos rfl]; exact hM'.1
          · rw [h, if_neg (by decide)]; exact hM'.2.1
        show some (mo_goals mo' s, _) = _
        rw [hgs]
  · refine ⟨-2, now, pa, re, rg, row, un, bx, mo, p00, ps, ?_, ?_, Or.inr ⟨rfl, rfl⟩, fun h => h, hc, hm, hps, hre⟩
    · unfold K_kick
      rw [if_pos (u_now hc)]
    · unfold M_kick
      rw [if_pos (u_row hm)]
theorem CM_00 {S' : St} (h : CM S gl 0 now) : CM S' gl 0 now := h
theorem t_k0 (hk : k ≤ 60) (hM : CM S gl k now) (hm : MR S gl k row) : ((sh_kicks now ≤ 0) ↔ k = 0) ∧ ((row 3 ≤ 0) ↔ k = 0) := by
  rw [hM.1, hm.2.2.2.1, wI_0, wI_le (by omega) (by omega) (by omega) (by omega)]
  omega
theorem q_order (hF : 1600 ≤ F) (hp : okP p ∨ p = p00) (hc : cP p now) (hm : mP p row) (hps : iPast ps pa rg un) (hre : iRest p.1 re) (x : Int32) : ∃ (r : Int32) (now' : Sh) (pa' : Pa) (re' : Re) (rg' : Nat → Sh) (row' : MRow) (un' : Un) (p' : Po) (ps' : List Po), K_order F now pa re rg x = some (r, now', pa', re', rg') ∧ M_order F row un x = some (r, 0, row', un') ∧ (okP p' ∨ (p' = p00 ∧ p = p00)) ∧ (okP p → okP p') ∧ cP p' now' ∧ mP p' row' ∧ iPast ps' pa' rg' un' ∧ iRest p'.1 re' := by
  obtain ⟨a, rfl, a1, a2⟩ := wI_of x
  have hz : (M_in (wI a).toInt64 0 3 = 0) ↔ ¬ (0 ≤ a ∧ a ≤ 3) := in_z (lo := 0) (hi := 3) a1 a2 (by omega) (by omega) (by omega) (by omega)
  have same : okP p ∨ (p = p00 ∧ p = p00) := by
    rcases hp with hp | hp
    · exact Or.inl hp
    · exact Or.inr ⟨hp, hp⟩
  by_cases q : 0 ≤ a ∧ a ≤ 3
  · have n3 : ¬ K_isOrder (wI a) = 0 := fun h => (order_z a1 a2).mp h q
    rcases hp with hp | rfl
    · obtain ⟨hS, hg, hk⟩ := hp
      have hp : okP p := ⟨hS, hg, hk⟩
      obtain ⟨o, rfl⟩ : ∃ s : Nat, a = s := ⟨a.toNat, by omega⟩
      have hk0 := t_k0 hk hc.2 hm
      by_cases h0 : p.2.2 = 0
      · obtain ⟨pa', rg', un', eK, eM, hps'⟩ := q_rem hF hp hc hm hps re
        obtain ⟨S, gl, k⟩ := p
        have h0 : k = 0 := h0
        subst h0
        have hok : okP ((sn S, o, sf S, sv S, sk S), gl, 0) := ⟨⟨hS.1, hS.2.1, by show o ≤ 3; omega, hS.2.2.2.1, hS.2.2.2.2.1, hS.2.2.2.2.2⟩, hg, Nat.zero_le _⟩
        obtain ⟨h1, h2, h3, h4, h5, h6, h7⟩ := hm
        have hm : mP (S, gl, 0) row := ⟨h1, h2, h3, h4, h5, h6, h7⟩
        refine ⟨wI (so S : Nat), ((sh_shooters now), wI (o : Nat), (sh_first now), (sh_kicks now), (sh_goalBits now), (sh_sideBits now), (sh_goalsOfA now), (sh_goalsOfB now), (sh_nerves now), (sh_skills now)), pa', re0 re, rg', upd row 1 (wI (o : Nat)), un', ((sn S, o, sf S, sv S, sk S), gl, 0), ((S, gl, 0) :: ps).take 20, ?_, ?_, Or.inl hok, fun _ => hok, ⟨⟨hc.1.1, rfl, hc.1.2.2.1, hc.1.2.2.2.1, hc.1.2.2.2.2⟩, hc.2⟩, ?_, hps', Or.inl rfl⟩
        · unfold K_order
          rw [if_neg n3, if_neg (t_now hp hc).1, if_pos (hk0.1.mpr rfl), eK, z_bd_s, hc.1.2.1, z_let_e]
        · unfold M_order M_change
          rw [if_neg (fun h => hz.mp h q), if_neg (t_row hp hm), if_pos (hk0.2.mpr rfl), eM, z_bd_s, z_gd_e (show z_in 1 78 = true by decide), z_let_e, z_gd_e (show z_in 1 78 = true by decide), z_bd_s]
          show some (row 1, (0 : Th), upd row 1 (wI (o : Nat)), un') = _
          rw [h2]
        · refine ⟨by rw [upd_n (by omega)]; exact h1, upd_s _ _ _, by rw [upd_n (by omega)]; exact h3, by rw [upd_n (by omega)]; exact h4, fun i hi => by rw [upd_n (by omega)]; exact h5 i hi, fun i hi => by rw [upd_n (by omega)]; exact h6 i hi, fun i hi => absurd hi (Nat.not_lt_zero i)⟩
      · refine ⟨-3, now, pa, re, rg, row, un, p, ps, ?_, ?_, same, fun h => h, hc, hm, hps, hre⟩
        · unfold K_order
          rw [if_neg n3, if_neg (t_now hp hc).1, if_neg (fun h => h0 (hk0.1.mp h))]
        · unfold M_order M_change
          rw [if_neg (fun h => hz.mp h q), if_neg (t_row hp hm), if_neg (fun h => h0 (hk0.2.mp h)), z_bd_s]
    · refine ⟨-2, now, pa, re, rg, row, un, p00, ps, ?_, ?_, same, fun h => h, hc, hm, hps, hre⟩
      · unfold K_order
        rw [if_neg n3, if_pos (u_now hc)]
      · unfold M_order
        rw [if_neg (fun h => hz.mp h q), if_pos (u_row hm)]
  · refine ⟨-1, now, pa, re, rg, row, un, p, ps, ?_, ?_, same, fun h => h, hc, hm, hps, hre⟩
    · unfold K_order
      rw [if_pos ((order_z a1 a2).mpr q)]
    · unfold M_order
      rw [if_pos (hz.mpr q)]
theorem q_first (hF : 1600 ≤ F) (hp : okP p ∨ p = p00) (hc : cP p now) (hm : mP p row) (hps : iPast ps pa rg un) (hre : iRest p.1 re) (x : Int32) : ∃ (r : Int32) (now' : Sh) (pa' : Pa) (re' : Re) (rg' : Nat → Sh) (row' : MRow) (un' : Un) (p' : Po) (ps' : List Po), K_first F now pa re rg x = some (r, now', pa', re', rg') ∧ M_first F row un x = some (r, 0, row', un') ∧ (okP p' ∨ (p' = p00 ∧ p = p00)) ∧ (okP p → okP p') ∧ cP p' now' ∧ mP p' row' ∧ iPast ps' pa' rg' un' ∧ iRest p'.1 re' := by
  obtain ⟨a, rfl, a1, a2⟩ := wI_of x
  have same : okP p ∨ (p = p00 ∧ p = p00) := by
    rcases hp with hp | hp
    · exact Or.inl hp
    · exact Or.inr ⟨hp, hp⟩
  rcases hp with hp | rfl
  · obtain ⟨hS, hg, hk⟩ := hp
    have hp : okP p := ⟨hS, hg, hk⟩
    by_cases q : 0 ≤ a ∧ a ≤ 1
    · have n1 : ¬ K_isSideTold now (wI a) = 0 := fun h => (t_sd hp hc a1 a2).mp h q
      have n2 : ¬ M_isThere row (wI a) = 0 := fun h => (t_th hp hm a1 a2).mp h q
      obtain ⟨o, rfl⟩ : ∃ s : Nat, a = s := ⟨a.toNat, by omega⟩
      have hk0 := t_k0 hk hc.2 hm
      by_cases h0 : p.2.2 = 0
      · obtain ⟨pa', rg', un', eK, eM, hps'⟩ := q_rem hF hp hc hm hps re
        obtain ⟨S, gl, k⟩ := p
        have h0 : k = 0 := h0
        subst h0
        have hok : okP ((sn S, so S, o, sv S, sk S), gl, 0) := ⟨⟨hS.1, hS.2.1, hS.2.2.1, by show o ≤ 1; omega, hS.2.2.2.2.1, hS.2.2.2.2.2⟩, hg, Nat.zero_le _⟩
        obtain ⟨h1, h2, h3, h4, h5, h6, h7⟩ := hm
        have hm : mP (S, gl, 0) row := ⟨h1, h2, h3, h4, h5, h6, h7⟩
        refine ⟨wI (sf S : Nat), ((sh_shooters now), (sh_order now), wI (o : Nat), (sh_kicks now), (sh_goalBits now), (sh_sideBits now), (sh_goalsOfA now), (sh_goalsOfB now), (sh_nerves now), (sh_skills now)), pa', re0 re, rg', upd row 2 (wI (o : Nat)), un', ((sn S, so S, o, sv S, sk S), gl, 0), ((S, gl, 0) :: ps).take 20, ?_, ?_, Or.inl hok, fun _ => hok, ⟨⟨hc.1.1, hc.1.2.1, rfl, hc.1.2.2.2.1, hc.1.2.2.2.2⟩, hc.2⟩, ?_, hps', Or.inl rfl⟩
        · unfold K_first
          rw [if_neg n1, if_pos (hk0.1.mpr rfl), eK, z_bd_s, hc.1.2.2.1, z_let_e]
        · unfold M_first M_change
          rw [if_neg n2, if_pos (hk0.2.mpr rfl), eM, z_bd_s, z_gd_e (show z_in 2 78 = true by decide), z_let_e, z_gd_e (show z_in 2 78 = true by decide), z_bd_s]
          show some (row 2, (0 : Th), upd row 2 (wI (o : Nat)), un') = _
          rw [h3]
        · refine ⟨by rw [upd_n (by omega)]; exact h1, by rw [upd_n (by omega)]; exact h2, upd_s _ _ _, by rw [upd_n (by omega)]; exact h4, fun i hi => by rw [upd_n (by omega)]; exact h5 i hi, fun i hi => by rw [upd_n (by omega)]; exact h6 i hi, fun i hi => absurd hi (Nat.not_lt_zero i)⟩
      · refine ⟨-3, now, pa, re, rg, row, un, p, ps, ?_, ?_, same, fun h => h, hc, hm, hps, hre⟩
        · unfold K_first
          rw [if_neg n1, if_neg (fun h => h0 (hk0.1.mp h))]
        · unfold M_first M_change
          rw [if_neg n2, if_neg (fun h => h0 (hk0.2.mp h)), z_bd_s]
    · refine ⟨-2, now, pa, re, rg, row, un, p, ps, ?_, ?_, same, fun h => h, hc, hm, hps, hre⟩
      · unfold K_first
        rw [if_pos ((t_sd hp hc a1 a2).mpr q)]
      · unfold M_first
        rw [if_pos ((t_th hp hm a1 a2).mpr q)]
  · refine ⟨-2, now, pa, re, rg, row, un, p00, ps, ?_, ?_, same, fun h => h, hc, hm, hps, hre⟩
    · unfold K_first
      rw [if_pos (u_sd hc _)]
    · unfold M_first
      rw [if_pos (u_th hm _)]
theorem q_exchange (hF : 1600 ≤ F) (hp : okP p ∨ p = p00) (hc : cP p now) (hm : mP p row) (hps : iPast ps pa rg un) (hre : iRest p.1 re) (x y z : Int32) : ∃ (r : Int32) (now' : Sh) (pa' : Pa) (re' : Re) (rg' : Nat → Sh) (row' : MRow) (un' : Un) (p' : Po) (ps' : List Po), K_exchange F now pa re rg x y z = some (r, now', pa', re', rg') ∧ M_exchange F row un x y z = some (r, 0, row', un') ∧ (okP p' ∨ (p' = p00 ∧ p = p00)) ∧ (okP p → okP p') ∧ cP p' now' ∧ mP p' row' ∧ iPast ps' pa' rg' un' ∧ iRest p'.1 re' := by
  obtain ⟨a, rfl, a1, a2⟩ := wI_of x
  obtain ⟨b, rfl, b1, b2⟩ := wI_of y
  obtain ⟨c, rfl, c1, c2⟩ := wI_of z
  have same : okP p ∨ (p = p00 ∧ p = p00) := by
    rcases hp with hp | hp
    · exact Or.inl hp
    · exact Or.inr ⟨hp, hp⟩
  have stay : ∀ r : Int32, K_exchange F now pa re rg (wI a) (wI b) (wI c) = some (r, now, pa, re, rg) → M_exchange F row un (wI a) (wI b) (wI c) = some (r, 0, row, un) → ∃ (r : Int32) (now' : Sh) (pa' : Pa) (re' : Re) (rg' : Nat → Sh) (row' : MRow) (un' : Un) (p' : Po) (ps' : List Po), K_exchange F now pa re rg (wI a) (wI b) (wI c) = some (r, now', pa', re', rg') ∧ M_exchange F row un (wI a) (wI b) (wI c) = some (r, 0, row', un') ∧ (okP p' ∨ (p' = p00 ∧ p = p00)) ∧ (okP p → okP p') ∧ cP p' now' ∧ mP p' row' ∧ iPast ps' pa' rg' un' ∧ iRest p'.1 re' := fun r e1 e2 => ⟨r, now, pa, re, rg, row, un, p, ps, e1, e2, same, fun h => h, hc, hm, hps, hre⟩
  by_cases hbc : wI b = wI c
  · refine stay (-1) ?_ ?_
    · unfold K_exchange
      rw [if_pos hbc]
    · unfold M_exchange
      rw [if_pos hbc]
  have hbc' : b ≠ c := fun h => hbc (by rw [h])
  rcases hp with hp | rfl
  · obtain ⟨hS, hg, hk⟩ := hp
    have hp : okP p := ⟨hS, hg, hk⟩
    have hn1 := hS.1
    have hn5 := hS.2.1
    have shK : ∀ t : Int, -2147483648 ≤ t → t < 2147483648 → ((K_isShooter now (wI t) = 0) ↔ ¬ (0 ≤ t ∧ t ≤ (sn p.1 : Int) - 1)) := fun t h1 h2 => by
      unfold K_isShooter
      rw [hc.1.1, wI_0]
      simp (disch := omega) only [wI_lt, wI_le]
      by_cases q : t < 0
      · rw [if_pos q]; exact ⟨fun _ => by omega, fun _ => rfl⟩
      · rw [if_neg q]
        by_cases q2 : (sn p.1 : Int) ≤ t
        · rw [if_pos q2]; exact ⟨fun _ => by omega, fun _ => rfl⟩
        · rw [if_neg q2]; exact ⟨fun h => absurd h (by decide), fun h => absurd (by omega) h⟩
    have shM : ∀ t : Int, -2147483648 ≤ t → t < 2147483648 → ((M_isShooter row (wI t) = 0) ↔ ¬ (0 ≤ t ∧ t ≤ (sn p.1 : Int) - 1)) := fun t h1 h2 => by
      unfold M_isShooter M_n
      rw [hm.1, wI_l (a := (sn p.1 : Int)) (by omega) (by omega), wJ_1, wJ_sub]
      exact in_z (lo := 0) (hi := (sn p.1 : Int) - 1) h1 h2 (by omega) (by omega) (by omega) (by omega)
    by_cases q1 : 0 ≤ a ∧ a ≤ 1
    · have n1 : ¬ K_isSideTold now (wI a) = 0 := fun h => (t_sd hp hc a1 a2).mp h q1
      have n2 : ¬ M_isThere row (wI a) = 0 := fun h => (t_th hp hm a1 a2).mp h q1
      by_cases q2 : 0 ≤ b ∧ b ≤ (sn p.1 : Int) - 1
      · have n3 : ¬ K_isShooter now (wI b) = 0 := fun h => (shK b b1 b2).mp h q2
        have n4 : ¬ M_isShooter row (wI b) = 0 := fun h => (shM b b1 b2).mp h q2
        by_cases q3 : 0 ≤ c ∧ c ≤ (sn p.1 : Int) - 1
        · have n5 : ¬ K_isShooter now (wI c) = 0 := fun h => (shK c c1 c2).mp h q3
          have n6 : ¬ M_isShooter row (wI c) = 0 := fun h => (shM c c1 c2).mp h q3
          obtain ⟨s, rfl⟩ : ∃ s : Nat, a = s := ⟨a.toNat, by omega⟩
          obtain ⟨i, rfl⟩ : ∃ s : Nat, b = s := ⟨b.toNat, by omega⟩
          obtain ⟨j, rfl⟩ : ∃ s : Nat, c = s := ⟨c.toNat, by omega⟩
          have hk0 := t_k0 hk hc.2 hm
          by_cases h0 : p.2.2 = 0
          · obtain ⟨pa', rg', un', eK, eM, hps'⟩ := q_rem hF hp hc hm hps re
            obtain ⟨S, gl, k⟩ := p
            have h0 : k = 0 := h0
            subst h0
            have hS : okS S := hS
            have hn5 : sn S ≤ 5 := hn5
            have q2 : 0 ≤ (i : Int) ∧ (i : Int) ≤ (sn S : Int) - 1 := q2
            have q3 : 0 ≤ (j : Int) ∧ (j : Int) ≤ (sn S : Int) - 1 := q3
            obtain ⟨x7, hx7⟩ : ∃ x7 : Nat, x7 = 5 * s + i := ⟨_, rfl⟩
            obtain ⟨x8, hx8⟩ : ∃ x8 : Nat, x8 = 5 * s + j := ⟨_, rfl⟩
            obtain ⟨h1, h2, h3, h4, h5, h6, h7⟩ := hm
            have hm : mP (S, gl, 0) row := ⟨h1, h2, h3, h4, h5, h6, h7⟩
            have hC : CS S now := hc.1
            have hok : okP ((sn S, so S, sf S, sv S, fun t => if t = x8 then sk S x7 else if t = x7 then sk S x8 else sk S t), gl, 0) := by
              refine ⟨⟨hS.1, hS.2.1, hS.2.2.1, hS.2.2.2.1, hS.2.2.2.2.1, fun t ht => ?_⟩, hg, Nat.zero_le _⟩
              show 0 ≤ (if t = x8 then sk S x7 else if t = x7 then sk S x8 else sk S t) ∧ (if t = x8 then sk S x7 else if t = x7 then sk S x8 else sk S t) ≤ 6
              repeat' split
              · exact hS.2.2.2.2.2 _ (by omega)
              · exact hS.2.2.2.2.2 _ (by omega)
              · exact hS.2.2.2.2.2 _ ht
            have set : ∀ (sh : Sh) (t : Nat) (v : Int32), t < 5 → Sh_setSkill sh (wI (s : Nat)) (wI (t : Nat)) v = ((sh_shooters sh), (sh_order sh), (sh_first sh), (sh_kicks sh), (sh_goalBits sh), (sh_sideBits sh), (sh_goalsOfA sh), (sh_goalsOfB sh), (sh_nerves sh), (upd (sh_skills sh) (5 * s + t) v)) := fun sh t v ht => by
              unfold Sh_setSkill
              rw [z_let_e, wI_5, wI_mul, wI_add, if_neg (by rw [wI_0, wI_lt (by omega) (by omega) (by omega) (by omega)]; omega), if_neg (by rw [wI_10, wI_le (by omega) (by omega) (by omega) (by omega)]; omega), wI_nat (by omega) (by omega), show ((s : Int) * 5 + t).toNat = 5 * s + t by omega]
            have hC9 : CS (sn S, so S, sf S, sv S, fun t => if t = x8 then sk S x7 else if t = x7 then sk S x8 else sk S t) ((sh_shooters now), (sh_order now), (sh_first now), (sh_kicks now), (sh_goalBits now), (sh_sideBits now), (sh_goalsOfA now), (sh_goalsOfB now), (sh_nerves now), (upd (upd (sh_skills now) x7 (wI (sk S x8))) x8 (wI (sk S x7)))) := by
              refine ⟨hC.1, hC.2.1, hC.2.2.1, hC.2.2.2.1, fun t ht => ?_⟩
              show upd (upd (sh_skills now) x7 (wI (sk S x8))) x8 (wI (sk S x7)) t = wI (if t = x8 then sk S x7 else if t = x7 then sk S x8 else sk S t)
              by_cases e8 : t = x8
              · rw [if_pos e8, e8, upd_s]
              · rw [if_neg e8, upd_n e8]
                by_cases e7 : t = x7
                · rw [if_pos e7, e7, upd_s]
                · rw [if_neg e7, upd_n e7]
                  exact hC.2.2.2.2 t ht
            refine ⟨wI (sk S x8), ((sh_shooters now), (sh_order now), (sh_first now), (sh_kicks now), (sh_goalBits now), (sh_sideBits now), (sh_goalsOfA now), (sh_goalsOfB now), (sh_nerves now), (upd (upd (sh_skills now) x7 (wI (sk S x8))) x8 (wI (sk S x7)))), pa', re0 re, rg', upd (upd row (8 + x7) (wI (sk S x8))) (8 + x8) (wI (sk S x7)), un', ((sn S, so S, sf S, sv S, fun t => if t = x8 then sk S x7 else if t = x7 then sk S x8 else sk S t), gl, 0), ((S, gl, 0) :: ps).take 20, ?_, ?_, Or.inl hok, fun _ => hok, ⟨hC9, hc.2⟩, ?_, hps', Or.inl rfl⟩
            · have hsk : Sh_skillOf ((sh_shooters now), (sh_order now), (sh_first now), (sh_kicks now), (sh_goalBits now), (sh_sideBits now), (sh_goalsOfA now), (sh_goalsOfB now), (sh_nerves now), (upd (upd (sh_skills now) x7 (wI (sk S x8))) x8 (wI (sk S x7)))) (wI (s : Nat)) (wI (i : Nat)) = wI (sk S x8) := by
                rw [c_skillOf hC9 (by omega) (by omega), ← hx7]
                show wI (if x7 = x8 then sk S x7 else if x7 = x7 then sk S x8 else sk S x7) = _
                rw [if_neg (by omega), if_pos rfl]
              unfold K_exchange
              rw [if_neg hbc, if_neg n1, if_neg n3, if_neg n5, if_pos (hk0.1.mpr rfl), eK, z_bd_s, c_skillOf hC (by omega) (by omega), c_skillOf hC (by omega) (by omega), ← hx7, ← hx8, z_let_e, set now i _ (by omega), z_let_e, set _ j _ (by omega), z_let_e, ← hx7, ← hx8]
              dsimp only
              rw [hsk]
            · have i7 : 8 + 5 * wI (s : Int) + wI (i : Int) = wI ((8 + x7 : Nat) : Int) := by rw [wI_8, wI_5, wI_mul, wI_add, wI_add]; exact wI_c (by omega)
              have i8 : 8 + 5 * wI (s : Int) + wI (j : Int) = wI ((8 + x8 : Nat) : Int) := by rw [wI_8, wI_5, wI_mul, wI_add, wI_add]; exact wI_c (by omega)
              have g7 : z_in (wI ((8 + x7 : Nat) : Int)) 78 = true := wI_in (by omega) (by omega) (by omega)
              have g8 : z_in (wI ((8 + x8 : Nat) : Int)) 78 = true := wI_in (by omega) (by omega) (by omega)
              unfold M_exchange
              rw [if_neg hbc, if_neg n2, if_neg n4, if_neg n6, if_pos (hk0.2.mpr rfl), eM, z_bd_s, i7, i8, z_let_e, z_let_e, z_gd_e g7, z_let_e, z_gd_e g8, z_let_e, z_gd_e g7, z_gd_e g8, z_gd_e g7, wI_ix (by omega), wI_ix (by omega), h6 x7 (by omega), h6 x8 (by omega), upd_n (show 8 + x7 ≠ 8 + x8 by omega), upd_s]
            · refine ⟨by rw [upd_n (by omega), upd_n (by omega)]; exact h1, by rw [upd_n (by omega), upd_n (by omega)]; exact h2, by rw [upd_n (by omega), upd_n (by omega)]; exact h3, by rw [upd_n (by omega), upd_n (by omega)]; exact h4, fun t ht => by rw [upd_n (by omega), upd_n (by omega)]; exact h5 t ht, fun t ht => ?_, fun t ht => absurd ht (Nat.not_lt_zero t)⟩
              show upd (upd row (8 + x7) (wI (sk S x8))) (8 + x8) (wI (sk S x7)) (8 + t) = wI (if t = x8 then sk S x7 else if t = x7 then sk S x8 else sk S t)
              by_cases e8 : t = x8
              · rw [if_pos e8, e8, upd_s]
              · rw [if_neg e8, upd_n (by omega)]
                by_cases e7 : t = x7
                · rw [if_pos e7, e7, upd_s]
                · rw [if_neg e7, upd_n (by omega)]
                  exact h6 t ht
          · refine stay (-3) ?_ ?_
            · unfold K_exchange
              rw [if_neg hbc, if_neg n1, if_neg n3, if_neg n5, if_neg (fun h => h0 (hk0.1.mp h))]
            · unfold M_exchange
              rw [if_neg hbc, if_neg n2, if_neg n4, if_neg n6, if_neg (fun h => h0 (hk0.2.mp h))]
        · refine stay (-2) ?_ ?_
          · unfold K_exchange
            rw [if_neg hbc, if_neg n1, if_neg n3, if_pos ((shK c c1 c2).mpr q3)]
          · unfold M_exchange
            rw [if_neg hbc, if_neg n2, if_neg n4, if_pos ((shM c c1 c2).mpr q3)]
      · refine stay (-2) ?_ ?_
        · unfold K_exchange
          rw [if_neg hbc, if_neg n1, if_pos ((shK b b1 b2).mpr q2)]
        · unfold M_exchange
          rw [if_neg hbc, if_neg n2, if_pos ((shM b b1 b2).mpr q2)]
    · refine stay (-2) ?_ ?_
      · unfold K_exchange
        rw [if_neg hbc, if_pos ((t_sd hp hc a1 a2).mpr q1)]
      · unfold M_exchange
        rw [if_neg hbc, if_pos ((t_th hp hm a1 a2).mpr q1)]
  · refine stay (-2) ?_ ?_
    · unfold K_exchange
      rw [if_neg hbc, if_pos (u_sd hc _)]
    · unfold M_exchange
      rw [if_neg hbc, if_pos (u_th hm _)]
end ZAD

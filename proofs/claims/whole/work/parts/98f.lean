/-! TEXT of teams, the call teams -/
def k16 (row : MRow) (un : Un) (kp : Kp) (mt : Mt) : Ps → Option (Int32 × Th × MRow × Un × Kp × Mt × Ps) := fun (ps17 : Ps) => z_jn (fun ps21 : Ps => if (ps_isGood ps21) = 0 then (some (((-1000) - (ps_fault ps21)), 0, row, un, kp, ((mt_text mt), 0), ps21)) else (z_let ((ps_tells ps21) 0) (fun x25 : Int32 => M_teams_L156 ps21 x25 (fun (row32 : MRow) => some (M_n row32, 0, row32, ((un_undos un), 0), ((kp_kept kp), (upd (upd (kp_isKept kp) 0 (vp_nar .boolean 0)) 1 (vp_nar .boolean 0))), ((mt_text mt), 0), ((ps_reading ps21), (ps_fault ps21), (ps_isGood ps21), (upd (ps_draft ps21) 0 x25), (ps_had ps21), (ps_tells ps21)))) FF 0 row))) (fun k22 => if (ps_isGood ps17) = 0 then (k22 ps17) else (z_bd (M_isEnd FF mt ps17) (fun u39 : Int32 × Ps => z_jn (fun _ : Unit => z_let (M_wrong u39.2 (ps_reading u39.2)) (fun u42 : Ps => k22 u42)) (fun k40 => if u39.1 = 0 then (k40 ()) else (if ((ps_tells u39.2) 0) = 0 then (k40 ()) else (if ((ps_tells u39.2) 0) = ((ps_tells u39.2) 1) then (k22 u39.2) else (k40 ())))))))
def k9 (tx : Tx) : Te → Sh → Option (Int32 × Te × Sh) := fun (te11 : Te) (sh12 : Sh) => if ((te_counts te11) 0) = 0 then (some ((tx_length tx), te11, sh12)) else (if ((te_counts te11) 0) = ((te_counts te11) 1) then (z_let ((te_counts te11) 0) (fun x25 : Int32 => some ((-1), te11, (x25, (sh_order sh12), (sh_first sh12), (sh_kicks sh12), (sh_goalBits sh12), (sh_sideBits sh12), (sh_goalsOfA sh12), (sh_goalsOfB sh12), (sh_nerves sh12), (sh_skills sh12))))) else (some ((tx_length tx), te11, sh12)))
def k10 (tx : Tx) : Te → Sh → Option (Int32 × Te × Sh) := fun (te13 : Te) (sh14 : Sh) => if ((te_counts te13) 0) = 0 then (some ((tx_length tx), te13, sh14)) else (if ((te_counts te13) 0) = ((te_counts te13) 1) then (z_let ((te_counts te13) 0) (fun x28 : Int32 => some ((-1), te13, (x28, (sh_order sh14), (sh_first sh14), (sh_kicks sh14), (sh_goalBits sh14), (sh_sideBits sh14), (sh_goalsOfA sh14), (sh_goalsOfB sh14), (sh_nerves sh14), (sh_skills sh14))))) else (some ((tx_length tx), te13, sh14)))
section ZTM
variable {t : Nat → Nat} {l : Nat} {tx : Tx} {mt : Mt} {row : MRow} {un : Un} {kp : Kp}
theorem k_bad (row : MRow) (un : Un) (kp : Kp) (rd f : Int32) (df : Nat → Int32) (hd : Int32) (tl : Nat → Int32) : k16 row un kp mt (rd, f, 0, df, hd, tl) = some ((-1000) - f, 0, row, un, kp, (mt_text mt, 0), (rd, f, 0, df, hd, tl)) := by
  unfold k16
  rw [z_jn_e, if_pos rfl]
  dsimp only
  rw [if_pos rfl]
theorem m_isEnd (hT : iT t l tx mt) {r s : Nat} (hr : r ≤ l) (hs : skp t l r = s) (fl : Int32) (df : Nat → Int32) (hd : Int32) (tl : Nat → Int32) : M_isEnd FF mt (wI (r : Nat), fl, 1, df, hd, tl) = some (if s < l then 0 else 1, (wI (s : Nat), fl, 1, df, hd, tl)) := by
  have hl := hT.1
  have hb := skp_b t hr
  rw [hs] at hb
  unfold M_isEnd
  rw [m_next hT hr, z_bd_s, hs, hT.2.2.2.1]
  by_cases q : s < l
  · rw [if_pos q, if_pos (show wI (s : Nat) < wI (l : Nat) by rw [wI_lt (by omega) (by omega) (by omega) (by omega)]; omega), if_pos q]
    split <;> rfl
  · rw [if_neg q, if_pos rfl, if_neg (show ¬ wI (s : Nat) < wI (l : Nat) by rw [wI_lt (by omega) (by omega) (by omega) (by omega)]; omega), if_neg q]
theorem k_mid (hT : iT t l tx mt) (row : MRow) (un : Un) (kp : Kp) {s : Nat} (hs : s < l) (hss : skp t l s = s) (fl : Int32) (df : Nat → Int32) (hd : Int32) (tl : Nat → Int32) : k16 row un kp mt (wI (s : Nat), fl, 1, df, hd, tl) = some ((-1000) - wI (s : Nat), 0, row, un, kp, (mt_text mt, 0), (wI (s : Nat), wI (s : Nat), 0, df, hd, tl)) := by
  unfold k16
  rw [z_jn_e, if_neg (show ¬ (1 : Int32) = 0 by decide), m_isEnd hT (by omega) hss, z_bd_s, z_jn_e, if_pos hs, if_pos rfl]
  dsimp only [ps_reading]
  rw [m_wr1, z_let_e]
  dsimp only
  rw [if_pos rfl]
theorem k_endf (hT : iT t l tx mt) (row : MRow) (un : Un) (kp : Kp) (fl : Int32) (df : Nat → Int32) (hd : Int32) (tl : Nat → Int32) (hc : tl 0 = 0 ∨ ¬ tl 0 = tl 1) : k16 row un kp mt (wI (l : Nat), fl, 1, df, hd, tl) = some ((-1000) - wI (l : Nat), 0, row, un, kp, (mt_text mt, 0), (wI (l : Nat), wI (l : Nat), 0, df, hd, tl)) := by
  unfold k16
  rw [z_jn_e, if_neg (show ¬ (1 : Int32) = 0 by decide), m_isEnd hT (Nat.le_refl _) (skp_i t (Nat.le_refl _) (fun h => absurd h (Nat.lt_irrefl _))), z_bd_s, z_jn_e, if_neg (Nat.lt_irrefl _), if_neg (show ¬ (1 : Int32) = 0 by decide)]
  dsimp only [ps_reading, ps_tells]
  have e : M_wrong (wI (l : Nat), fl, 1, df, hd, tl) (wI (l : Nat)) = (wI (l : Nat), wI (l : Nat), 0, df, hd, tl) := m_wr1 _ _ _ _ _ _
  by_cases h0 : tl 0 = 0
  · rw [if_pos h0, e, z_let_e]
    dsimp only
    rw [if_pos rfl]
  · rw [if_neg h0]
    rcases hc with h | h
    · exact absurd h h0
    · rw [if_neg h, e, z_let_e]
      dsimp only
      rw [if_pos rfl]
theorem k_endt (hT : iT t l tx mt) (row : MRow) (un : Un) (kp : Kp) (fl : Int32) (df : Nat → Int32) (hd : Int32) (tl : Nat → Int32) (h0 : ¬ tl 0 = 0) (h1 : tl 0 = tl 1) : ∃ (row' : MRow) (ps' : Ps), k16 row un kp mt (wI (l : Nat), fl, 1, df, hd, tl) = some (row' 0, 0, row', ((un_undos un), 0), ((kp_kept kp), (upd (upd (kp_isKept kp) 0 (vp_nar .boolean 0)) 1 (vp_nar .boolean 0))), (mt_text mt, 0), ps') ∧ ∀ i, i < 78 → row' i = upd df 0 (tl 0) i := by
  obtain ⟨KZ, hKZ⟩ : ∃ KZ : MRow → Option (Int32 × Th × MRow × Un × Kp × Mt × Ps), KZ = fun (row32 : MRow) => some (M_n row32, 0, row32, ((un_undos un), 0), ((kp_kept kp), (upd (upd (kp_isKept kp) 0 (vp_nar .boolean 0)) 1 (vp_nar .boolean 0))), ((mt_text mt), 0), (wI (l : Nat), fl, 1, (upd df 0 (tl 0)), hd, tl)) := ⟨_, rfl⟩
  obtain ⟨row', e, h⟩ := lp0 (fun n x (s : MRow) => M_teams_L156 (wI (l : Nat), fl, 1, df, hd, tl) (tl 0) KZ n x s) KZ 78 (fun i s => ∀ j, j < i → s j = upd df 0 (tl 0) j)
    (fun n i s hi hp => by
      refine ⟨upd s i (upd df 0 (tl 0) i), ?_, fun j hj => ?_⟩
      · show M_teams_L156 (wI (l : Nat), fl, 1, df, hd, tl) (tl 0) KZ (n + 1) (wI (i : Nat)) s = _
        rw [M_teams_L156, if_neg (by rw [wI_78, wI_le (by omega) (by omega) (by omega) (by omega)]; omega), z_gd_e (wI_in (by omega) (by omega) (by omega)), z_let_e, z_gd_e (wI_in (by omega) (by omega) (by omega)), wI_1, wI_add, z_let_e, wI_ix (by omega)]
        rfl
      · by_cases e : j = i
        · rw [e, upd_s]
        · rw [upd_n e]; exact hp j (by omega))
    (fun n s _ => by
      show M_teams_L156 (wI (l : Nat), fl, 1, df, hd, tl) (tl 0) KZ (n + 1) (wI ((78 : Nat) : Int)) s = _
      rw [M_teams_L156, if_pos (by rw [wI_78, wI_le (by omega) (by omega) (by omega) (by omega)]; omega)]) (n := FF) (s := row) (by decide) (fun j hj => absurd hj (Nat.not_lt_zero j))
  refine ⟨row', (wI (l : Nat), fl, 1, (upd df 0 (tl 0)), hd, tl), ?_, h⟩
  unfold k16
  rw [z_jn_e, if_neg (show ¬ (1 : Int32) = 0 by decide), m_isEnd hT (Nat.le_refl _) (skp_i t (Nat.le_refl _) (fun h => absurd h (Nat.lt_irrefl _))), z_bd_s, z_jn_e, if_neg (Nat.lt_irrefl _), if_neg (show ¬ (1 : Int32) = 0 by decide)]
  dsimp only [ps_tells]
  rw [if_neg h0, if_pos h1]
  rw [if_neg (show ¬ (1 : Int32) = 0 by decide), z_let_e]
  have e : M_teams_L156 (wI (l : Nat), fl, 1, df, hd, tl) (tl 0) KZ FF 0 row = KZ row' := e
  rw [hKZ] at e
  exact e
def FIN (mt : Mt) (row : MRow) (un : Un) (kp : Kp) (K : Option (Int32 × Te × Sh)) (M : Option (Int32 × Th × MRow × Un × Kp × Mt × Ps)) : Prop :=
  (∃ (f : Nat) (te : Te) (sh : Sh) (ps : Ps), f ≤ 200 ∧ K = some (wI (f : Nat), te, sh) ∧ M = some ((-1000) - wI (f : Nat), 0, row, un, kp, (mt_text mt, 0), ps)) ∨
  (∃ (S : St) (te : Te) (sh : Sh) (row' : MRow) (ps : Ps), okS S ∧ cP (S, (fun _ => 0), 0) sh ∧ mP (S, (fun _ => 0), 0) row' ∧ K = some (-1, te, sh) ∧ M = some (wI (sn S : Nat), 0, row', ((un_undos un), 0), ((kp_kept kp), (upd (upd (kp_isKept kp) 0 (vp_nar .boolean 0)) 1 (vp_nar .boolean 0))), (mt_text mt, 0), ps))
theorem tx_run (hT : iT t l tx mt) (row : MRow) (un : Un) (kp : Kp) : ∀ (d s x n n' m h c0 c1 : Nat) (S : St) (te : Te) (sh : Sh) (ps : Ps), s + d = l → d < n → d < n' → x ≤ s → TR t l s m h c0 c1 S te sh ps → FIN mt row un kp (Te_readText_L37 FF tx (k9 tx) (k10 tx) n (wI (x : Nat)) te sh) (z_bd (M_readLine FF mt ps) (fun u11 : Ps => M_teams_L59 FF mt (k16 row un kp mt) n' u11)) := by
  have hl := hT.1
  intro d
  induction d using Nat.strongRecOn with
  | _ d ih =>
    intro s x n n' m h c0 c1 S te sh ps hd hn hn' hx hTR
    obtain ⟨n, rfl⟩ : ∃ k, n = k + 1 := ⟨n - 1, by omega⟩
    obtain ⟨n', rfl⟩ : ∃ k, n' = k + 1 := ⟨n' - 1, by omega⟩
    rw [Te_readText_L37, if_neg (by rw [wI_200, wI_lt (by omega) (by omega) (by omega) (by omega)]; omega)]
    rcases rl hT hTR with ⟨s', m', h', d0, d1, S', te', sh', ps', eK, eM, hTR', hlt⟩ | ⟨f, te', sh', rd, df, hd', tl, eK, eM, hf, hfl⟩ | ⟨f, te', sh', rd, df, hd', tl, eK, eM, hf, hf2, hfl, hf59⟩
    · rw [eK, eM, z_bd_s, z_bd_s, if_neg (show ¬ (1 : Int32) = 0 by decide)]
      obtain ⟨r, fl, df, tl, rfl, hr, hs, h1, h2, h3, h4, h5, h6, h7, hD, hm, hh, hmh, hm0, hm1, hc0, hc1⟩ := hTR'
      have hsl : s' ≤ l := by have := skp_b t hr; omega
      have hss := skp_s hr hs
      have htk := m_takes hT (c := 59) (by omega) (by omega) hr hs fl df (hdv m' h') tl
      rw [show wI ((59 : Nat) : Int) = 59 from wI_59.symm] at htk
      rw [M_teams_L59, htk]
      dsimp only
      rw [h1, hT.2.2.1]
      by_cases q : s' < l
      · rw [if_pos (by rw [wI_lt (by omega) (by omega) (by omega) (by omega)]; omega), c_tok1 hT (i0 := 7) (Or.inr rfl) hsl h1 h2, z_bd_s, show cb 7 0 = 59 by decide]
        by_cases q2 : t s' = 59
        · have hen : en t l s' = s' + 1 := en_1 t q (by omega)
          have hadv := c_adv hT (te := te') (e := s' + 1) (by omega) (by rw [h2, hen])
          have hsb := skp_b t (show s' + 1 ≤ l by omega)
          rw [o01_t ⟨q, q2⟩, if_neg (show ¬ wI 1 = 0 by decide), hadv, z_bd_s, wI_1, wI_add, z_let_e, show ((x : Int) + 1) = ((x + 1 : Nat) : Int) by omega, if_pos ⟨q, q2⟩, z_bd_s]
          rw [← wI_1, if_neg (show ¬ (1 : Int32) = 0 by decide)]
          exact ih (l - skp t l (s' + 1)) (by omega) (skp t l (s' + 1)) (x + 1) n n' m' h' d0 d1 S' _ sh' _ (by omega) (by omega) (by omega) (by omega) ⟨s' + 1, fl, df, tl, rfl, by omega, rfl, rfl, rfl, h3, h4, h5, h6, h7, hD, hm, hh, hmh, hm0, hm1, hc0, hc1⟩
        · rw [o01_f (fun h => q2 h.2), if_pos (show wI 0 = 0 from rfl), if_neg (fun h => q2 h.2), z_bd_s, if_pos rfl]
          dsimp only
          rw [k_mid hT row un kp q hss]
          exact Or.inl ⟨s', te', sh', _, by omega, rfl, rfl⟩
      · have hsl' : s' = l := by omega
        rw [if_neg (by rw [wI_lt (by omega) (by omega) (by omega) (by omega)]; omega), if_neg (fun h => q h.1), z_bd_s, if_pos rfl]
        dsimp only
        rw [hsl']
        unfold k10
        rw [h4, h5, hT.2.2.1]
        by_cases e0 : d0 = 0
        · rw [if_pos (by rw [e0]; rfl), k_endf hT row un kp _ _ _ _ (Or.inl (by rw [h6, e0]; rfl))]
          exact Or.inl ⟨l, _, _, _, by omega, rfl, rfl⟩
        · rw [if_neg (by rw [wI_0, wI_eq (by omega) (by omega) (by omega) (by omega)]; omega)]
          by_cases e1 : d0 = d1
          · obtain ⟨row', ps', eR, hR⟩ := k_endt hT row un kp fl df (hdv m' h') tl (by rw [h6, wI_0, wI_eq (by omega) (by omega) (by omega) (by omega)]; omega) (by rw [h6, h7, e1])
            rw [if_pos (by rw [e1]), z_let_e, eR]
            obtain ⟨⟨a1, a2, a3, a4⟩, ⟨b1, b2, b3, b4⟩, ⟨g1, g2, g3, g4, g5⟩, k1, k2, k3, k4, k5⟩ := hD
            have r0 : row' 0 = wI (d0 : Nat) := by rw [hR 0 (by omega), upd_s, h6]
            refine Or.inr ⟨(d0, so S', sf S', sv S', sk S'), te', (wI (d0 : Nat), (sh_order sh'), (sh_first sh'), (sh_kicks sh'), (sh_goalBits sh'), (sh_sideBits sh'), (sh_goalsOfA sh'), (sh_goalsOfB sh'), (sh_nerves sh'), (sh_skills sh')), row', ps', ⟨by show 1 ≤ d0; omega, hc0, a1, a2, a3, a4⟩, ⟨⟨rfl, b1, b2, b3, b4⟩, CM_0 k1 k2 k3 k4 k5⟩, ⟨r0, by rw [hR 1 (by omega), upd_n (by omega)]; exact g1, by rw [hR 2 (by omega), upd_n (by omega)]; exact g2, by rw [hR 3 (by omega), upd_n (by omega)]; exact g3, fun i hi => by rw [hR _ (by omega), upd_n (by omega)]; exact g4 i hi, fun i hi => by rw [hR _ (by omega), upd_n (by omega)]; exact g5 i hi, fun i hi => absurd hi (Nat.not_lt_zero i)⟩, rfl, ?_⟩
            rw [r0]
          · rw [if_neg (by rw [wI_eq (by omega) (by omega) (by omega) (by omega)]; omega), k_endf hT row un kp _ _ _ _ (Or.inr (by rw [h6, h7, wI_eq (by omega) (by omega) (by omega) (by omega)]; omega))]
            exact Or.inl ⟨l, _, _, _, by omega, rfl, rfl⟩
    · rw [eK, eM, z_bd_s, z_bd_s, if_pos rfl, M_teams_L59, m_takes0, z_bd_s, if_pos rfl]
      dsimp only
      rw [k_bad]
      exact Or.inl ⟨f, te', sh', _, by omega, by rw [hf], rfl⟩
    · rw [eK, eM, z_bd_s, z_bd_s, if_neg (show ¬ (1 : Int32) = 0 by decide)]
      dsimp only
      rw [hf, hT.2.2.1, if_pos (by rw [wI_lt (by omega) (by omega) (by omega) (by omega)]; omega), c_tok1 hT (i0 := 7) (Or.inr rfl) (by omega) hf hf2, z_bd_s, show cb 7 0 = 59 by decide, o01_f (fun h => hf59 h.2), if_pos (show wI 0 = 0 from rfl), M_teams_L59, m_takes0, z_bd_s, if_pos rfl]
      dsimp only
      rw [k_bad]
      exact Or.inl ⟨f, te', sh', _, by omega, rfl, rfl⟩
end ZTM

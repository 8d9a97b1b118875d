/-! PLAY and JUDGE -/
section ZPL
variable {p : Po} {ps : List Po} {now : Sh} {row : MRow} {pa : Pa} {rg : Nat → Sh} {un : Un} {re : Re} {S : St} {t : Nat → Nat} {l : Nat} {tx : Tx} {mt : Mt} {bx : Bx}
theorem pl_run (hS : okS S) (hT : iT t l tx mt) {gl0 : Nat → Nat} {k0 : Nat} {row0 : MRow} {un0 unR : Un} (hrem : M_remember FF row0 un0 = some unR) : ∀ (d i m m' : Nat) (gl : Nat → Nat) (k : Nat) (sh : Sh) (row : MRow) (un : Un) (mo : Mo), i + d = l → d < m → d < m' → k0 ≤ k → k ≤ 60 → (∀ i, gl i ≤ 1) → CS S sh → CM S gl k sh → MR S gl k row → RS S row bx → RM S (mAt S gl k) mo → (k = k0 ∧ gl = gl0 ∧ row = row0 ∧ un = un0 ∨ k0 < k ∧ un = unR) → ∃ (x : Int) (gl' : Nat → Nat) (k' : Nat) (sh' : Sh) (row' : MRow) (un' : Un) (mo' : Mo), K_playTextOnTrial_L2 tx m (wI (i : Nat)) sh = some (wI x, sh') ∧ M_goText_L7 FF mt bx 1 m' (wI (i : Nat)) row un mo (wI ((k : Int) - k0)) = some (wI x, row', un', mo', wI ((k' : Int) - k0)) ∧ -1 ≤ x ∧ x < 200 ∧ k0 ≤ k' ∧ k' ≤ 60 ∧ (∀ i, gl' i ≤ 1) ∧ CS S sh' ∧ CM S gl' k' sh' ∧ MR S gl' k' row' ∧ (k' = k0 ∧ gl' = gl0 ∧ row' = row0 ∧ un' = un0 ∨ k0 < k' ∧ un' = unR) := by
  have hh := hT
  obtain ⟨h1, h2, h3, h4, h5, h6⟩ := hh
  intro d
  induction d with
  | zero =>
    intro i m m' gl k sh row un mo hi hm hm' hk0 hk hg hC hM hMR hR hRM hor
    obtain ⟨m, rfl⟩ : ∃ k, m = k + 1 := ⟨m - 1, by omega⟩
    obtain ⟨m', rfl⟩ : ∃ k, m' = k + 1 := ⟨m' - 1, by omega⟩
    refine ⟨-1, gl, k, sh, row, un, mo, ?_, ?_, by omega, by omega, hk0, hk, hg, hC, hM, hMR, hor⟩
    · rw [K_playTextOnTrial_L2, if_pos (by rw [h3, wI_le (by omega) (by omega) (by omega) (by omega)]; omega), wI_m1]
    · rw [M_goText_L7, if_pos (by rw [h4, wI_le (by omega) (by omega) (by omega) (by omega)]; omega), wI_m1]
  | succ d ih =>
    intro i m m' gl k sh row un mo hi hm hm' hk0 hk hg hC hM hMR hR hRM hor
    obtain ⟨m, rfl⟩ : ∃ k, m = k + 1 := ⟨m - 1, by omega⟩
    obtain ⟨m', rfl⟩ : ∃ k, m' = k + 1 := ⟨m' - 1, by omega⟩
    have g : z_in (wI (i : Nat)) 200 = true := wI_in (by omega) (by omega) (by omega)
    have i1 : wI (i : Nat) + 1 = wI ((i + 1 : Nat) : Int) := by rw [wI_1, wI_add]; rfl
    have nK : ¬ tx_length tx ≤ wI (i : Nat) := by rw [h3, wI_le (by omega) (by omega) (by omega) (by omega)]; omega
    have nM : ¬ mt_texted mt ≤ wI (i : Nat) := by rw [h4, wI_le (by omega) (by omega) (by omega) (by omega)]; omega
    have hkk := hRM.2.2.2.2.1
    rw [mAt_k] at hkk
    have hov := hRM.2.2.2.2.2.2
    have hgo := c_goesOn hS hC hg hM hk
    by_cases q32 : t i = 32
    · obtain ⟨x, gl', k', sh', row', un', mo', e1, e2, e3⟩ := ih (i + 1) m m' gl k sh row un mo (by omega) (by omega) (by omega) hk0 hk hg hC hM hMR hR hRM hor
      refine ⟨x, gl', k', sh', row', un', mo', ?_, ?_, e3⟩
      · rw [K_playTextOnTrial_L2, if_neg nK, tx_at hT (by omega), z_let_e, if_pos ((c_32 _ (h2 i)).mpr q32), i1, z_let_e, e1]
      · rw [M_goText_L7, if_neg nM, z_gd_e g, wI_ix (by omega), h6 i (by omega), if_pos ((d_32 _ (h2 i)).mpr q32), i1, z_let_e, e2]
    · by_cases hend : k = 60 ∨ mOv S (mAt S gl k) = 1
      · refine ⟨i, gl, k, sh, row, un, mo, ?_, ?_, by omega, by omega, hk0, hk, hg, hC, hM, hMR, hor⟩
        · rw [K_playTextOnTrial_L2, if_neg nK, tx_at hT (by omega), z_let_e, if_neg (fun h => q32 ((c_32 _ (h2 i)).mp h)), if_pos (hgo.mpr hend)]
        · rw [M_goText_L7, if_neg nM, z_gd_e g, wI_ix (by omega), h6 i (by omega), if_neg (fun h => q32 ((d_32 _ (h2 i)).mp h)), hov, hkk]
          rcases mOv_b S (mAt S gl k) with h | h
          · rw [h, if_pos (show wI 0 = 0 from rfl), if_pos (by rw [wI_60, wI_eq (by omega) (by omega) (by omega) (by omega)]; omega)]
          · rw [h, if_neg (show ¬ wI 1 = 0 by decide)]
      · have hk59 : k ≤ 59 := by omega
        have hov0 : mOv S (mAt S gl k) = 0 := by rcases mOv_b S (mAt S gl k) with h | h; exact h; exact absurd (Or.inr h) hend
        obtain ⟨b, hb, hbK, hbM⟩ : ∃ b : Nat, b ≤ 1 ∧ (if wI (t i : Nat) = 120 then (1 : Int32) else 0) = wI (b : Nat) ∧ (if (wI (t i : Nat)).toInt8.toInt32 = 120 then (1 : Int32) else 0) = wI (b : Nat) := by
          by_cases q : t i = 120
          · exact ⟨1, by omega, by rw [if_pos ((c_120 _ (h2 i)).mpr q)]; rfl, by rw [if_pos ((d_120 _ (h2 i)).mpr q)]; rfl⟩
          · exact ⟨0, by omega, by rw [if_neg (fun h => q ((c_120 _ (h2 i)).mp h))]; rfl, by rw [if_neg (fun h => q ((d_120 _ (h2 i)).mp h))]; rfl⟩
        have hput := c_putP hS hC hg hM (by omega) hb
        obtain ⟨row2, mo2, e2, hMR2, hR2, hRM2⟩ := r_make (F := FF) (by decide) hS hg hMR hR hRM hk59 hb
        have hpy : wI ((k : Int) - k0) + 1 = wI (((k + 1 : Nat) : Int) - k0) := by rw [wI_1, wI_add]; exact wI_c (by omega)
        obtain ⟨x, gl', k', sh', row', un', mo', f1, f2, f3⟩ := ih (i + 1) m m' (glP gl k b) (k + 1) (Sh_put sh (wI (b : Nat))) row2 unR mo2 (by omega) (by omega) (by omega) (by omega) (by omega) (glP_b hg hb) hput.1 hput.2 hMR2 hR2 hRM2 (Or.inr ⟨by omega, rfl⟩)
        refine ⟨x, gl', k', sh', row', un', mo', ?_, ?_, f3⟩
        · rw [K_playTextOnTrial_L2, if_neg nK, tx_at hT (by omega), z_let_e, if_neg (fun h => q32 ((c_32 _ (h2 i)).mp h)), if_neg (fun h => hend (hgo.mp h)), hbK, z_let_e, z_let_e, i1, z_let_e, f1]
        · rw [M_goText_L7, if_neg nM, z_gd_e g, wI_ix (by omega), h6 i (by omega), if_neg (fun h => q32 ((d_32 _ (h2 i)).mp h)), hov, hkk, hov0, if_pos (show wI 0 = 0 from rfl), if_neg (by rw [wI_60, wI_eq (by omega) (by omega) (by omega) (by omega)]; omega), z_jn_e, if_neg (show ¬ (1 : Int32) = 0 by decide)]
          rcases hor with ⟨hk1, hgl, hrow, hun⟩ | ⟨hk1, hun⟩
          · rw [if_pos (show wI ((k : Int) - k0) = 0 by rw [hk1, show ((k0 : Int) - k0) = 0 by omega]; rfl), show M_remember FF row un = some unR by rw [hrow, hun]; exact hrem, z_bd_s]
            dsimp only
            rw [z_jn_e, if_neg (show ¬ (1 : Int32) = 0 by decide), z_gd_e g, hbM, z_let_e, e2, z_bd_s]
            dsimp only
            rw [hpy, z_let_e, i1, z_let_e, f2]
          · rw [if_neg (show ¬ wI ((k : Int) - k0) = 0 by rw [wI_0, wI_eq (by omega) (by omega) (by omega) (by omega)]; omega), hun]
            dsimp only
            rw [z_jn_e, if_neg (show ¬ (1 : Int32) = 0 by decide), z_gd_e g, hbM, z_let_e, e2, z_bd_s]
            dsimp only
            rw [hpy, z_let_e, i1, z_let_e, f2]
theorem ju_run (hS : okS S) (hT : iT t l tx mt) (hR : RS S row bx) (un : Un) : ∀ (d i m m' : Nat) (gl : Nat → Nat) (k : Nat) (sh : Sh) (mo : Mo), i + d = l → d < m → d < m' → k ≤ 60 → (∀ i, gl i ≤ 1) → CS S sh → CM S gl k sh → RM S (mAt S gl k) mo → ∃ (x : Int) (gl' : Nat → Nat) (k' : Nat) (sh' : Sh) (mo' : Mo), K_playTextOnTrial_L2 tx m (wI (i : Nat)) sh = some (wI x, sh') ∧ M_goText_L7 FF mt bx 0 m' (wI (i : Nat)) row un mo (wI (k : Nat)) = some (wI x, row, un, mo', wI (k' : Nat)) ∧ -1 ≤ x ∧ x < 200 ∧ k' ≤ 60 ∧ (∀ i, gl' i ≤ 1) ∧ CS S sh' ∧ CM S gl' k' sh' ∧ RM S (mAt S gl' k') mo' := by
  have hh := hT
  obtain ⟨h1, h2, h3, h4, h5, h6⟩ := hh
  intro d
  induction d with
  | zero =>
    intro i m m' gl k sh mo hi hm hm' hk hg hC hM hRM
    obtain ⟨m, rfl⟩ : ∃ k, m = k + 1 := ⟨m - 1, by omega⟩
    obtain ⟨m', rfl⟩ : ∃ k, m' = k + 1 := ⟨m' - 1, by omega⟩
    refine ⟨-1, gl, k, sh, mo, ?_, ?_, by omega, by omega, hk, hg, hC, hM, hRM⟩
    · rw [K_playTextOnTrial_L2, if_pos (by rw [h3, wI_le (by omega) (by omega) (by omega) (by omega)]; omega), wI_m1]
    · rw [M_goText_L7, if_pos (by rw [h4, wI_le (by omega) (by omega) (by omega) (by omega)]; omega), wI_m1]
  | succ d ih =>
    intro i m m' gl k sh mo hi hm hm' hk hg hC hM hRM
    obtain ⟨m, rfl⟩ : ∃ k, m = k + 1 := ⟨m - 1, by omega⟩
    obtain ⟨m', rfl⟩ : ∃ k, m' = k + 1 := ⟨m' - 1, by omega⟩
    have g : z_in (wI (i : Nat)) 200 = true := wI_in (by omega) (by omega) (by omega)
    have i1 : wI (i : Nat) + 1 = wI ((i + 1 : Nat) : Int) := by rw [wI_1, wI_add]; rfl
    have nK : ¬ tx_length tx ≤ wI (i : Nat) := by rw [h3, wI_le (by omega) (by omega) (by omega) (by omega)]; omega
    have nM : ¬ mt_texted mt ≤ wI (i : Nat) := by rw [h4, wI_le (by omega) (by omega) (by omega) (by omega)]; omega
    have hkk := hRM.2.2.2.2.1
    rw [mAt_k] at hkk
    have hov := hRM.2.2.2.2.2.2
    have hgo := c_goesOn hS hC hg hM hk
    by_cases q32 : t i = 32
    · obtain ⟨x, gl', k', sh', mo', e1, e2, e3⟩ := ih (i + 1) m m' gl k sh mo (by omega) (by omega) (by omega) hk hg hC hM hRM
      refine ⟨x, gl', k', sh', mo', ?_, ?_, e3⟩
      · rw [K_playTextOnTrial_L2, if_neg nK, tx_at hT (by omega), z_let_e, if_pos ((c_32 _ (h2 i)).mpr q32), i1, z_let_e, e1]
      · rw [M_goText_L7, if_neg nM, z_gd_e g, wI_ix (by omega), h6 i (by omega), if_pos ((d_32 _ (h2 i)).mpr q32), i1, z_let_e, e2]
    · by_cases hend : k = 60 ∨ mOv S (mAt S gl k) = 1
      · refine ⟨i, gl, k, sh, mo, ?_, ?_, by omega, by omega, hk, hg, hC, hM, hRM⟩
        · rw [K_playTextOnTrial_L2, if_neg nK, tx_at hT (by omega), z_let_e, if_neg (fun h => q32 ((c_32 _ (h2 i)).mp h)), if_pos (hgo.mpr hend)]
        · rw [M_goText_L7, if_neg nM, z_gd_e g, wI_ix (by omega), h6 i (by omega), if_neg (fun h => q32 ((d_32 _ (h2 i)).mp h)), hov, hkk]
          rcases mOv_b S (mAt S gl k) with h | h
          · rw [h, if_pos (show wI 0 = 0 from rfl), if_pos (by rw [wI_60, wI_eq (by omega) (by omega) (by omega) (by omega)]; omega)]
          · rw [h, if_neg (show ¬ wI 1 = 0 by decide)]
      · have hk59 : k ≤ 59 := by omega
        have hov0 : mOv S (mAt S gl k) = 0 := by rcases mOv_b S (mAt S gl k) with h | h; exact h; exact absurd (Or.inr h) hend
        obtain ⟨b, hb, hbK, hbM⟩ : ∃ b : Nat, b ≤ 1 ∧ (if wI (t i : Nat) = 120 then (1 : Int32) else 0) = wI (b : Nat) ∧ (if (wI (t i : Nat)).toInt8.toInt32 = 120 then (1 : Int32) else 0) = wI (b : Nat) := by
          by_cases q : t i = 120
          · exact ⟨1, by omega, by rw [if_pos ((c_120 _ (h2 i)).mpr q)]; rfl, by rw [if_pos ((d_120 _ (h2 i)).mpr q)]; rfl⟩
          · exact ⟨0, by omega, by rw [if_neg (fun h => q ((c_120 _ (h2 i)).mp h))]; rfl, by rw [if_neg (fun h => q ((d_120 _ (h2 i)).mp h))]; rfl⟩
        have hput := c_putP hS hC hg hM (by omega) hb
        obtain ⟨mo2, e2, hRM2⟩ := r_go (F := FF) (by decide) hS hR hRM (okM_at hS hg k) (by rw [mAt_k]; omega) hb
        rw [← mAt_P] at hRM2
        have hpy : wI (k : Nat) + 1 = wI ((k + 1 : Nat) : Int) := by rw [wI_1, wI_add]; rfl
        obtain ⟨x, gl', k', sh', mo', f1, f2, f3⟩ := ih (i + 1) m m' (glP gl k b) (k + 1) (Sh_put sh (wI (b : Nat))) mo2 (by omega) (by omega) (by omega) (by omega) (glP_b hg hb) hput.1 hput.2 hRM2
        refine ⟨x, gl', k', sh', mo', ?_, ?_, f3⟩
        · rw [K_playTextOnTrial_L2, if_neg nK, tx_at hT (by omega), z_let_e, if_neg (fun h => q32 ((c_32 _ (h2 i)).mp h)), if_neg (fun h => hend (hgo.mp h)), hbK, z_let_e, z_let_e, i1, z_let_e, f1]
        · rw [M_goText_L7, if_neg nM, z_gd_e g, wI_ix (by omega), h6 i (by omega), if_neg (fun h => q32 ((d_32 _ (h2 i)).mp h)), hov, hkk, hov0, if_pos (show wI 0 = 0 from rfl), if_neg (by rw [wI_60, wI_eq (by omega) (by omega) (by omega) (by omega)]; omega), z_jn_e, if_pos rfl]
          dsimp only
          rw [z_jn_e, if_pos rfl, z_gd_e g, hbM, z_let_e, e2, z_bd_s]
          dsimp only
          rw [hpy, z_let_e, i1, z_let_e, f2]
theorem iT_0 (h : iT t l tx mt) : iT t 0 (tx_signs tx, 0) (mt_text mt, 0) := ⟨by omega, h.2.1, rfl, rfl, fun i hi => absurd hi (Nat.not_lt_zero i), fun i hi => absurd hi (Nat.not_lt_zero i)⟩
theorem q_play (hp : okP p ∨ p = p00) (hc : cP p now) (hm : mP p row) (hps : iPast ps pa rg un) (hre : iRest p.1 re) (hT : iT t l tx mt) (tr : Sh) (bx : Bx) (mo : Mo) (py : Py) : ∃ (r : Int32) (tx' : Tx) (now' tr' : Sh) (pa' : Pa) (re' : Re) (rg' : Nat → Sh) (row' : MRow) (un' : Un) (mt' : Mt) (bx' : Bx) (mo' : Mo) (py' : Py) (p' : Po) (ps' : List Po) (l' : Nat), K_play FF tx now tr pa re rg = some (r, tx', now', tr', pa', re', rg') ∧ M_play FF row un mt bx mo py = some (r, 0, row', un', mt', bx', mo', py') ∧ iT t l' tx' mt' ∧ (okP p' ∨ (p' = p00 ∧ p = p00)) ∧ (okP p → okP p') ∧ cP p' now' ∧ mP p' row' ∧ iPast ps' pa' rg' un' ∧ iRest p'.1 re' := by
  rcases hp with hp | rfl
  · obtain ⟨hS, hg, hk⟩ := hp
    have hp : okP p := ⟨hS, hg, hk⟩
    obtain ⟨x, e1, e2, x1, x2⟩ := st_run hT l 0 FF FF (by omega) (by have := hT.1; show l < 2000; omega) (by have := hT.1; show l < 2000; omega)
    have e1 : Tx_firstBut FF tx 8 = some (wI x) := e1
    have e2 : M_strange FF mt = some (wI x) := e2
    by_cases q : x = -1
    · obtain ⟨pa', rg', un', eK, eM, hps'⟩ := q_rem (F := FF) (by decide) hp hc hm hps re
      obtain ⟨tr1, c1, c2, c3⟩ := c_cp (F := FF) (by decide) hc.1 hc.2 tr
      obtain ⟨bx1, mo1, m1, hR, hM⟩ := r_now (F := FF) (by decide) hS hg hm hk bx mo
      obtain ⟨y, gl', k', sh', row', un2, mo', f1, f2, f3, f4, f5, f6, f7, f8, f9, f10, f11⟩ := pl_run hS hT (gl0 := p.2.1) (k0 := p.2.2) (row0 := row) (un0 := un) eM l 0 FF FF p.2.1 p.2.2 tr1 row un mo1 (by omega) (by have := hT.1; show l < 2000; omega) (by have := hT.1; show l < 2000; omega) (Nat.le_refl _) hk hg c2 c3 hm hR hM (Or.inl ⟨rfl, rfl, rfl, rfl⟩)
      have f1 : K_playTextOnTrial FF tx tr1 = some (wI y, sh') := f1
      have f2 : M_goText FF row un mt bx1 mo1 1 = some (wI y, row', un2, mo', wI ((k' : Int) - p.2.2)) := by
        rw [show ((p.2.2 : Int) - p.2.2) = 0 by omega] at f2
        exact f2
      have hx6 : sh_kicks sh' - sh_kicks now = wI ((k' : Int) - p.2.2) := by rw [f9.1, hc.2.1, wI_sub]
      obtain ⟨rr, hrr⟩ : ∃ rr : Int32, rr = if y = -1 then wI ((k' : Int) - p.2.2) else (-1000) - wI y := ⟨_, rfl⟩
      have hKr : ∀ (a : Sh) (b : Pa) (c : Re) (d : Nat → Sh), (if wI y < 0 then (some (wI ((k' : Int) - p.2.2), a, sh', b, c, d)) else (some (((-1000) - wI y), a, sh', b, c, d))) = some (rr, a, sh', b, c, d) := fun a b c d => by
        by_cases hy : y = -1
        · rw [if_pos (by rw [wI_0, wI_lt (by omega) (by omega) (by omega) (by omega)]; omega), hrr, if_pos hy]
        · rw [if_neg (by rw [wI_0, wI_lt (by omega) (by omega) (by omega) (by omega)]; omega), hrr, if_neg hy]
      have hMr : (if wI y = (-1) then wI ((k' : Int) - p.2.2) else ((-1000) - wI y)) = rr := by
        by_cases hy : y = -1
        · rw [if_pos (by rw [hy]; rfl), hrr, if_pos hy]
        · rw [if_neg (by rw [wI_m1, wI_eq (by omega) (by omega) (by omega) (by omega)]; omega), hrr, if_neg hy]
      have hMP : M_play FF row un mt bx mo py = some (rr, 0, row', un2, ((mt_text mt), 0), bx1, mo', wI ((k' : Int) - p.2.2)) := by
        unfold M_play
        rw [z_jn_e, if_neg (t_row hp hm), e2, z_bd_s, z_jn_e, if_pos (by rw [q]; rfl), m1, z_bd_s, f2, z_bd_s, z_let_e]
        dsimp only
        rw [hMr, z_let_e]
      by_cases hkk : k' = p.2.2
      · rcases f11 with ⟨_, hgl, hrow, hun⟩ | ⟨hlt, _⟩
        · refine ⟨rr, (tx_signs tx, 0), now, sh', pa, re, rg, row', un2, (mt_text mt, 0), bx1, mo', wI ((k' : Int) - p.2.2), p, ps, 0, ?_, hMP, iT_0 hT, Or.inl hp, fun h => h, hc, by rw [hrow]; exact hm, by rw [hun]; exact hps, hre⟩
          unfold K_play K_playFromNow
          rw [z_jn_e, if_neg (t_now hp hc).1, e1, z_bd_s, if_pos (by rw [q]; decide), c1, z_bd_s, f1, z_bd_s, z_let_e]
          dsimp only
          rw [hx6, z_let_e, z_jn_e, if_pos (by rw [wI_0, wI_le (by omega) (by omega) (by omega) (by omega)]; omega)]
          dsimp only
          rw [hKr, z_bd_s]
        · exact absurd hkk (by omega)
      · rcases f11 with ⟨h, _⟩ | ⟨hlt, hun⟩
        · exact absurd h hkk
        · obtain ⟨now2, d1, d2, d3⟩ := c_cp (F := FF) (by decide) f8 f9 now
          have hok : okP (p.1, gl', k') := ⟨hS, f7, f6⟩
          refine ⟨rr, (tx_signs tx, 0), now2, sh', pa', re0 re, rg', row', un2, (mt_text mt, 0), bx1, mo', wI ((k' : Int) - p.2.2), (p.1, gl', k'), (p :: ps).take 20, 0, ?_, hMP, iT_0 hT, Or.inl hok, fun _ => hok, ⟨d2, d3⟩, f10, by rw [hun]; exact hps', Or.inl rfl⟩
          unfold K_play K_playFromNow
          rw [z_jn_e, if_neg (t_now hp hc).1, e1, z_bd_s, if_pos (by rw [q]; decide), c1, z_bd_s, f1, z_bd_s, z_let_e]
          dsimp only
          rw [hx6, z_let_e, z_jn_e, if_neg (by rw [wI_0, wI_le (by omega) (by omega) (by omega) (by omega)]; omega), eK, z_bd_s, d1, z_bd_s]
          dsimp only
          rw [hKr, z_bd_s]
    · refine ⟨(-1000) - wI x, (tx_signs tx, 0), now, tr, pa, re, rg, row, un, (mt_text mt, 0), bx, mo, py, p, ps, 0, ?_, ?_, iT_0 hT, Or.inl hp, fun h => h, hc, hm, hps, hre⟩
      · unfold K_play K_playFromNow
        rw [z_jn_e, if_neg (t_now hp hc).1, e1, z_bd_s, if_neg (by rw [wI_0, wI_lt (by omega) (by omega) (by omega) (by omega)]; omega), z_bd_s]
      · have nq : ¬ wI x = -1 := by rw [wI_m1, wI_eq (by omega) (by omega) (by omega) (by omega)]; omega
        unfold M_play
        rw [z_jn_e, if_neg (t_row hp hm), e2, z_bd_s, z_jn_e, if_neg nq]
        dsimp only
        rw [if_neg nq, z_let_e]
  · refine ⟨-2, (tx_signs tx, 0), now, tr, pa, re, rg, row, un, (mt_text mt, 0), bx, mo, py, p00, ps, 0, ?_, ?_, iT_0 hT, Or.inr ⟨rfl, rfl⟩, fun h => h, hc, hm, hps, hre⟩
    · unfold K_play
      rw [z_jn_e, if_pos (u_now hc)]
    · unfold M_play
      rw [z_jn_e, if_pos (u_row hm)]
theorem q_judge (hp : okP p ∨ p = p00) (hc : cP p now) (hm : mP p row) (un : Un) (hT : iT t l tx mt) {ko : Ko} {ju : Ju} (hj : iJud ko ju) (tr : Sh) (bx : Bx) (mo : Mo) (py : Py) : ∃ (r : Int32) (ko' : Ko) (tx' : Tx) (tr' : Sh) (mt' : Mt) (bx' : Bx) (mo' : Mo) (py' : Py) (ju' : Ju) (l' : Nat), K_judge FF ko tx now tr = some (r, ko', tx', tr') ∧ M_judge FF row un mt bx mo py ju = some (r, 0, row, un, mt', bx', mo', py', ju') ∧ iT t l' tx' mt' ∧ iJud ko' ju' ∧ ko_isKept ko' = ko_isKept ko := by
  rcases hp with hp | rfl
  · obtain ⟨hS, hg, hk⟩ := hp
    have hp : okP p := ⟨hS, hg, hk⟩
    obtain ⟨x, e1, e2, x1, x2⟩ := st_run hT l 0 FF FF (by omega) (by have := hT.1; show l < 2000; omega) (by have := hT.1; show l < 2000; omega)
    have e1 : Tx_firstBut FF tx 8 = some (wI x) := e1
    have e2 : M_strange FF mt = some (wI x) := e2
    by_cases q : x = -1
    · obtain ⟨tr1, c1, c2, c3⟩ := c_start (F := FF) (by decide) hc.1 tr
      obtain ⟨bx1, mo1, m1, hR, hM⟩ := r_beg (F := FF) (by decide) hS hm bx mo
      obtain ⟨y, gl', k', sh', mo', f1, f2, f3, f4, f5, f6, f7, f8, f9⟩ := ju_run hS hT hR un l 0 FF FF p.2.1 0 tr1 mo1 (by omega) (by have := hT.1; show l < 2000; omega) (by have := hT.1; show l < 2000; omega) (by omega) hg c2 (c3 _) hM
      have f1 : K_playTextOnTrial FF tx tr1 = some (wI y, sh') := f1
      have f2 : M_goText FF row un mt bx1 mo1 0 = some (wI y, row, un, mo', wI (k' : Nat)) := f2
      have hkk := f9.2.2.2.2.1
      rw [mAt_k] at hkk
      by_cases hy : y = -1
      · have g0 : Sh_goalsOf sh' 0 = mo_goals mo' 0 := by
          rw [f9.1]; exact c_goalsS (s := 0) (by omega) f8
        have g1 : Sh_goalsOf sh' 1 = mo_goals mo' 1 := by
          rw [f9.2.1]; exact c_goalsS (s := 1) (by omega) f8
        have g2 : Sh_isOver sh' = mo_isOver mo' := by
          rw [f9.2.2.2.2.2.2]; exact c_isOver hS f7 f6 f8 (by omega)
        have g3 : sh_kicks sh' = mo_kicks mo' := by rw [hkk]; exact f8.1
        obtain ⟨v2, hv2⟩ : ∃ v2 : Int32, v2 = if mo_isOver mo' = 0 then 0 else 1 := ⟨_, rfl⟩
        obtain ⟨v3, hv3⟩ : ∃ v3 : Int32, v3 = if mo_kicks mo' = 0 then (-1) else ((mo_kicks mo' - 1) / 2) := ⟨_, rfl⟩
        refine ⟨wI (k' : Nat), ((ko_isKept ko), (upd (upd (upd (upd (ko_verdict ko) 0 (mo_goals mo' 0)) 1 (mo_goals mo' 1)) 2 v2) 3 v3), 1), (tx_signs tx, 0), sh', (mt_text mt, 0), bx1, mo', wI (k' : Nat), ((upd (upd (upd (upd (ju_judged ju) 0 (mo_goals mo' 0)) 1 (mo_goals mo' 1)) 2 v2) 3 v3), 1), 0, ?_, ?_, iT_0 hT, ⟨rfl, fun i hi => ?_⟩, rfl⟩
        · unfold K_judge K_judgeFromStart
          rw [z_jn_e, if_neg (t_now hp hc).1, e1, z_bd_s, if_pos (by rw [q]; decide), c1, z_bd_s, f1, z_bd_s, z_let_e]
          dsimp only
          rw [if_pos (by rw [hy]; decide), g0, z_let_e, g1, z_let_e, g2, g3, ← hv2, ← hv3, z_let_e, z_let_e, z_bd_s, hkk]
        · unfold M_judge
          rw [if_neg (t_row hp hm), e2, z_bd_s, z_jn_e, if_pos (by rw [q]; rfl), m1, z_bd_s, f2, z_bd_s, z_let_e]
          dsimp only
          rw [if_pos (by rw [hy]; rfl), z_let_e, z_let_e, ← hv2, ← hv3, z_let_e, z_let_e]
        · show upd (upd (upd (upd (ko_verdict ko) 0 (mo_goals mo' 0)) 1 (mo_goals mo' 1)) 2 v2) 3 v3 i = upd (upd (upd (upd (ju_judged ju) 0 (mo_goals mo' 0)) 1 (mo_goals mo' 1)) 2 v2) 3 v3 i
          have : i = 0 ∨ i = 1 ∨ i = 2 ∨ i = 3 := by omega
          rcases this with e | e | e | e
          · rw [e, upd_n (by omega), upd_n (by omega), upd_n (by omega), upd_s, upd_n (by omega), upd_n (by omega), upd_n (by omega), upd_s]
          · rw [e, upd_n (by omega), upd_n (by omega), upd_s, upd_n (by omega), upd_n (by omega), upd_s]
          · rw [e, upd_n (by omega), upd_s, upd_n (by omega), upd_s]
          · rw [e, upd_s, upd_s]
      · refine ⟨(-1000) - wI y, ko, (tx_signs tx, 0), sh', (mt_text mt, 0), bx1, mo', wI (k' : Nat), ju, 0, ?_, ?_, iT_0 hT, hj, rfl⟩
        · unfold K_judge K_judgeFromStart
          rw [z_jn_e, if_neg (t_now hp hc).1, e1, z_bd_s, if_pos (by rw [q]; decide), c1, z_bd_s, f1, z_bd_s, z_let_e]
          dsimp only
          rw [if_neg (by rw [wI_0, wI_lt (by omega) (by omega) (by omega) (by omega)]; omega), z_bd_s]
        · unfold M_judge
          rw [if_neg (t_row hp hm), e2, z_bd_s, z_jn_e, if_pos (by rw [q]; rfl), m1, z_bd_s, f2, z_bd_s, z_let_e]
          dsimp only
          rw [if_neg (by rw [wI_m1, wI_eq (by omega) (by omega) (by omega) (by omega)]; omega)]
    · refine ⟨(-1000) - wI x, ko, (tx_signs tx, 0), tr, (mt_text mt, 0), bx, mo, py, ju, 0, ?_, ?_, iT_0 hT, hj, rfl⟩
      · unfold K_judge K_judgeFromStart
        rw [z_jn_e, if_neg (t_now hp hc).1, e1, z_bd_s, if_neg (by rw [wI_0, wI_lt (by omega) (by omega) (by omega) (by omega)]; omega), z_bd_s]
      · have nq : ¬ wI x = -1 := by rw [wI_m1, wI_eq (by omega) (by omega) (by omega) (by omega)]; omega
        unfold M_judge
        rw [if_neg (t_row hp hm), e2, z_bd_s, z_jn_e, if_neg nq]
        dsimp only
        rw [if_neg nq]
  · refine ⟨-2, ko, (tx_signs tx, 0), tr, (mt_text mt, 0), bx, mo, py, ju, 0, ?_, ?_, iT_0 hT, hj, rfl⟩
    · unfold K_judge
      rw [z_jn_e, if_pos (u_now hc)]
    · unfold M_judge
      rw [if_pos (u_row hm)]
end ZPL

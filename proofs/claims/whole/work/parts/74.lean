/-! FROM THE ROW TO THE MOMENT; COPIES -/
def MR (S : St) (gl : Nat → Nat) (k : Nat) (row : MRow) : Prop := row 0 = wI (sn S) ∧ row 1 = wI (so S) ∧ row 2 = wI (sf S) ∧ row 3 = wI k ∧ (∀ i, i < 4 → row (4 + i) = wI (sv S i)) ∧ (∀ i, i < 10 → row (8 + i) = wI (sk S i)) ∧ (∀ i, i < k → row (18 + i) = wI (gl i))
section ZMR
variable {S : St} {row : MRow} {bx : Bx} {mo : Mo} {m : Mm} {F k : Nat} {gl : Nat → Nat} {sh sg : Sh}
theorem r_begin (hF : 20 ≤ F) (row : MRow) (bx : Bx) (mo : Mo) : ∃ bx', M_begin F row bx mo = some (bx', M_start bx' mo) ∧ bx_byOrder bx' = row 1 ∧ bx_byFirst bx' = row 2 ∧ ∀ i, i < 10 → bx_skill bx' i = row (8 + i) := by
  obtain ⟨s', e, h1, h2, h3⟩ := lp0 (fun n x (s : Bx) => M_begin_L22 row (fun b => some (b, M_start b mo)) n x s) (fun b => some (b, M_start b mo)) 10 (fun i s => bx_byOrder s = row 1 ∧ bx_byFirst s = row 2 ∧ ∀ t, t < i → bx_skill s t = row (8 + t))
    (fun n i s hi hp => by
      refine ⟨(bx_byOrder s, bx_byFirst s, upd (bx_skill s) i (row (8 + i))), ?_, hp.1, hp.2.1, fun t ht => ?_⟩
      · have e8 : (8 + (i : Int)).toNat = 8 + i := by omega
        simp only [M_begin_L22, wI_0, wI_1, wI_2, wI_3, wI_4, wI_5, wI_6, wI_8, wI_9, wI_10, wI_11, wI_18, wI_20, wI_24, wI_36, wI_60, wI_78, wI_add, wI_sub, wI_mul, wI_neg]
        simp (disch := omega) only [wI_le, wI_in, wI_nat, z_gd_t, z_let_e, e8, Int.toNat_natCast]
        rw [if_neg (by omega)]
        rfl
      · show upd (bx_skill s) i (row (8 + i)) t = _
        rcases Nat.lt_or_ge t i with h | h
        · rw [upd_n (by omega)]; exact hp.2.2 t h
        · have : t = i := by omega
          rw [this, upd_s])
    (fun n s _ => by simp only [M_begin_L22]; exact if_pos (by decide)) (n := F) (s := (row 1, row 2, bx_skill bx)) (by omega) ⟨rfl, rfl, fun t h => absurd h (Nat.not_lt_zero t)⟩
  exact ⟨s', e, h1, h2, h3⟩
theorem RM_start (hS : okS S) (hb : bx_byFirst bx = wI (sf S)) (mo : Mo) : RM S (0, 0, 0, sf S) (M_start bx mo) := by
  obtain ⟨hn1, hn5, ho, hf, _⟩ := hS
  have k1 : wI 0 = wI (((0 + 1 - sf S) / 2 : Nat) : Int) := wI_c (by omega)
  have k2 : wI 0 = wI (((0 + sf S) / 2 : Nat) : Int) := wI_c (by omega)
  refine ⟨rfl, rfl, k1, k2, rfl, hb, ?_⟩
  show wI 0 = _
  unfold mOv
  rw [o01_f]
  intro h
  unfold ovr mD at h
  dsimp only at h
  rw [if_pos (by omega)] at h
  omega
theorem MR_RS (h : MR S gl k row) {bx : Bx} (h1 : bx_byOrder bx = row 1) (h2 : bx_byFirst bx = row 2) (h3 : ∀ i, i < 10 → bx_skill bx i = row (8 + i)) : RS S row bx := ⟨h.1, h1.trans h.2.1, h2.trans h.2.2.1, h.2.2.2.2.1, fun i hi => (h3 i hi).trans (h.2.2.2.2.2.1 i hi)⟩
theorem okM_at (hS : okS S) (hg : ∀ i, gl i ≤ 1) : ∀ k, okM (mAt S gl k)
  | 0 => by
    have := hS.2.2.2.1
    exact ⟨Nat.zero_le _, Nat.zero_le _, this⟩
  | k + 1 => okM_step hS (okM_at hS hg k) (hg k)
/-- at the start, as it is told -/
theorem r_beg (hF : 20 ≤ F) (hS : okS S) (h : MR S gl k row) (bx : Bx) (mo : Mo) : ∃ bx' mo', M_begin F row bx mo = some (bx', mo') ∧ RS S row bx' ∧ RM S (0, 0, 0, sf S) mo' := by
  obtain ⟨bx', e, h1, h2, h3⟩ := r_begin hF row bx mo
  exact ⟨bx', _, e, MR_RS h h1 h2 h3, RM_start hS (h2.trans h.2.2.1) mo⟩
/-- some of the kicks -/
theorem r_goes (hF : 70 ≤ F) (hS : okS S) (hg : ∀ i, gl i ≤ 1) (hR : RS S row bx) {N : Nat} (hrow : ∀ i, i < N → row (18 + i) = wI (gl i)) (h3 : row 3 = wI N) (hN : N ≤ 60) (hM : RM S (0, 0, 0, sf S) mo) (u : Mo) : ∃ mo', M_goNow_L6 F row (bx, u) F 0 mo = some (bx, mo') ∧ RM S (mAt S gl N) mo' := by
  obtain ⟨s', e, h⟩ := lp0 (fun n x (s : Mo) => M_goNow_L6 F row (bx, u) n x s) (fun s => some (bx, s)) N (fun i s => RM S (mAt S gl i) s)
    (fun n i s hi hp => by
      obtain ⟨mo', e, h⟩ := r_go (F := F) (by omega) hS hR hp (okM_at hS hg i) (by rw [mAt_k]; omega) (hg i)
      refine ⟨mo', ?_, h⟩
      have e18 : (18 + (i : Int)).toNat = 18 + i := by omega
      simp only [M_goNow_L6, h3, wI_0, wI_1, wI_2, wI_3, wI_4, wI_5, wI_6, wI_8, wI_9, wI_10, wI_11, wI_18, wI_20, wI_24, wI_36, wI_60, wI_78, wI_add, wI_sub, wI_mul, wI_neg]
      simp (disch := omega) only [wI_le, wI_in, wI_nat, z_gd_t, z_let_e, e18, hrow i hi]
      rw [if_neg (by omega), e, z_bd_s]
      rfl)
    (fun n s _ => by
      simp only [M_goNow_L6, h3]
      exact if_pos (by rw [wI_le (by omega) (by omega) (by omega) (by omega)]; omega)) (n := F) (s := mo) (by omega) hM
  exact ⟨s', e, h⟩
theorem r_now (hF : 70 ≤ F) (hS : okS S) (hg : ∀ i, gl i ≤ 1) (h : MR S gl k row) (hk : k ≤ 60) (bx : Bx) (mo : Mo) : ∃ bx' mo', M_goNow F row bx mo = some (bx', mo') ∧ RS S row bx' ∧ RM S (mAt S gl k) mo' := by
  obtain ⟨bx', mo', e, hR, hM⟩ := r_beg (F := F) (by omega) hS h bx mo
  obtain ⟨mo2, e2, h2⟩ := r_goes hF hS hg hR h.2.2.2.2.2.2 h.2.2.2.1 hk hM mo'
  refine ⟨bx', mo2, ?_, hR, h2⟩
  unfold M_goNow
  rw [e, z_bd_s]
  exact e2
theorem r_startBy (hF : 20 ≤ F) (hS : okS S) (h : MR S gl k row) (bx : Bx) (mo : Mo) {o f : Nat} (ho : o ≤ 3) (hf : f ≤ 1) : ∃ bx' mo', M_startBy F row bx mo (wI o) (wI f) = some (bx', mo') ∧ RS (sn S, o, f, sv S, sk S) row bx' ∧ RM (sn S, o, f, sv S, sk S) (0, 0, 0, f) mo' := by
  obtain ⟨bx', e, h1, h2, h3⟩ := r_begin hF row bx mo
  refine ⟨(wI o, wI f, bx_skill bx'), _, ?_, ⟨h.1, rfl, rfl, h.2.2.2.2.1, fun i hi => (h3 i hi).trans (h.2.2.2.2.2.1 i hi)⟩, RM_start (S := (sn S, o, f, sv S, sk S)) ⟨hS.1, hS.2.1, ho, hf, hS.2.2.2.2.1, hS.2.2.2.2.2⟩ (bx := (wI o, wI f, bx_skill bx')) rfl (M_start bx' mo)⟩
  unfold M_startBy
  rw [e, z_bd_s]
  rfl
/-! the class copies -/
theorem c_copy (hF : 20 ≤ F) (sh sg : Sh) : ∃ r, Sh_copyFrom F sh sg = some r ∧ sh_shooters r = sh_shooters sg ∧ sh_order r = sh_order sg ∧ sh_first r = sh_first sg ∧ sh_kicks r = sh_kicks sg ∧ sh_goalBits r = sh_goalBits sg ∧ sh_sideBits r = sh_sideBits sg ∧ sh_goalsOfA r = sh_goalsOfA sg ∧ sh_goalsOfB r = sh_goalsOfB sg ∧ (∀ i, i < 4 → sh_nerves r i = sh_nerves sg i) ∧ (∀ i, i < 10 → sh_skills r i = sh_skills sg i) := by
  obtain ⟨s1, e1, p1⟩ := lp0 (fun n x (s : Sh) => Sh_copyFrom_L66 sg (fun s => Sh_copyFrom_L95 sg F 0 s) n x s) (fun s => Sh_copyFrom_L95 sg F 0 s) 4 (fun i r => sh_shooters r = sh_shooters sg ∧ sh_order r = sh_order sg ∧ sh_first r = sh_first sg ∧ sh_kicks r = sh_kicks sg ∧ sh_goalBits r = sh_goalBits sg ∧ sh_sideBits r = sh_sideBits sg ∧ sh_goalsOfA r = sh_goalsOfA sg ∧ sh_goalsOfB r = sh_goalsOfB sg ∧ (∀ t, t < i → sh_nerves r t = sh_nerves sg t))
    (fun n i s hi hp => by
      obtain ⟨q1, q2, q3, q4, q5, q6, q7, q8, q9⟩ := hp
      refine ⟨(sh_shooters s, sh_order s, sh_first s, sh_kicks s, sh_goalBits s, sh_sideBits s, sh_goalsOfA s, sh_goalsOfB s, upd (sh_nerves s) i (sh_nerves sg i), sh_skills s), ?_, q1, q2, q3, q4, q5, q6, q7, q8, fun t ht => ?_⟩
      · simp only [Sh_copyFrom_L66, wI_0, wI_1, wI_2, wI_3, wI_4, wI_5, wI_6, wI_8, wI_9, wI_10, wI_11, wI_18, wI_20, wI_24, wI_36, wI_60, wI_78, wI_add, wI_sub, wI_mul, wI_neg]
        simp (disch := omega) only [wI_le, wI_in, wI_nat, z_gd_t, z_let_e, Int.toNat_natCast]
        rw [if_neg (by omega)]
        rfl
      · show upd (sh_nerves s) i (sh_nerves sg i) t = _
        rcases Nat.lt_or_ge t i with h | h
        · rw [upd_n (by omega)]; exact q9 t h
        · have : t = i := by omega
          rw [this, upd_s])
    (fun n s _ => by simp only [Sh_copyFrom_L66]; exact if_pos (by decide)) (n := F) (s := (sh_shooters sg, sh_order sg, sh_first sg, sh_kicks sg, sh_goalBits sg, sh_sideBits sg, sh_goalsOfA sg, sh_goalsOfB sg, sh_nerves sh, sh_skills sh)) (by omega) ⟨rfl, rfl, rfl, rfl, rfl, rfl, rfl, rfl, fun t h => absurd h (Nat.not_lt_zero t)⟩
  obtain ⟨s2, e2, p2⟩ := lp0 (fun n x (s : Sh) => Sh_copyFrom_L95 sg n x s) (fun s => some s) 10 (fun i r => sh_shooters r = sh_shooters sg ∧ sh_order r = sh_order sg ∧ sh_first r = sh_first sg ∧ sh_kicks r = sh_kicks sg ∧ sh_goalBits r = sh_goalBits sg ∧ sh_sideBits r = sh_sideBits sg ∧ sh_goalsOfA r = sh_goalsOfA sg ∧ sh_goalsOfB r = sh_goalsOfB sg ∧ (∀ t, t < 4 → sh_nerves r t = sh_nerves sg t) ∧ (∀ t, t < i → sh_skills r t = sh_skills sg t))
    (fun n i s hi hp => by
      obtain ⟨q1, q2, q3, q4, q5, q6, q7, q8, q9, q10⟩ := hp
      refine ⟨(sh_shooters s, sh_order s, sh_first s, sh_kicks s, sh_goalBits s, sh_sideBits s, sh_goalsOfA s, sh_goalsOfB s, sh_nerves s, upd (sh_skills s) i (sh_skills sg i)), ?_, q1, q2, q3, q4, q5, q6, q7, q8, q9, fun t ht => ?_⟩
      · simp only [Sh_copyFrom_L95, wI_0, wI_1, wI_2, wI_3, wI_4, wI_5, wI_6, wI_8, wI_9, wI_10, wI_11, wI_18, wI_20, wI_24, wI_36, wI_60, wI_78, wI_add, wI_sub, wI_mul, wI_neg]
        simp (disch := omega) only [wI_le, wI_in, wI_nat, z_gd_t, z_let_e, Int.toNat_natCast]
        rw [if_neg (by omega)]
        rfl
      · show upd (sh_skills s) i (sh_skills sg i) t = _
        rcases Nat.lt_or_ge t i with h | h
        · rw [upd_n (by omega)]; exact q10 t h
        · have : t = i := by omega
          rw [this, upd_s])
    (fun n s _ => by simp only [Sh_copyFrom_L95]; exact if_pos (by decide)) (n := F) (s := s1) (by omega) ⟨p1.1, p1.2.1, p1.2.2.1, p1.2.2.2.1, p1.2.2.2.2.1, p1.2.2.2.2.2.1, p1.2.2.2.2.2.2.1, p1.2.2.2.2.2.2.2.1, p1.2.2.2.2.2.2.2.2, fun t h => absurd h (Nat.not_lt_zero t)⟩
  exact ⟨s2, (show _ = _ from e1).trans e2, p2⟩
theorem c_cp (hF : 20 ≤ F) (hC : CS S sg) (hM : CM S gl k sg) (sh : Sh) : ∃ r, Sh_copyFrom F sh sg = some r ∧ CS S r ∧ CM S gl k r := by
  obtain ⟨r, e, q1, q2, q3, q4, q5, q6, q7, q8, q9, q10⟩ := c_copy hF sh sg
  exact ⟨r, e, ⟨q1.trans hC.1, q2.trans hC.2.1, q3.trans hC.2.2.1, fun i hi => (q9 i hi).trans (hC.2.2.2.1 i hi), fun i hi => (q10 i hi).trans (hC.2.2.2.2 i hi)⟩, q4.trans hM.1, q5.trans hM.2.1, q6.trans hM.2.2.1, q7.trans hM.2.2.2.1, q8.trans hM.2.2.2.2⟩
theorem CM_0 (hf : sh_kicks sh = 0) (h1 : sh_goalBits sh = 0) (h2 : sh_sideBits sh = 0) (h3 : sh_goalsOfA sh = 0) (h4 : sh_goalsOfB sh = 0) : CM S gl 0 sh := ⟨hf, h1, h2, h3, h4⟩
theorem c_start (hF : 20 ≤ F) (hC : CS S sg) (sh : Sh) : ∃ r, K_takeStart F sg sh = some r ∧ CS S r ∧ ∀ gl, CM S gl 0 r := by
  obtain ⟨r, e, q1, q2, q3, q4, q5, q6, q7, q8, q9, q10⟩ := c_copy hF sh sg
  refine ⟨Sh_restart r, ?_, ⟨q1.trans hC.1, q2.trans hC.2.1, q3.trans hC.2.2.1, fun i hi => (q9 i hi).trans (hC.2.2.2.1 i hi), fun i hi => (q10 i hi).trans (hC.2.2.2.2 i hi)⟩, fun gl => CM_0 rfl rfl rfl rfl rfl⟩
  unfold K_takeStart
  rw [e, z_bd_s]
  rfl
end ZMR

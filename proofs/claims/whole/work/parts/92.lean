/-! GUESS, DRAWN, SMALL ASKS -/
def gOk (l r s w : Nat) : Bool := match K_chooseCorner FF (wI (l : Nat)) (wI (r : Nat)) (wI (s : Nat)), M_guess FF (wI (l : Nat)) (wI (r : Nat)) (wI (s : Nat)) (wI (w : Nat)) with
  | some u, some v => ((if 2 ≤ wI (w : Nat) then (Fr_part u.2 (wI (w : Nat) - 2)).toInt32 else (Fr_part u.1 (wI (w : Nat))).toInt32) == v.1) && (v.2 == 0)
  | _, _ => false
theorem g_ok : ∀ l, l < 7 → ∀ r, r < 7 → ∀ s, s < 7 → ∀ w, w < 4 → gOk l r s w = true := by decide +kernel
theorem skill_z {a : Int} (h1 : -2147483648 ≤ a) (h2 : a < 2147483648) : (K_isSkill (wI a) = 0) ↔ ¬ (0 ≤ a ∧ a ≤ 6) := by
  unfold K_isSkill
  rw [wI_0, wI_6]
  simp (disch := omega) only [wI_lt]
  by_cases q : a < 0
  · rw [if_pos q]; exact ⟨fun _ => by omega, fun _ => rfl⟩
  · rw [if_neg q]
    by_cases q2 : 6 < a
    · rw [if_pos q2]; exact ⟨fun _ => by omega, fun _ => rfl⟩
    · rw [if_neg q2]; exact ⟨fun h => absurd h (by decide), fun h => absurd (by omega) h⟩
theorem q_guess (to tp : Fr) (x y z w : Int32) : ∃ (r : Int32) (to' tp' : Fr), K_guess FF to tp x y z w = some (r, to', tp') ∧ M_guess FF x y z w = some (r, 0) := by
  obtain ⟨a, rfl, a1, a2⟩ := wI_of x
  obtain ⟨b, rfl, b1, b2⟩ := wI_of y
  obtain ⟨c, rfl, c1, c2⟩ := wI_of z
  obtain ⟨d, rfl, d1, d2⟩ := wI_of w
  have za : (M_in (wI a).toInt64 0 6 = 0) ↔ ¬ (0 ≤ a ∧ a ≤ 6) := in_z (lo := 0) (hi := 6) a1 a2 (by omega) (by omega) (by omega) (by omega)
  have zb : (M_in (wI b).toInt64 0 6 = 0) ↔ ¬ (0 ≤ b ∧ b ≤ 6) := in_z (lo := 0) (hi := 6) b1 b2 (by omega) (by omega) (by omega) (by omega)
  have zc : (M_in (wI c).toInt64 0 6 = 0) ↔ ¬ (0 ≤ c ∧ c ≤ 6) := in_z (lo := 0) (hi := 6) c1 c2 (by omega) (by omega) (by omega) (by omega)
  have zd : (M_in (wI d).toInt64 0 3 = 0) ↔ ¬ (0 ≤ d ∧ d ≤ 3) := in_z (lo := 0) (hi := 3) d1 d2 (by omega) (by omega) (by omega) (by omega)
  by_cases qa : 0 ≤ a ∧ a ≤ 6
  · by_cases qb : 0 ≤ b ∧ b ≤ 6
    · by_cases qc : 0 ≤ c ∧ c ≤ 6
      · by_cases qd : 0 ≤ d ∧ d ≤ 3
        · obtain ⟨l, rfl⟩ : ∃ s : Nat, a = s := ⟨a.toNat, by omega⟩
          obtain ⟨r, rfl⟩ : ∃ s : Nat, b = s := ⟨b.toNat, by omega⟩
          obtain ⟨s, rfl⟩ : ∃ s : Nat, c = s := ⟨c.toNat, by omega⟩
          obtain ⟨w, rfl⟩ : ∃ s : Nat, d = s := ⟨d.toNat, by omega⟩
          have hg := g_ok l (by omega) r (by omega) s (by omega) w (by omega)
          unfold gOk at hg
          cases hK : K_chooseCorner FF (wI (l : Nat)) (wI (r : Nat)) (wI (s : Nat)) with
          | none => rw [hK] at hg; simp at hg
          | some u =>
            cases hM : M_guess FF (wI (l : Nat)) (wI (r : Nat)) (wI (s : Nat)) (wI (w : Nat)) with
            | none => rw [hK, hM] at hg; simp at hg
            | some v =>
              rw [hK, hM] at hg
              simp only [Bool.and_eq_true, beq_iff_eq] at hg
              obtain ⟨v1, v2⟩ := v
              have h2 : v2 = 0 := hg.2
              have h1 : (if 2 ≤ wI (w : Nat) then (Fr_part u.2 (wI (w : Nat) - 2)).toInt32 else (Fr_part u.1 (wI (w : Nat))).toInt32) = v1 := hg.1
              refine ⟨v1, u.1, u.2, ?_, by rw [h2]⟩
              unfold K_guess
              rw [if_neg (fun h => (skill_z a1 a2).mp h qa), if_neg (fun h => (skill_z b1 b2).mp h qb), if_neg (fun h => (skill_z c1 c2).mp h qc), if_neg (by rw [wI_0, wI_lt (by omega) (by omega) (by omega) (by omega)]; omega), if_pos (by rw [wI_3, wI_le (by omega) (by omega) (by omega) (by omega)]; omega), hK, z_bd_s, ← h1]
              split <;> rfl
        · refine ⟨-1, to, tp, ?_, ?_⟩
          · unfold K_guess
            rw [if_neg (fun h => (skill_z a1 a2).mp h qa), if_neg (fun h => (skill_z b1 b2).mp h qb), if_neg (fun h => (skill_z c1 c2).mp h qc)]
            by_cases h : d < 0
            · rw [if_pos (by rw [wI_0, wI_lt (by omega) (by omega) (by omega) (by omega)]; omega)]
            · rw [if_neg (by rw [wI_0, wI_lt (by omega) (by omega) (by omega) (by omega)]; omega), if_neg (by rw [wI_3, wI_le (by omega) (by omega) (by omega) (by omega)]; omega)]
          · unfold M_guess
            rw [if_neg (fun h => za.mp h qa), if_neg (fun h => zb.mp h qb), if_neg (fun h => zc.mp h qc)]
            exact if_pos (zd.mpr qd)
      · refine ⟨-1, to, tp, ?_, ?_⟩
        · unfold K_guess
          rw [if_neg (fun h => (skill_z a1 a2).mp h qa), if_neg (fun h => (skill_z b1 b2).mp h qb), if_pos ((skill_z c1 c2).mpr qc)]
        · unfold M_guess
          rw [if_neg (fun h => za.mp h qa), if_neg (fun h => zb.mp h qb)]
          exact if_pos (zc.mpr qc)
    · refine ⟨-1, to, tp, ?_, ?_⟩
      · unfold K_guess
        rw [if_neg (fun h => (skill_z a1 a2).mp h qa), if_pos ((skill_z b1 b2).mpr qb)]
      · unfold M_guess
        rw [if_neg (fun h => za.mp h qa)]
        exact if_pos (zb.mpr qb)
  · refine ⟨-1, to, tp, ?_, ?_⟩
    · unfold K_guess
      rw [if_pos ((skill_z a1 a2).mpr qa)]
    · unfold M_guess
      exact if_pos (za.mpr qa)
section ZDR
variable {p : Po} {now : Sh} {row : MRow} {S : St} {F : Nat}
theorem c_goesOn {gl : Nat → Nat} {k : Nat} {sh : Sh} (hS : okS S) (hC : CS S sh) (hg : ∀ i, gl i ≤ 1) (hM : CM S gl k sh) (hk : k ≤ 60) : (Sh_goesOn sh = 0) ↔ (k = 60 ∨ mOv S (mAt S gl k) = 1) := by
  have hO := c_isOver hS hC hg hM (by omega)
  unfold Sh_goesOn
  rw [hM.1, hO]
  by_cases h60 : k = 60
  · rw [if_pos (by rw [wI_60, wI_le (by omega) (by omega) (by omega) (by omega)]; omega)]
    exact ⟨fun _ => Or.inl h60, fun _ => rfl⟩
  · rw [if_neg (by rw [wI_60, wI_le (by omega) (by omega) (by omega) (by omega)]; omega)]
    rcases mOv_b S (mAt S gl k) with h | h
    · rw [h, if_pos (by decide)]
      exact ⟨fun h' => absurd h' (by decide), fun h' => by omega⟩
    · rw [h, if_neg (by decide)]
      exact ⟨fun _ => Or.inr rfl, fun _ => rfl⟩
theorem dr_in (hF : 1100 ≤ F) (hS : okS S) {bx : Bx} (hR : RS S row bx) (u : Mo) : ∀ (d i m m' : Nat) (s : Int32) (gl : Nat → Nat) (k : Nat) (tr : Sh) (mo : Mo), i + d = 60 → d < m → d < m' → i ≤ k → k ≤ 60 → (∀ i, gl i ≤ 1) → CS S tr → CM S gl k tr → RM S (mAt S gl k) mo → ∃ s' gl' k' tr' mo', K_drawTrial_L4 m s (wI (i : Nat)) tr = some (s', tr') ∧ (∀ kx, M_drawn_L75 F row (bx, u) kx m' s mo = kx s' mo') ∧ (∀ i, gl' i ≤ 1) ∧ k' ≤ 60 ∧ CS S tr' ∧ CM S gl' k' tr' ∧ RM S (mAt S gl' k') mo' := by
  intro d
  induction d with
  | zero =>
    intro i m m' s gl k tr mo hi hm hm' hik hk hg hC hM hR2
    obtain ⟨m, rfl⟩ : ∃ k, m = k + 1 := ⟨m - 1, by omega⟩
    obtain ⟨m', rfl⟩ : ∃ k, m' = k + 1 := ⟨m' - 1, by omega⟩
    have hkk := hR2.2.2.2.2.1
    rw [mAt_k] at hkk
    refine ⟨s, gl, k, tr, mo, ?_, fun kx => ?_, hg, hk, hC, hM, hR2⟩
    · rw [K_drawTrial_L4]
      exact if_pos (by rw [wI_60, wI_le (by omega) (by omega) (by omega) (by omega)]; omega)
    · rw [M_drawn_L75, hkk]
      split
      · exact if_pos (by rw [wI_60, wI_le (by omega) (by omega) (by omega) (by omega)]; omega)
      · rfl
  | succ d ih =>
    intro i m m' s gl k tr mo hi hm hm' hik hk hg hC hM hR2
    obtain ⟨m, rfl⟩ : ∃ k, m = k + 1 := ⟨m - 1, by omega⟩
    obtain ⟨m', rfl⟩ : ∃ k, m' = k + 1 := ⟨m' - 1, by omega⟩
    have hkk := hR2.2.2.2.2.1
    rw [mAt_k] at hkk
    have hov := hR2.2.2.2.2.2.2
    have hgo := c_goesOn hS hC hg hM hk
    by_cases hend : k = 60 ∨ mOv S (mAt S gl k) = 1
    · refine ⟨s, gl, k, tr, mo, ?_, fun kx => ?_, hg, hk, hC, hM, hR2⟩
      · rw [K_drawTrial_L4, if_neg (by rw [wI_60, wI_le (by omega) (by omega) (by omega) (by omega)]; omega)]
        exact if_pos (hgo.mpr hend)
      · rw [M_drawn_L75, hkk, hov]
        rcases mOv_b S (mAt S gl k) with h | h
        · rw [h, if_pos (by decide)]
          exact if_pos (by rw [wI_60, wI_le (by omega) (by omega) (by omega) (by omega)]; omega)
        · rw [h]
          exact if_neg (by decide)
    · have hk59 : k ≤ 59 := by omega
      have hov0 : mOv S (mAt S gl k) = 0 := by rcases mOv_b S (mAt S gl k) with h | h; exact h; exact absurd (Or.inr h) hend
      have hok := okM_at hS hg k
      have hcc := c_chance hS hC hg hM (by omega)
      have hrc := r_chance hS hR hR2 hok (by rw [mAt_k]; omega)
      obtain ⟨x9, hx9⟩ : ∃ x9, x9 = z_rem ((1103 * s) + 12345) 1000003 := ⟨_, rfl⟩
      obtain ⟨b, hb1, hb⟩ : ∃ b : Nat, b ≤ 1 ∧ (if wI (mChance S (mAt S gl k)) ≤ z_rem x9 6 then (0 : Int32) else 1) = wI (b : Nat) := by
        by_cases h : wI (mChance S (mAt S gl k)) ≤ z_rem x9 6
        · exact ⟨0, by omega, by rw [if_pos h]; rfl⟩
        · exact ⟨1, by omega, by rw [if_neg h]; rfl⟩
      have hp := c_putP hS hC hg hM (by omega) hb1
      obtain ⟨mo2, e2, hM2⟩ := r_go (F := F) (by omega) hS hR hR2 hok (by rw [mAt_k]; omega) hb1
      rw [← mAt_P] at hM2
      obtain ⟨s', gl', k', tr', mo', f1, f2, f3, f4, f5, f6, f7⟩ := ih (i + 1) m m' x9 (glP gl k b) (k + 1) (Sh_put tr (wI (b : Nat))) mo2 (by omega) (by omega) (by omega) (by omega) (by omega) (glP_b hg hb1) hp.1 hp.2 hM2
      refine ⟨s', gl', k', tr', mo', ?_, fun kx => ?_, f3, f4, f5, f6, f7⟩
      · rw [K_drawTrial_L4, if_neg (by rw [wI_60, wI_le (by omega) (by omega) (by omega) (by omega)]; omega), if_neg (fun h => hend (hgo.mp h)), ← hx9, z_let_e, hcc, hb, z_let_e, z_let_e, z_let_e, wI_1, wI_add]
        exact f1
      · rw [M_drawn_L75, hkk, hov, hov0, if_pos (by decide), if_neg (by rw [wI_60, wI_le (by omega) (by omega) (by omega) (by omega)]; omega), ← hx9, z_let_e, hrc, z_bd_s, hb, z_let_e, e2, z_bd_s]
        exact f2 kx
theorem dr_out (hF : 1100 ≤ F) (hp : okP p) (hc : cP p now) (hm : mP p row) {N : Nat} (hN : N ≤ 100) (w : Int32) : ∀ (d i m m' : Nat) (s mt lg : Int32) (tr : Sh) (bx : Bx) (mo : Mo), i + d = N → d < m → d < m' → ∃ s1 l1 tr' bx' mo', (∀ kx, K_drawn_L58 F now (wI (N : Nat)) w kx m s mt lg (wI (i : Nat)) tr = kx s1 l1 tr') ∧ (∀ kx, M_drawn_L65 F row (wI (N : Nat)) w kx m' s lg mt (wI (i : Nat)) bx mo = kx l1 s1 bx' mo') := by
  obtain ⟨hS, hg, hk⟩ := hp
  intro d
  induction d with
  | zero =>
    intro i m m' s mt lg tr bx mo hi hm1 hm2
    obtain ⟨m, rfl⟩ : ∃ k, m = k + 1 := ⟨m - 1, by omega⟩
    obtain ⟨m', rfl⟩ : ∃ k, m' = k + 1 := ⟨m' - 1, by omega⟩
    refine ⟨mt, lg, tr, bx, mo, fun kx => ?_, fun kx => ?_⟩
    · rw [K_drawn_L58]
      exact if_pos (by rw [wI_le (by omega) (by omega) (by omega) (by omega)]; omega)
    · rw [M_drawn_L65]
      exact if_pos (by rw [wI_le (by omega) (by omega) (by omega) (by omega)]; omega)
  | succ d ih =>
    intro i m m' s mt lg tr bx mo hi hm1 hm2
    obtain ⟨m, rfl⟩ : ∃ k, m = k + 1 := ⟨m - 1, by omega⟩
    obtain ⟨m', rfl⟩ : ∃ k, m' = k + 1 := ⟨m' - 1, by omega⟩
    obtain ⟨t1, e1, hC1, hM1⟩ := c_cp (F := F) (by omega) hc.1 hc.2 tr
    obtain ⟨bx1, mo1, e2, hR, hRM⟩ := r_now (F := F) (by omega) hS hg hm hk bx mo
    obtain ⟨s', gl', k', tr', mo', f1, f2, f3, f4, f5, f6, f7⟩ := dr_in (F := F) hF hS hR mo1 60 0 F F s p.2.1 p.2.2 t1 mo1 (by omega) (by omega) (by omega) (by omega) hk hg hC1 hM1 hRM
    have hO := c_isOver hS f5 f3 f6 (by omega)
    have hO2 := f7.2.2.2.2.2.2
    have hK2 := f7.2.2.2.2.1
    rw [mAt_k] at hK2
    have hle := c_lead f6
    have hDb := mD_b p.1 f3 k'
    have hwin : Sh_winner tr' = if mo_isOver mo' = 0 then 2 else M_ahead mo' := by
      unfold Sh_winner
      rw [hO, hO2, hle, r_ahead f7 (okM_at hS f3 k') (by rw [mAt_k]; omega)]
      rcases mOv_b p.1 (mAt p.1 gl' k') with h | h
      · rw [h, if_pos (by decide), if_pos (by decide)]
      · have hd := ovr_ne hS (mAt_l hS gl' k') (mOv_1 h)
        rw [h, if_neg (show ¬ wI 1 = 0 by decide), if_neg (show ¬ wI 1 = 0 by decide)]
        by_cases hq : 0 < mD (mAt p.1 gl' k')
        · rw [if_neg (by rw [wI_0, wI_le (by omega) (by omega) (by omega) (by omega)]; omega), if_pos hq]; rfl
        · rw [if_pos (by rw [wI_0, wI_le (by omega) (by omega) (by omega) (by omega)]; omega), if_neg hq, if_pos (by omega)]; rfl
    obtain ⟨v, hv⟩ : ∃ v, v = if Sh_winner tr' = w then (1 : Int32) else 0 := ⟨_, rfl⟩
    have hk1 : wI (i : Int) + 1 = wI ((i + 1 : Nat) : Int) := by rw [wI_1, wI_add]; rfl
    obtain ⟨lg2, hlg⟩ : ∃ lg2, lg2 = if lg < wI (k' : Nat) then wI (k' : Nat) else lg := ⟨_, rfl⟩
    obtain ⟨s1, l1, tr2, bx2, mo2, g1, g2⟩ := ih (i + 1) m m' s' (mt + v) lg2 tr' bx1 mo' (by omega) (by omega) (by omega)
    refine ⟨s1, l1, tr2, bx2, mo2, fun kx => ?_, fun kx => ?_⟩
    · have f1 : K_drawTrial F t1 s = some (s', tr') := f1
      rw [K_drawn_L58, if_neg (by rw [wI_le (by omega) (by omega) (by omega) (by omega)]; omega), e1, z_bd_s, f1, z_bd_s, z_let_e]
      dsimp only
      rw [← hv, z_let_e, z_let_e, f6.1, ← hlg, z_let_e, z_let_e, hk1]
      exact g1 kx
    · rw [M_drawn_L65, if_neg (by rw [wI_le (by omega) (by omega) (by omega) (by omega)]; omega), e2, z_bd_s]
      refine (f2 _).trans ?_
      rw [← hwin, z_let_e, ← hv, z_let_e, z_let_e, hK2, hk1]
      by_cases h : lg < wI (k' : Nat)
      · rw [if_pos h] at hlg
        rw [if_neg (by rw [Int32.le_iff_toInt_le]; rw [Int32.lt_iff_toInt_lt] at h; omega), z_let_e, z_let_e, ← hlg]
        exact g2 kx
      · rw [if_neg h] at hlg
        rw [if_pos (by rw [Int32.le_iff_toInt_le]; rw [Int32.lt_iff_toInt_lt] at h; omega), z_let_e, ← hlg]
        exact g2 kx
theorem q_drawn (hF : 1100 ≤ F) (hp : okP p ∨ p = p00) (hc : cP p now) (hm : mP p row) (tr : Sh) (bx : Bx) (mo : Mo) (x y z : Int32) : ∃ (r : Int32) (tr' : Sh) (bx' : Bx) (mo' : Mo), K_drawn F now tr x y z = some (r, tr') ∧ M_drawn F row bx mo x y z = some (r, 0, bx', mo') := by
  obtain ⟨a, rfl, a1, a2⟩ := wI_of x
  obtain ⟨b, rfl, b1, b2⟩ := wI_of y
  obtain ⟨c, rfl, c1, c2⟩ := wI_of z
  have za : (M_in (wI a).toInt64 0 999999 = 0) ↔ ¬ (0 ≤ a ∧ a ≤ 999999) := in_z (lo := 0) (hi := 999999) a1 a2 (by omega) (by omega) (by omega) (by omega)
  have zb : (M_in (wI b).toInt64 1 100 = 0) ↔ ¬ (1 ≤ b ∧ b ≤ 100) := in_z (lo := 1) (hi := 100) b1 b2 (by omega) (by omega) (by omega) (by omega)
  have zc : (M_in (wI c).toInt64 0 3 = 0) ↔ ¬ (0 ≤ c ∧ c ≤ 3) := in_z (lo := 0) (hi := 3) c1 c2 (by omega) (by omega) (by omega) (by omega)
  have hK : K_drawn F now tr (wI a) (wI b) (wI c) = if (0 ≤ a ∧ a ≤ 999999) ∧ (1 ≤ b ∧ b ≤ 100) ∧ (0 ≤ c ∧ c ≤ 3) then (if (sh_shooters now) = 0 then (some ((-2), tr)) else (K_drawn_L58 F now (wI b) (wI c) (fun (x17 : Int32) (x18 : Int32) (sh19 : Sh) => if wI c = 3 then (some (x18, sh19)) else (some (x17, sh19))) F (wI a) 0 0 0 tr)) else some (-1, tr) := by
    unfold K_drawn
    rw [wI_0, wI_999999, wI_1, wI_100, wI_3]
    simp (disch := omega) only [wI_lt, wI_le]
    by_cases h1 : a < 0
    · rw [if_pos h1, if_neg (by omega)]
    · rw [if_neg h1]
      by_cases h2 : 999999 < a
      · rw [if_pos h2, if_neg (by omega)]
      · rw [if_neg h2]
        by_cases h3 : b < 1
        · rw [if_pos h3, if_neg (by omega)]
        · rw [if_neg h3]
          by_cases h4 : 100 < b
          · rw [if_pos h4, if_neg (by omega)]
          · rw [if_neg h4]
            by_cases h5 : c < 0
            · rw [if_pos h5, if_neg (by omega)]
            · rw [if_neg h5]
              by_cases h6 : c ≤ 3
              · rw [if_pos h6, if_pos (show (0 ≤ a ∧ a ≤ 999999) ∧ (1 ≤ b ∧ b ≤ 100) ∧ (0 ≤ c ∧ c ≤ 3) by omega)]
              · rw [if_neg h6, if_neg (by omega)]
  have hM : M_drawn F row bx mo (wI a) (wI b) (wI c) = if (0 ≤ a ∧ a ≤ 999999) ∧ (1 ≤ b ∧ b ≤ 100) ∧ (0 ≤ c ∧ c ≤ 3) then (if M_isTold row = 0 then (some ((-2), 0, bx, mo)) else (M_drawn_L65 F row (wI b) (wI c) (fun (x15 : Int32) (x16 : Int32) (bx17 : Bx) (mo18 : Mo) => if wI c = 3 then (some (x15, 0, bx17, mo18)) else (some (x16, 0, bx17, mo18))) F (wI a) 0 0 0 bx mo)) else some (-1, 0, bx, mo) := by
    unfold M_drawn
    by_cases h1 : 0 ≤ a ∧ a ≤ 999999
    · rw [if_neg (fun h => za.mp h h1)]
      by_cases h2 : 1 ≤ b ∧ b ≤ 100
      · rw [if_neg (fun h => zb.mp h h2)]
        by_cases h3 : 0 ≤ c ∧ c ≤ 3
        · rw [if_neg (fun h => zc.mp h h3), if_pos (show (0 ≤ a ∧ a ≤ 999999) ∧ (1 ≤ b ∧ b ≤ 100) ∧ (0 ≤ c ∧ c ≤ 3) from ⟨h1, h2, h3⟩)]
        · rw [if_pos (zc.mpr h3), if_neg (fun h => h3 h.2.2)]
      · rw [if_pos (zb.mpr h2), if_neg (fun h => h2 h.2.1)]
    · rw [if_pos (za.mpr h1), if_neg (fun h => h1 h.1)]
  rw [hK, hM]
  by_cases q : (0 ≤ a ∧ a ≤ 999999) ∧ (1 ≤ b ∧ b ≤ 100) ∧ (0 ≤ c ∧ c ≤ 3)
  · rw [if_pos q, if_pos q]
    rcases hp with hp | rfl
    · rw [if_neg (t_now hp hc).1, if_neg (t_row hp hm)]
      obtain ⟨N, rfl⟩ : ∃ s : Nat, b = s := ⟨b.toNat, by omega⟩
      obtain ⟨s1, l1, tr', bx', mo', g1, g2⟩ := dr_out hF hp hc hm (N := N) (by omega) (wI c) N 0 F F (wI a) 0 0 tr bx mo (by omega) (by omega) (by omega)
      refine ⟨if wI c = 3 then l1 else s1, tr', bx', mo', (g1 _).trans ?_, (g2 _).trans ?_⟩
      · split <;> rfl
      · split <;> rfl
    · rw [if_pos (u_now hc), if_pos (u_row hm)]
      exact ⟨-2, tr, bx, mo, rfl, rfl⟩
  · rw [if_neg q, if_neg q]
    exact ⟨-1, tr, bx, mo, rfl, rfl⟩
end ZDR

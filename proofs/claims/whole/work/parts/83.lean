/-! FAIREST, MATTERS -/
section ZFM
variable {p : Po} {now sh : Sh} {row : MRow} {F : Nat} {S : St} {m : Mm} {gl gl' : Nat → Nat} {k : Nat}
theorem fair_all (hF : 1100 ≤ F) (hp : okP p) (hc : cP p now) (hm : mP p row) : ∀ (j i n n' : Nat) (x4 x2 : Int32) (up low : Int64) (tr : Sh) (fc : Fc) (to tp : Fr) (bx : Bx) (mo : Mo) (su : Su) (wy : Wy) (wa : Wa) (od : Od), i + j = 4 → j < n → j < n' → cln fc →
    ((i = 0 ∧ x2 = -1) ∨ (1 ≤ i ∧ x2 = x4 ∧ ¬ x4 = -1 ∧ ∃ U L : Int, tp = (wJ U, wJ L) ∧ up = wJ U ∧ low = wJ L ∧ 0 ≤ U ∧ U < 4611686018427387904 ∧ 0 < L ∧ L < 4611686018427387904)) →
    ∃ r tr' fc' to' tp' bx' mo' su' wy' wa' od', K_fairest_L16 F now n x4 (wI (i : Nat)) tr fc to tp = some (r, tr', fc', to', tp') ∧ M_fairest_L24 F row n' x2 up low (wI (i : Nat)) bx mo su wy wa od = some (r, 0, bx', mo', su', wy', wa', od') ∧ cln fc' ∧ (i = 4 ∨ True) := by
  intro j
  induction j with
  | zero =>
    intro i n n' x4 x2 up low tr fc to tp bx mo su wy wa od hi hn hn' hcl h
    obtain ⟨n, rfl⟩ : ∃ k, n = k + 1 := ⟨n - 1, by omega⟩
    obtain ⟨n', rfl⟩ : ∃ k, n' = k + 1 := ⟨n' - 1, by omega⟩
    have hi4 : i = 4 := by omega
    subst hi4
    rcases h with h | ⟨_, h, _⟩
    · omega
    · subst h
      refine ⟨x2, tr, fc, to, tp, bx, mo, su, wy, wa, od, ?_, ?_, hcl, Or.inr trivial⟩
      · rw [K_fairest_L16]
        exact if_pos (by decide)
      · rw [M_fairest_L24]
        exact if_pos (by decide)
  | succ j ih =>
    intro i n n' x4 x2 up low tr fc to tp bx mo su wy wa od hi hn hn' hcl h
    obtain ⟨n, rfl⟩ : ∃ k, n = k + 1 := ⟨n - 1, by omega⟩
    obtain ⟨n', rfl⟩ : ∃ k, n' = k + 1 := ⟨n' - 1, by omega⟩
    have hi3 : i ≤ 3 := by omega
    have hS := okB hp.1 hi3 hp.1.2.2.2.1
    obtain ⟨tr1, fc1, e1, cl, hA, hB, hW⟩ := l_by (F := F) (by omega) hp hc hcl tr (o := i) (f := sf p.1) hi3 hp.1.2.2.2.1
    obtain ⟨bx1, mo1, su1, wy1, wa1, e2⟩ := r_gap hF hp hm bx mo su wy wa hi3
    have g1 := gpv_b hS (0, 0, 0, sf p.1)
    have g2 := oU_b hS (0, 0, 0, sf p.1) (s := 0) (by omega)
    have hgp := c_gap hS hA hB
    obtain ⟨U, hU⟩ : ∃ U, U = gpv (stB p.1 i (sf p.1)) (0, 0, 0, sf p.1) := ⟨_, rfl⟩
    obtain ⟨L, hL⟩ : ∃ L, L = oL (stB p.1 i (sf p.1)) (0, 0, 0, sf p.1) := ⟨_, rfl⟩
    rw [← hU] at g1 hgp e2
    rw [← hL] at g1 g2 e2 hW
    have hk1 : wI (i : Int) + 1 = wI ((i + 1 : Nat) : Int) := by rw [wI_1, wI_add]; rfl
    have hkl : ¬ 3 < wI (i : Int) := by rw [wI_3, wI_lt (by omega) (by omega) (by omega) (by omega)]; omega
    have hml : ¬ 4 ≤ wI (i : Int) := by rw [wI_4, wI_le (by omega) (by omega) (by omega) (by omega)]; omega
    have him : ¬ wI (i : Int) = -1 := by rw [wI_m1, wI_eq (by omega) (by omega) (by omega) (by omega)]; omega
    have hput : Fr_put (wJ U) (wJ L) = (wJ U, wJ L) := f_put (by omega) (by omega)
    have hput2 : Fr_put (fr_up (wJ U, wJ L)) (fr_low (wJ U, wJ L)) = (wJ U, wJ L) := hput
    -- the new one is taken
    obtain ⟨r, tr', fc', to', tp', bx', mo', su', wy', wa', od', f1, f2, f3, -⟩ := ih (i + 1) n n' (wI (i : Int)) (wI (i : Int)) (wJ U) (wJ L) tr1 fc1 (wJ U, wJ L) (wJ U, wJ L) bx1 mo1 su1 wy1 wa1 (wJ U, wJ L) (by omega) (by omega) (by omega) cl (Or.inr ⟨by omega, rfl, him, U, L, rfl, rfl, rfl, by omega, by omega, by omega, by omega⟩)
    rcases h with ⟨h0, h⟩ | ⟨h0, h, h9, U0, L0, hx⟩
    · refine ⟨r, tr', fc', to', tp', bx', mo', su', wy', wa', od', ?_, ?_, f3, Or.inr trivial⟩
      · rw [K_fairest_L16, if_neg hkl, hc.1.2.2.1, e1, z_bd_s, hgp, hW, hput, z_let_e, z_jn_e, if_pos (by rw [h0]; rfl), hput2, z_let_e, z_let_e, hk1]
        exact f1
      · rw [M_fairest_L24, if_neg hml, e2, z_bd_s, z_jn_e, if_pos h, z_let_e, z_let_e, z_let_e, hk1]
        exact f2
    · obtain ⟨h1, h2, h3, h4, h5, h6, h7⟩ := hx
      have hag := f_against (F := F) (by omega) (a := U) (b := L) (c := U0) (d := L0) (by omega) (by omega) (by omega) (by omega) h4 h5 h6 h7
      have hi0 : ¬ wI (i : Int) = 0 := by rw [wI_0, wI_eq (by omega) (by omega) (by omega) (by omega)]; omega
      have hx2 : ¬ x2 = -1 := by rw [h]; exact h9
      by_cases hle : 0 ≤ wI (cm4 U.toNat L.toNat U0.toNat L0.toNat)
      · obtain ⟨r, tr', fc', to', tp', bx', mo', su', wy', wa', od', f1, f2, f3, -⟩ := ih (i + 1) n n' x4 x2 up low tr1 fc1 (wJ U, wJ L) tp bx1 mo1 su1 wy1 wa1 (wJ U, wJ L) (by omega) (by omega) (by omega) cl (Or.inr ⟨by omega, h, h9, U0, L0, h1, h2, h3, h4, h5, h6, h7⟩)
        refine ⟨r, tr', fc', to', tp', bx', mo', su', wy', wa', od', ?_, ?_, f3, Or.inr trivial⟩
        · rw [K_fairest_L16, if_neg hkl, hc.1.2.2.1, e1, z_bd_s, hgp, hW, hput, z_let_e, z_jn_e, if_neg hi0]
          unfold Fr_against
          rw [h1]
          refine (z_bd_e ((z_bd_e hag.1).trans rfl)).trans ?_
          rw [if_pos hle, z_let_e, hk1, ← h1]
          exact f1
        · rw [M_fairest_L24, if_neg hml, e2, z_bd_s, z_jn_e, if_neg hx2, h2, h3]
          refine (z_bd_e hag.2).trans ?_
          rw [if_pos hle, z_let_e, hk1, ← h2, ← h3]
          exact f2
      · refine ⟨r, tr', fc', to', tp', bx', mo', su', wy', wa', od', ?_, ?_, f3, Or.inr trivial⟩
        · rw [K_fairest_L16, if_neg hkl, hc.1.2.2.1, e1, z_bd_s, hgp, hW, hput, z_let_e, z_jn_e, if_neg hi0]
          unfold Fr_against
          rw [h1]
          refine (z_bd_e ((z_bd_e hag.1).trans rfl)).trans ?_
          rw [if_neg hle, hput2, z_let_e, z_let_e, hk1]
          exact f1
        · rw [M_fairest_L24, if_neg hml, e2, z_bd_s, z_jn_e, if_neg hx2, h2, h3]
          refine (z_bd_e hag.2).trans ?_
          rw [if_neg hle, z_let_e, z_let_e, z_let_e, hk1]
          exact f2
theorem q_fairest (hF : 1100 ≤ F) (hp : okP p ∨ p = p00) (hc : cP p now) (hm : mP p row) {fc : Fc} (hcl : cln fc) (tr : Sh) (to tp : Fr) (bx : Bx) (mo : Mo) (su : Su) (wy : Wy) (wa : Wa) (od : Od) : ∃ r tr' fc' to' tp' bx' mo' su' wy' wa' od', K_fairest F now tr fc to tp = some (r, tr', fc', to', tp') ∧ M_fairest F row bx mo su wy wa od = some (r, 0, bx', mo', su', wy', wa', od') ∧ cln fc' := by
  rcases hp with hp | rfl
  · obtain ⟨r, tr', fc', to', tp', bx', mo', su', wy', wa', od', f1, f2, f3, -⟩ := fair_all hF hp hc hm 4 0 F F 0 (-1) 1 1 tr fc to tp bx mo su wy wa od (by omega) (by omega) (by omega) hcl (Or.inl ⟨rfl, rfl⟩)
    refine ⟨r, tr', fc', to', tp', bx', mo', su', wy', wa', od', ?_, ?_, f3⟩
    · unfold K_fairest
      rw [if_neg (t_now hp hc).1]
      exact f1
    · unfold M_fairest
      rw [if_neg (t_row hp hm)]
      exact f2
  · refine ⟨-1, tr, fc, to, tp, bx, mo, su, wy, wa, od, ?_, ?_, hcl⟩
    · unfold K_fairest
      rw [if_pos (u_now hc)]
    · unfold M_fairest
      rw [if_pos (u_row hm)]
/-! one kick more -/
theorem CM_ext (h : ∀ i, i < k → gl i = gl' i) (hM : CM S gl k sh) : CM S gl' k sh := by
  obtain ⟨h1, h2, h3, h4, h5⟩ := hM
  have e := mAt_congr S k h
  refine ⟨h1, by rw [h2, bs_congr k h], ?_, by rw [h4, e], by rw [h5, e]⟩
  rw [h3, bs_congr k (fun i hi => ?_)]
  unfold tnA
  rw [mAt_congr S i (fun t ht => h t (by omega))]
def glP (gl : Nat → Nat) (k b : Nat) : Nat → Nat := fun i => if i = k then b else gl i
theorem glP_s (gl : Nat → Nat) (k b : Nat) : glP gl k b k = b := if_pos rfl
theorem glP_n (gl : Nat → Nat) {k b i : Nat} (h : i ≠ k) : glP gl k b i = gl i := if_neg h
theorem glP_b (hg : ∀ i, gl i ≤ 1) {b : Nat} (hb : b ≤ 1) : ∀ i, glP gl k b i ≤ 1 := fun i => by
  unfold glP
  split
  · exact hb
  · exact hg i
theorem mAt_P (S : St) (gl : Nat → Nat) (k b : Nat) : mAt S (glP gl k b) (k + 1) = mStep S (mAt S gl k) b := by
  show mStep S (mAt S (glP gl k b) k) (glP gl k b k) = _
  rw [glP_s, mAt_congr S k (fun i hi => glP_n gl (by omega))]
theorem c_putP (hS : okS S) (hC : CS S sh) (hg : ∀ i, gl i ≤ 1) (hM : CM S gl k sh) (hk : k ≤ 61) {b : Nat} (hb : b ≤ 1) : CS S (Sh_put sh (wI b)) ∧ CM S (glP gl k b) (k + 1) (Sh_put sh (wI b)) := by
  have h := c_put hS hC (glP_b (k := k) hg hb) (CM_ext (fun i hi => (glP_n gl (by omega)).symm) hM) hk
  rw [glP_s] at h
  exact h
theorem oL_12 (hS : okS S) {m1 m0 : Mm} (h : m1.1 = m0.1) (hne : oL S m1 ≠ oL S m0) : oL S m1 = 1 ∨ oL S m0 = 1 := by
  rcases mOv_b S m1 with h1 | h1
  · rcases mOv_b S m0 with h0 | h0
    · exfalso
      refine hne ?_
      unfold oL
      rw [if_neg (show ¬ mOv S m1 = 1 by omega), if_neg (show ¬ mOv S m0 = 1 by omega), h]
    · exact Or.inr (if_pos h0)
  · exact Or.inl (if_pos h1)
theorem q_matters (hF : 1100 ≤ F) (hp : okP p ∨ p = p00) (hc : cP p now) (hm : mP p row) {fc : Fc} (hcl : cln fc) (tr : Sh) (to : Fr) (bx : Bx) (mo : Mo) (su : Su) (wy : Wy) (wa : Wa) (od : Od) (x : Int32) : ∃ r tr' fc' to' bx' mo' su' wy' wa' od', K_matters F now tr fc to x = some (r, tr', fc', to') ∧ M_matters F row bx mo su wy wa od x = some (r, 0, bx', mo', su', wy', wa', od') ∧ cln fc' := by
  obtain ⟨b, rfl, b1, b2⟩ := wI_of x
  rcases hp with hp | rfl
  · by_cases q2 : 0 ≤ b ∧ b ≤ 1
    · have n3 : ¬ K_isPart (wI b) = 0 := fun h => (part_z b1 b2).mp h q2
      have n4 : ¬ M_in (wI b).toInt64 0 1 = 0 := fun h => (in_z (lo := 0) (hi := 1) b1 b2 (by omega) (by omega) (by omega) (by omega)).mp h q2
      obtain ⟨hS, hg, hk⟩ := hp
      have hp : okP p := ⟨hS, hg, hk⟩
      have hO := c_isOver hS hc.1 hg hc.2 (by omega)
      obtain ⟨bx1, mo1, e1, hR1, hM1⟩ := r_now (F := F) (by omega) hS hg hm hk bx mo
      have hO1 := hM1.2.2.2.2.2.2
      have hok := okM_at hS hg p.2.2
      have hmk := mAt_k p.1 p.2.1 p.2.2
      rcases mOv_b p.1 (mAt p.1 p.2.1 p.2.2) with h | h
      · have hkr := c_kicker hS hc.1 hg hc.2 (by omega)
        have hT := r_turn hM1 hok (by omega)
        have hs1 := tnA_b hS p.2.1 p.2.2
        have hT2 : M_turnNow mo1 = wI (tnA p.1 p.2.1 p.2.2) := hT
        obtain ⟨s, hs⟩ : ∃ s, s = tnA p.1 p.2.1 p.2.2 := ⟨_, rfl⟩
        rw [← hs] at hkr hT2 hs1
        -- the class
        obtain ⟨u5, e5, hC5, hM5⟩ := c_cp (F := F) (by omega) hc.1 hc.2 tr
        have h6 := c_putP hS hC5 hg hM5 (by omega) (b := 1) (by omega)
        obtain ⟨f7, e7, cl7, hA7, hB7, hW7⟩ := c_look (F := F) (by omega) hS h6.1 (glP_b hg (by omega)) h6.2 (by omega) hcl
        rw [mAt_P] at hA7 hB7 hW7
        obtain ⟨u12, e12, hC12, hM12⟩ := c_cp (F := F) (by omega) hc.1 hc.2 (Sh_put u5 (wI (1 : Nat)))
        have h13 := c_putP hS hC12 hg hM12 (by omega) (b := 0) (by omega)
        obtain ⟨f14, e14, cl14, hA14, hB14, hW14⟩ := c_look (F := F) (by omega) hS h13.1 (glP_b hg (by omega)) h13.2 (by omega) cl7
        rw [mAt_P] at hA14 hB14 hW14
        -- the reference
        obtain ⟨mo6, e6, hM6⟩ := r_go (F := F) (by omega) hS hR1 hM1 hok (by omega) (b := 1) (by omega)
        obtain ⟨mo7, su7, wy7, wa7, eo7, hM7⟩ := r_odds hF hS hR1 hM6 (okM_step hS hok (by omega)) (by show (mAt p.1 p.2.1 p.2.2).1 + 1 ≤ 61; omega) hs1 su wy wa
        obtain ⟨bx10, mo10, e10, hR10, hM10⟩ := r_now (F := F) (by omega) hS hg hm hk bx1 mo7
        obtain ⟨mo11, e11, hM11⟩ := r_go (F := F) (by omega) hS hR10 hM10 hok (by omega) (b := 0) (by omega)
        obtain ⟨mo12, su12, wy12, wa12, eo12, hM12'⟩ := r_odds hF hS hR10 hM11 (okM_step hS hok (by omega)) (by show (mAt p.1 p.2.1 p.2.2).1 + 1 ≤ 61; omega) hs1 su7 wy7 wa7
        have w7 := c_wins hA7 hB7 hs1
        have w14 := c_wins hA14 hB14 hs1
        have bA := oU_b hS (mStep p.1 (mAt p.1 p.2.1 p.2.2) 1) hs1
        have bC := oU_b hS (mStep p.1 (mAt p.1 p.2.1 p.2.2) 0) hs1
        have h12 := oL_12 hS (m1 := mStep p.1 (mAt p.1 p.2.1 p.2.2) 1) (m0 := mStep p.1 (mAt p.1 p.2.1 p.2.2) 0) rfl
        generalize oU p.1 (mStep p.1 (mAt p.1 p.2.1 p.2.2) 1) s = A at *
        generalize oL p.1 (mStep p.1 (mAt p.1 p.2.1 p.2.2) 1) = B at *
        generalize oU p.1 (mStep p.1 (mAt p.1 p.2.1 p.2.2) 0) s = C at *
        generalize oL p.1 (mStep p.1 (mAt p.1 p.2.1 p.2.2) 0) = D at *
        have hputA : Fr_put (wJ A) (wJ B) = (wJ A, wJ B) := f_put (by omega) (by omega)
        have e7 : Fc_look F fc (Sh_put u5 1) = some f7 := e7
        have e12 : Sh_copyFrom F (Sh_put u5 1) now = some u12 := e12
        have e14 : Fc_look F f7 (Sh_put u12 0) = some f14 := e14
        have e6 : M_go F row bx1 mo1 1 = some mo6 := e6
        have e11 : M_go F row bx10 mo10 0 = some mo11 := e11
        have hcmp : (lg_cmp (wJ B) (wJ D) = 0) ↔ B = D := by rw [lg_cmp_eq, wJ_eq (by omega) (by omega) (by omega) (by omega)]
        by_cases hBD : B = D
        · obtain ⟨fr, er1, er2⟩ := rd_told (F := F) (by omega) (a := A - C) (b := B) (by omega) (by omega) (by omega) (by omega)
          refine ⟨Fr_part fr (wI b), Sh_put u12 0, f14, fr, bx10, mo12, su12, wy12, wa12, (wJ C, wJ D), ?_, ?_, cl14⟩
          · unfold K_matters
            rw [if_neg (t_now hp hc).1, if_neg n3, if_pos (by rw [hO, h]; rfl), hkr, z_let_e, e5, z_bd_s, z_let_e, e7, z_bd_s, w7, hW7, hputA, z_let_e, e12, z_bd_s, z_let_e, e14, z_bd_s, w14, hW14]
            have ht : Fr_take (wJ A, wJ B) (wJ C) (wJ D) = (wJ (A - C), wJ B) := by
              unfold Fr_take
              rw [if_pos (show lg_cmp (fr_low (wJ A, wJ B)) (wJ D) = 0 from hcmp.mpr hBD), z_let_e]
              show (wJ A - wJ C, wJ B) = _
              rw [wJ_sub]
            rw [ht, z_let_e, er1, z_bd_s]
          · unfold M_matters
            rw [if_neg (t_row hp hm), if_neg n4, e1, z_bd_s, if_pos (show mo_isOver mo1 = 0 by rw [hO1, h]; rfl), hT2, z_let_e, e6, z_bd_s, eo7, z_bd_s, z_let_e, z_let_e, e10, z_bd_s, e11, z_bd_s, eo12, z_bd_s, if_pos (show lg_cmp (wJ B) (wJ D) = 0 from hcmp.mpr hBD)]
            refine (z_bd_e (show M_told F (wJ A - wJ C) (wJ B) (wI b) = _ by rw [wJ_sub]; exact er2 (wI b))).trans rfl
        · have hpr : 0 < B * D ∧ B * D ≤ 3656158440062976 := by
            rcases h12 hBD with q | q
            · rw [q, Int.one_mul]; omega
            · rw [q, Int.mul_one]; omega
          have hAD : 0 ≤ A * D ∧ A * D ≤ B * D := ⟨Int.mul_nonneg bA.1 (by omega), Int.mul_le_mul_of_nonneg_right bA.2.1 (by omega)⟩
          have hCB : 0 ≤ C * B ∧ C * B ≤ D * B := ⟨Int.mul_nonneg bC.1 (by omega), Int.mul_le_mul_of_nonneg_right bC.2.1 (by omega)⟩
          rw [Int.mul_comm D B] at hCB
          obtain ⟨fr, er1, er2⟩ := rd_told (F := F) (by omega) (a := A * D - C * B) (b := B * D) (by omega) (by omega) (by omega) (by omega)
          refine ⟨Fr_part fr (wI b), Sh_put u12 0, f14, fr, bx10, mo12, su12, wy12, wa12, (wJ C, wJ D), ?_, ?_, cl14⟩
          · unfold K_matters
            rw [if_neg (t_now hp hc).1, if_neg n3, if_pos (by rw [hO, h]; rfl), hkr, z_let_e, e5, z_bd_s, z_let_e, e7, z_bd_s, w7, hW7, hputA, z_let_e, e12, z_bd_s, z_let_e, e14, z_bd_s, w14, hW14]
            have ht : Fr_take (wJ A, wJ B) (wJ C) (wJ D) = (wJ (A * D - C * B), wJ (B * D)) := by
              unfold Fr_take
              rw [if_neg (show ¬ lg_cmp (fr_low (wJ A, wJ B)) (wJ D) = 0 from fun h' => hBD (hcmp.mp h')), z_let_e, z_let_e]
              show (wJ A * wJ D - wJ C * wJ B, wJ B * wJ D) = _
              rw [wJ_mul, wJ_mul, wJ_mul, wJ_sub]
            rw [ht, z_let_e, er1, z_bd_s]
          · unfold M_matters
            rw [if_neg (t_row hp hm), if_neg n4, e1, z_bd_s, if_pos (show mo_isOver mo1 = 0 by rw [hO1, h]; rfl), hT2, z_let_e, e6, z_bd_s, eo7, z_bd_s, z_let_e, z_let_e, e10, z_bd_s, e11, z_bd_s, eo12, z_bd_s, if_neg (show ¬ lg_cmp (wJ B) (wJ D) = 0 from fun h' => hBD (hcmp.mp h'))]
            refine (z_bd_e (show M_told F (wJ A * wJ D - wJ C * wJ B) (wJ B * wJ D) (wI b) = _ by rw [wJ_mul, wJ_mul, wJ_mul, wJ_sub]; exact er2 (wI b))).trans rfl
      · refine ⟨-2147483648, tr, fc, to, bx1, mo1, su, wy, wa, od, ?_, ?_, hcl⟩
        · unfold K_matters
          rw [if_neg (t_now hp hc).1, if_neg n3, if_neg (by rw [hO, h]; decide)]
        · unfold M_matters
          rw [if_neg (t_row hp hm), if_neg n4, e1, z_bd_s, if_neg (show ¬ mo_isOver mo1 = 0 by rw [hO1, h]; decide)]
    · refine ⟨-2147483648, tr, fc, to, bx, mo, su, wy, wa, od, ?_, ?_, hcl⟩
      · unfold K_matters
        rw [if_neg (t_now hp hc).1, if_pos ((part_z b1 b2).mpr q2)]
      · unfold M_matters
        rw [if_neg (t_row hp hm)]
        exact if_pos ((in_z (lo := 0) (hi := 1) b1 b2 (by omega) (by omega) (by omega) (by omega)).mpr q2)
  · refine ⟨-2147483648, tr, fc, to, bx, mo, su, wy, wa, od, ?_, ?_, hcl⟩
    · unfold K_matters
      rw [if_pos (u_now hc)]
    · unfold M_matters
      rw [if_pos (u_row hm)]
end ZFM

/-! ROWS AT REST: the loops, the call -/
theorem cm4_z {a b c d : Int} (h1 : 0 ≤ a) (h3 : 0 < b) (h5 : 0 ≤ c) (h7 : 0 < d) : (wI (cm4 a.toNat b.toNat c.toNat d.toNat) = 0) ↔ (¬ lt2 c d a b ∧ ¬ lt2 a b c d) := by
  obtain ⟨a, rfl⟩ : ∃ s : Nat, a = s := ⟨a.toNat, by omega⟩
  obtain ⟨b, rfl⟩ : ∃ s : Nat, b = s := ⟨b.toNat, by omega⟩
  obtain ⟨c, rfl⟩ : ∃ s : Nat, c = s := ⟨c.toNat, by omega⟩
  obtain ⟨d, rfl⟩ : ∃ s : Nat, d = s := ⟨d.toNat, by omega⟩
  simp only [Int.toNat_natCast]
  unfold lt2
  have e1 : (c : Int) * b = ((c * b : Nat) : Int) := by rw [Int.natCast_mul]
  have e2 : (a : Int) * d = ((a * d : Nat) : Int) := by rw [Int.natCast_mul]
  rw [e1, e2]
  unfold cm4
  by_cases q1 : a * d < c * b
  · rw [if_pos q1]
    exact ⟨fun h => absurd h (by decide), fun h => absurd (by omega) h.2⟩
  · rw [if_neg q1]
    by_cases q2 : a * d = c * b
    · rw [if_pos q2]
      exact ⟨fun _ => by omega, fun _ => rfl⟩
    · rw [if_neg q2]
      exact ⟨fun h => absurd h (by decide), fun h => absurd (by omega) h.1⟩
theorem row_anyB : ∀ n, n < 6 → ∀ i, i < 24 → (K_rowAt FF (wI (i : Nat)) (wI (n : Nat))).isSome = true := by decide +kernel
section ZRU
variable {p : Po} {now tr : Sh} {row : MRow} {S : St} {fc : Fc} {gl : Nat → Nat} {k : Nat} {re : Re}
theorem stp_t {a b : Nat} (h : rst S a b) (u : Nat × Int) : stp S a b u = (u.1 + 1, if u.1 = 0 then 24 * (a : Int) + b else u.2) := if_pos h
theorem stp_f {a b : Nat} (h : ¬ rst S a b) (u : Nat × Int) : stp S a b u = u := if_neg h
def okU (M : Nat) (u : Nat × Int) : Prop := u.1 ≤ M ∧ ((u.1 = 0 ∧ u.2 = -1) ∨ (0 < u.1 ∧ ∃ a b : Nat, a < fc5 4 ∧ b < fc5 4 ∧ u.2 = 24 * (a : Int) + b))
theorem okU_stp {a b M : Nat} (ha : a < 24) (hb : b < 24) {u : Nat × Int} (h : okU M u) : okU (M + 1) (stp S a b u) := by
  by_cases hr : rst S a b
  · rw [stp_t hr]
    refine ⟨by show u.1 + 1 ≤ M + 1; have := h.1; omega, Or.inr ⟨by show 0 < u.1 + 1; omega, ?_⟩⟩
    rcases h.2 with h2 | ⟨h2, h3⟩
    · exact ⟨a, b, ha, hb, if_pos h2.1⟩
    · obtain ⟨x, y, hx, hy, e⟩ := h3
      exact ⟨x, y, hx, hy, by show (if u.1 = 0 then _ else u.2) = _; rw [if_neg (by omega), e]⟩
  · rw [stp_f hr]
    exact ⟨by have := h.1; omega, h.2⟩
theorem okU_rw {a : Nat} (ha : a < 24) : ∀ (j M : Nat) (u : Nat × Int), j ≤ 24 → okU M u → okU (M + j) (rwS S a j u)
  | 0, M, u, _, h => h
  | j + 1, M, u, hj, h => okU_stp ha (by omega) (okU_rw ha j M u (by omega) h)
theorem okU_al (hn4 : sn S ≤ 4) : ∀ a, a ≤ 24 → okU (24 * a) (alS S a)
  | 0, _ => ⟨Nat.le_refl _, Or.inl ⟨rfl, rfl⟩⟩
  | a + 1, ha => by
    have h24 := fc5_4 (sn S) (by omega)
    have h := okU_rw (S := S) (a := a) (by omega) (fc5 (sn S)) (24 * a) (alS S a) h24 (okU_al hn4 a (by omega))
    exact ⟨by have := h.1; show (rwS S a (fc5 (sn S)) (alS S a)).1 ≤ _; omega, h.2⟩
/-! the class: the pairs counted -/
theorem c_first (hS : okS S) (hn4 : sn S ≤ 4) (ht : tkn S (fc5 (sn S)) 0 re) : ∃ re', Re_firstPair FF re = some (wI (if (alS S (fc5 (sn S))).1 = 0 then 0 else (alS S (fc5 (sn S))).2), re') ∧ re_pairs re' = wI (((alS S (fc5 (sn S))).1 : Nat) : Int) := by
  have h24 := fc5_4 (sn S) (by omega)
  have hall : ∀ x y, x < fc5 (sn S) → prd (fc5 (sn S)) 0 x y := fun x y h => Or.inl h
  have test : ∀ (r : Re) (a b : Nat), tkn S (fc5 (sn S)) 0 r → a < fc5 (sn S) → b < fc5 (sn S) → ∃ c1 c2 : Int32, Re_compareOdds FF r (re_winsOfA r) (wI ((24 * a + b : Nat) : Int)) (re_bestOfA r b) = some c1 ∧ Re_compareOdds FF r (re_winsOfB r) (wI ((24 * a + b : Nat) : Int)) (re_bestOfB r a) = some c2 ∧ ((c1 = 0 ∧ c2 = 0) ↔ rst S a b) := fun r a b ht ha hb => by
    obtain ⟨t1, t2, t3, t4⟩ := ht
    have hl := t2 a b ha hb (hall a b ha)
    have u0 := u2_b hS ha hb (s := 0) (by omega)
    have u1 := u2_b hS ha hb (s := 1) (by omega)
    rcases t3 b hb with ⟨_, h2⟩ | ⟨x, hx, _, h1, h2⟩
    · exact absurd (hall a b ha) (h2 a ha)
    rcases t4 a ha with ⟨_, g2⟩ | ⟨y, hy, _, g1, g2⟩
    · exact absurd (hall a b ha) (g2 b hb)
    have hlx := t2 x b hx hb (hall x b hx)
    have hly := t2 a y ha hy (hall a y ha)
    have ux := u2_b hS hx hb (s := 0) (by omega)
    have uy := u2_b hS ha hy (s := 1) (by omega)
    have z1 := cm4_z u0.1 u0.2.2.1 ux.1 ux.2.2.1
    have z2 := cm4_z u1.1 u1.2.2.1 uy.1 uy.2.2.1
    refine ⟨_, _, by rw [h1]; exact c_cmp (by omega) (by omega) hl.1 hl.2.2 hlx.1 hlx.2.2 u0.1 u0.2.1 u0.2.2.1 u0.2.2.2 ux.1 ux.2.1 ux.2.2.1 ux.2.2.2, by rw [g1]; exact c_cmp (by omega) (by omega) hl.2.1 hl.2.2 hly.2.1 hly.2.2 u1.1 u1.2.1 u1.2.2.1 u1.2.2.2 uy.1 uy.2.1 uy.2.2.1 uy.2.2.2, ?_⟩
    rw [z1, z2]
    constructor
    · intro h
      refine ⟨fun o ho hlt => ?_, fun o ho hlt => ?_⟩
      · exact h2 o ho (hall o b ho) (lt2_tr' ux.2.2.1 u0.2.2.1 (u2_b hS ho hb (s := 0) (by omega)).2.2.1 h.1.2 hlt)
      · exact g2 o ho (hall a o ha) (lt2_tr' uy.2.2.1 u1.2.2.1 (u2_b hS ha ho (s := 1) (by omega)).2.2.1 h.2.2 hlt)
    · intro h
      exact ⟨⟨h2 a ha (hall a b ha), h.1 x hx⟩, ⟨g2 b hb (hall a b ha), h.2 y hy⟩⟩
  have inner : ∀ (a : Nat) (kx : Int32 → Re → Option (Int32 × Re)) (r : Re), a < fc5 (sn S) → tkn S (fc5 (sn S)) 0 r → re_pairs r = wI (((alS S a).1 : Nat) : Int) → ∃ r', Re_firstPair_L19 FF (wI (a : Nat)) kx FF (wI (if (alS S a).1 = 0 then 0 else (alS S a).2)) 0 r = kx (wI (if (alS S (a + 1)).1 = 0 then 0 else (alS S (a + 1)).2)) r' ∧ tkn S (fc5 (sn S)) 0 r' ∧ re_pairs r' = wI (((alS S (a + 1)).1 : Nat) : Int) := fun a kx r ha ht hpr => by
    obtain ⟨s', e, h1, h2, h3⟩ := lp0 (fun n x (s : Int32 × Re) => Re_firstPair_L19 FF (wI (a : Nat)) kx n s.1 x s.2) (fun s => kx s.1 s.2) (fc5 (sn S)) (fun b s => tkn S (fc5 (sn S)) 0 s.2 ∧ re_pairs s.2 = wI (((rwS S a b (alS S a)).1 : Nat) : Int) ∧ s.1 = wI (if (rwS S a b (alS S a)).1 = 0 then 0 else (rwS S a b (alS S a)).2))
      (fun n b s hb hp => by
        obtain ⟨q1, q2, q3⟩ := hp
        obtain ⟨c1, c2, e1, e2, hiff⟩ := test s.2 a b q1 ha hb
        have hu := okU_rw (S := S) (a := a) (by omega) b (24 * a) (alS S a) (by omega) (okU_al hn4 a (by omega))
        have hx18 : wI (a : Int) * 24 + wI (b : Int) = wI ((24 * a + b : Nat) : Int) := by rw [wI_24, wI_mul, wI_add]; exact wI_c (by omega)
        have hk1 : wI (b : Int) + 1 = wI ((b + 1 : Nat) : Int) := by rw [wI_1, wI_add]; rfl
        obtain ⟨u, hue⟩ : ∃ u, u = rwS S a b (alS S a) := ⟨_, rfl⟩
        rw [← hue] at q2 q3 hu
        have hnx : rwS S a (b + 1) (alS S a) = stp S a b u := by rw [hue]; rfl
        rw [hnx]
        have hub : u.1 ≤ 600 := by have := hu.1; omega
        have hst : ∀ z, (if c1 = 0 then (if c2 = 0 then Re_firstPair_L19 FF (wI (a : Nat)) kx n (if (re_pairs s.2) = 0 then wI ((24 * a + b : Nat) : Int) else s.1) (wI ((b + 1 : Nat) : Int)) ((re_winsOfA s.2), (re_winsOfB s.2), (re_wholes s.2), (re_bestOfA s.2), (re_bestOfB s.2), (re_rows s.2), (re_known s.2), re_pairs s.2 + 1, (re_rowOfA s.2), (re_rowOfB s.2)) else Re_firstPair_L19 FF (wI (a : Nat)) kx n s.1 (wI ((b + 1 : Nat) : Int)) s.2) else Re_firstPair_L19 FF (wI (a : Nat)) kx n s.1 (wI ((b + 1 : Nat) : Int)) s.2) = z → Re_firstPair_L19 FF (wI (a : Nat)) kx (n + 1) s.1 (wI (b : Nat)) s.2 = z := fun z hz => by
          rw [← hz, Re_firstPair_L19, q1.1, if_neg (by rw [wI_le (by omega) (by omega) (by omega) (by omega)]; omega), hx18, z_let_e, z_gd_e (wI_in (by omega) (by omega) (by omega)), wI_ix (by omega), e1, z_bd_s, z_gd_e (wI_in (by omega) (by omega) (by omega)), wI_ix (by omega), e2, z_bd_s, ← q1.1, hk1]
          simp only [z_let_e]
        by_cases hr : rst S a b
        · have hc := hiff.mpr hr
          rw [stp_t hr]
          refine ⟨(if (re_pairs s.2) = 0 then wI ((24 * a + b : Nat) : Int) else s.1, ((re_winsOfA s.2), (re_winsOfB s.2), (re_wholes s.2), (re_bestOfA s.2), (re_bestOfB s.2), (re_rows s.2), (re_known s.2), re_pairs s.2 + 1, (re_rowOfA s.2), (re_rowOfB s.2))), hst _ (by rw [if_pos hc.1, if_pos hc.2]), q1, ?_, ?_⟩
          · show re_pairs s.2 + 1 = _
            rw [q2, wI_1, wI_add]
            rfl
          · show (if (re_pairs s.2) = 0 then wI ((24 * a + b : Nat) : Int) else s.1) = wI (if u.1 + 1 = 0 then 0 else if u.1 = 0 then 24 * (a : Int) + b else u.2)
            rw [if_neg (show ¬ u.1 + 1 = 0 by omega), q2, q3]
            by_cases h0 : u.1 = 0
            · rw [if_pos h0, if_pos (by rw [h0]; rfl)]
              exact wI_c (by omega)
            · rw [if_neg h0, if_neg h0, if_neg (by rw [wI_0, wI_eq (by omega) (by omega) (by omega) (by omega)]; omega)]
        · rw [stp_f hr]
          refine ⟨s, hst _ ?_, q1, q2, q3⟩
          by_cases hc1 : c1 = 0
          · rw [if_pos hc1, if_neg (fun h => hr (hiff.mp ⟨hc1, h⟩))]
          · rw [if_neg hc1])
      (fun n s hp => by
        simp only [Re_firstPair_L19]
        rw [hp.1.1]
        exact if_pos (by rw [wI_le (by omega) (by omega) (by omega) (by omega)]; omega)) (n := FF) (s := (wI (if (alS S a).1 = 0 then 0 else (alS S a).2), r)) (by show _ < 2000; omega) ⟨ht, hpr, rfl⟩
    refine ⟨s'.2, ?_, h1, h2⟩
    refine (show _ = _ from e).trans ?_
    show kx s'.1 s'.2 = _
    rw [h3]
    rfl
  obtain ⟨s', e, h1, h2, h3⟩ := lp0 (fun n x (s : Int32 × Re) => Re_firstPair_L9 FF n s.1 x s.2) (fun s => some (s.1, s.2)) (fc5 (sn S)) (fun a s => tkn S (fc5 (sn S)) 0 s.2 ∧ re_pairs s.2 = wI (((alS S a).1 : Nat) : Int) ∧ s.1 = wI (if (alS S a).1 = 0 then 0 else (alS S a).2))
    (fun n a s ha hp => by
      obtain ⟨q1, q2, q3⟩ := hp
      obtain ⟨r', e, g1, g2⟩ := inner a (fun (x15 : Int32) (re16 : Re) => z_let (wI (a : Int) + 1) (fun x33 : Int32 => Re_firstPair_L9 FF n x15 x33 re16)) s.2 ha q1 q2
      refine ⟨(wI (if (alS S (a + 1)).1 = 0 then 0 else (alS S (a + 1)).2), r'), ?_, g1, g2, rfl⟩
      simp only [Re_firstPair_L9]
      rw [q1.1, if_neg (by rw [wI_le (by omega) (by omega) (by omega) (by omega)]; omega), q3]
      refine e.trans ?_
      show z_let _ _ = _
      rw [z_let_e, wI_1, wI_add]
      rfl)
    (fun n s hp => by
      simp only [Re_firstPair_L9]
      rw [hp.1.1]
      exact if_pos (by rw [wI_le (by omega) (by omega) (by omega) (by omega)]; omega)) (n := FF) (s := (0, ((re_winsOfA re), (re_winsOfB re), (re_wholes re), (re_bestOfA re), (re_bestOfB re), (re_rows re), (re_known re), 0, (re_rowOfA re), (re_rowOfB re)))) (by show _ < 2000; omega) ⟨ht, rfl, rfl⟩
  refine ⟨s'.2, ?_, h2⟩
  unfold Re_firstPair
  refine (show _ = _ from e).trans ?_
  rw [h3]
/-- the first pair is one of them -/
theorem rw_lim {a : Nat} (ha : a < fc5 (sn S)) : ∀ (j : Nat) (u : Nat × Int), j ≤ fc5 (sn S) → (0 < u.1 → ∃ x y : Nat, x < fc5 (sn S) ∧ y < fc5 (sn S) ∧ u.2 = 24 * (x : Int) + y) → 0 < (rwS S a j u).1 → ∃ x y : Nat, x < fc5 (sn S) ∧ y < fc5 (sn S) ∧ (rwS S a j u).2 = 24 * (x : Int) + y
  | 0, u, _, h, hp => h hp
  | j + 1, u, hj, h, hp => by
    have ih := rw_lim ha j u (by omega) h
    have e : rwS S a (j + 1) u = stp S a j (rwS S a j u) := rfl
    rw [e] at hp ⊢
    by_cases hr : rst S a j
    · rw [stp_t hr] at hp ⊢
      by_cases h0 : (rwS S a j u).1 = 0
      · exact ⟨a, j, ha, by omega, if_pos h0⟩
      · obtain ⟨x, y, hx, hy, e⟩ := ih (by omega)
        exact ⟨x, y, hx, hy, by show (if (rwS S a j u).1 = 0 then _ else (rwS S a j u).2) = _; rw [if_neg h0, e]⟩
    · rw [stp_f hr] at hp ⊢
      exact ih hp
theorem al_lim0 : ∀ a : Nat, a ≤ fc5 (sn S) → 0 < (alS S a).1 → ∃ x y : Nat, x < fc5 (sn S) ∧ y < fc5 (sn S) ∧ (alS S a).2 = 24 * (x : Int) + y
  | 0, _, h => absurd h (by show ¬ 0 < 0; omega)
  | a + 1, ha, h => rw_lim (by omega) _ _ (Nat.le_refl _) (al_lim0 a (by omega)) h
theorem al_lim (hn4 : sn S ≤ 4) (h : 0 < (alS S (fc5 (sn S))).1) : ∃ x y : Nat, x < fc5 (sn S) ∧ y < fc5 (sn S) ∧ (alS S (fc5 (sn S))).2.toNat = 24 * x + y := by
  obtain ⟨x, y, hx, hy, e⟩ := al_lim0 (fc5 (sn S)) (Nat.le_refl _) h
  exact ⟨x, y, hx, hy, by omega⟩
theorem row_any : ∀ n, n < 6 → ∀ i, i < 24 → ∃ r, K_rowAt FF (wI (i : Nat)) (wI (n : Nat)) = some r := fun n hn i hi => by
  have h := row_anyB n hn i hi
  cases hh : K_rowAt FF (wI (i : Nat)) (wI (n : Nat)) with
  | none => rw [hh] at h; simp at h
  | some r => exact ⟨r, rfl⟩
/-! the class: all pairs -/
def cb2 (S : St) (tr : Sh) : Prop := cbT S tr ∧ ∀ i, i < 10 → sn S ≤ i → (i < 5 ∨ 5 + sn S ≤ i) → sh_skills tr i = wI (sk S i)
theorem c_begin (hS : okS S) (hn4 : sn S ≤ 4) (re : Re) : ∃ re', Re_begin FF re (wI ((fc5 (sn S) : Nat) : Int)) = some re' ∧ tkn S 0 0 re' := by
  have h24 := fc5_4 (sn S) (by omega)
  have h0 : ∀ x y, ¬ prd 0 0 x y := fun x y h => by unfold prd at h; omega
  obtain ⟨s', e, h1, h2, h3⟩ := lp0 (fun n x (s : Re) => Re_begin_L12 n x s) (fun s => some s) 24 (fun i s => re_rows s = wI ((fc5 (sn S) : Nat) : Int) ∧ (∀ t, t < i → re_bestOfA s t = -1) ∧ (∀ t, t < i → re_bestOfB s t = -1))
    (fun n i s hi hp => by
      refine ⟨((re_winsOfA s), (re_winsOfB s), (re_wholes s), (upd (re_bestOfA s) i (-1)), (upd (re_bestOfB s) i (-1)), (re_rows s), (re_known s), (re_pairs s), (re_rowOfA s), (re_rowOfB s)), ?_, hp.1, fun t ht => ?_, fun t ht => ?_⟩
      · simp only [Re_begin_L12]
        rw [if_neg (by rw [wI_24, wI_le (by omega) (by omega) (by omega) (by omega)]; omega), z_gd_e (wI_in (by omega) (by omega) (by omega)), z_gd_e (wI_in (by omega) (by omega) (by omega)), z_let_e, wI_ix (by omega), wI_1, wI_add, ← wI_1]
        rfl
      · show upd (re_bestOfA s) i (-1) t = -1
        by_cases h : t = i
        · rw [h, upd_s]
        · rw [upd_n h]; exact hp.2.1 t (by omega)
      · show upd (re_bestOfB s) i (-1) t = -1
        by_cases h : t = i
        · rw [h, upd_s]
        · rw [upd_n h]; exact hp.2.2 t (by omega))
    (fun n s _ => by simp only [Re_begin_L12]; exact if_pos (by decide)) (n := FF) (s := ((re_winsOfA re), (re_winsOfB re), (re_wholes re), (re_bestOfA re), (re_bestOfB re), wI ((fc5 (sn S) : Nat) : Int), (re_known re), (re_pairs re), (re_rowOfA re), (re_rowOfB re))) (by decide) ⟨rfl, fun t h => absurd h (Nat.not_lt_zero t), fun t h => absurd h (Nat.not_lt_zero t)⟩
  refine ⟨s', ?_, h1, fun x y _ _ h => absurd h (h0 x y), fun y hy => Or.inl ⟨h2 y (by omega), fun x _ => h0 x y⟩, fun x hx => Or.inl ⟨h3 x (by omega), fun y _ => h0 x y⟩⟩
  unfold Re_begin
  rw [if_neg (by rw [wI_24, wI_lt (by omega) (by omega) (by omega) (by omega)]; omega), z_let_e]
  exact e
theorem c_find (hp : okP p) (hn4 : sn p.1 ≤ 4) (hc : cP p now) (hcl : cln fc) (tr : Sh) (re : Re) : ∃ tr' fc' re', K_findRests FF now tr fc re = some (tr', fc', re') ∧ cln fc' ∧ re_known re' = 1 ∧ re_pairs re' = wI (((alS p.1 (fc5 (sn p.1))).1 : Nat) : Int) ∧ (0 < (alS p.1 (fc5 (sn p.1))).1 → re_rowOfA re' = wI ((enc (pm (sn p.1) ((alS p.1 (fc5 (sn p.1))).2.toNat / 24)) : Nat) : Int) ∧ re_rowOfB re' = wI ((enc (pm (sn p.1) ((alS p.1 (fc5 (sn p.1))).2.toNat % 24)) : Nat) : Int)) := by
  obtain ⟨hS, hg, hk⟩ := hp
  have hn1 := hS.1
  have h24 := fc5_4 (sn p.1) (by omega)
  have hf := fc5_k (sn p.1) (by omega)
  obtain ⟨u1, e1, hT1, hsk1⟩ := c_start2 (F := FF) (by decide) hc.1 tr
  obtain ⟨r1, e2, ht1⟩ := c_begin hS hn4 re
  have inner : ∀ (a : Nat) (kx : Sh → Fc → Re → Option (Sh × Fc × Re)) (t0 : Sh) (f0 : Fc) (r0 : Re), a < fc5 (sn p.1) → cb2 p.1 t0 → (∀ k, k < sn p.1 → sh_skills t0 k = wI (sk p.1 (pq (sn p.1) a k))) → cln f0 → tkn p.1 a 0 r0 → ∃ t1 f1 r1, K_findRests_L50 FF now (wI (sn p.1)) (wI ((fc5 (sn p.1) : Nat) : Int)) (wI (a : Nat)) kx FF 0 t0 f0 r0 = kx t1 f1 r1 ∧ cb2 p.1 t1 ∧ cln f1 ∧ tkn p.1 (a + 1) 0 r1 := fun a kx t0 f0 r0 ha hT hA hcl ht => by
    obtain ⟨s', e, g1, g2, g3, g4⟩ := lp0 (fun n x (s : Sh × Fc × Re) => K_findRests_L50 FF now (wI (sn p.1)) (wI ((fc5 (sn p.1) : Nat) : Int)) (wI (a : Nat)) kx n x s.1 s.2.1 s.2.2) (fun s => kx s.1 s.2.1 s.2.2) (fc5 (sn p.1)) (fun b s => cb2 p.1 s.1 ∧ (∀ k, k < sn p.1 → sh_skills s.1 k = wI (sk p.1 (pq (sn p.1) a k))) ∧ cln s.2.1 ∧ tkn p.1 a b s.2.2)
      (fun n b s hb hp => by
        obtain ⟨q1, q2, q3, q4⟩ := hp
        obtain ⟨t2, et, hT2, hs2, hs3⟩ := c_setT (F := FF) (s := 1) (q := pq (sn p.1) b) (R := wI ((enc (pm (sn p.1) b) : Nat) : Int)) (by decide) hS hc.1 (by omega) (fun k hk => row_dg _ (by omega) b hb k hk) q1.1
        have hC2 : CS (st2 p.1 a b) t2 := by
          refine ⟨hT2.1, hT2.2.1, hT2.2.2.1, hT2.2.2.2.1, fun i hi => ?_⟩
          show sh_skills t2 i = wI (if 5 * 1 ≤ i ∧ i < 5 * 1 + sn p.1 then (if 5 * 0 ≤ 5 * 1 + pq (sn p.1) b (i - 5 * 1) ∧ 5 * 1 + pq (sn p.1) b (i - 5 * 1) < 5 * 0 + sn p.1 then sk p.1 (5 * 0 + pq (sn p.1) a (5 * 1 + pq (sn p.1) b (i - 5 * 1) - 5 * 0)) else sk p.1 (5 * 1 + pq (sn p.1) b (i - 5 * 1))) else (if 5 * 0 ≤ i ∧ i < 5 * 0 + sn p.1 then sk p.1 (5 * 0 + pq (sn p.1) a (i - 5 * 0)) else sk p.1 i))
          by_cases h1 : 5 * 1 ≤ i ∧ i < 5 * 1 + sn p.1
          · rw [if_pos h1, if_neg (by omega), ← hs2 (i - 5 * 1) (by omega), show 5 * 1 + (i - 5 * 1) = i by omega]
          · rw [if_neg h1, hs3 i (by omega)]
            by_cases h2 : 5 * 0 ≤ i ∧ i < 5 * 0 + sn p.1
            · rw [if_pos h2, q2 i (by omega), show 5 * 0 + pq (sn p.1) a (i - 5 * 0) = pq (sn p.1) a i by rw [show i - 5 * 0 = i by omega]; omega]
            · rw [if_neg h2]
              exact q1.2 i hi (by omega) (by omega)
        obtain ⟨f2, ef, cl2, hA2, hB2, hW2⟩ := c_look (F := FF) (k := 0) (gl := fun _ => 0) (by decide) (ok2 hS ha hb) hC2 (fun _ => Nat.zero_le _) (cbT_CM hT2 _ _) (by omega) q3
        obtain ⟨r2, er, ht2⟩ := c_take hS hn4 ha hb hA2 hB2 hW2 q4
        refine ⟨(t2, f2, r2), ?_, ⟨hT2, fun i hi h1 h2 => by rw [hs3 i (by omega)]; exact q1.2 i hi h1 h2⟩, fun k hk => by rw [hs3 k (by omega)]; exact q2 k hk, cl2, ht2⟩
        have et : K_setTrialRow FF now s.1 1 (wI ((enc (pm (sn p.1) b) : Nat) : Int)) = some t2 := et
        simp only [K_findRests_L50]
        rw [if_neg (by rw [wI_le (by omega) (by omega) (by omega) (by omega)]; omega), row_at _ (by omega) b hb, z_bd_s, et, z_bd_s, ef, z_bd_s, er, z_bd_s, z_let_e, wI_1, wI_add]
        rfl)
      (fun n s _ => by
        simp only [K_findRests_L50]
        exact if_pos (by rw [wI_le (by omega) (by omega) (by omega) (by omega)]; omega)) (n := FF) (s := (t0, f0, r0)) (by show _ < 2000; omega) ⟨hT, hA, hcl, ht⟩
    refine ⟨s'.1, s'.2.1, s'.2.2, e, g1, g3, ?_⟩
    have heq : ∀ x y, y < fc5 (sn p.1) → (prd (a + 1) 0 x y ↔ prd a (fc5 (sn p.1)) x y) := fun x y hy => by unfold prd; omega
    obtain ⟨w1, w2, w3, w4⟩ := g4
    refine ⟨w1, fun x y hx hy h => w2 x y hx hy ((heq x y hy).mp h), fun y hy => ?_, fun x hx => ?_⟩
    · rcases w3 y hy with ⟨v1, v2⟩ | ⟨x, hx, v1, v2, v3⟩
      · exact Or.inl ⟨v1, fun x hx h => v2 x hx ((heq x y hy).mp h)⟩
      · exact Or.inr ⟨x, hx, (heq x y hy).mpr v1, v2, fun o ho h => v3 o ho ((heq o y hy).mp h)⟩
    · rcases w4 x hx with ⟨v1, v2⟩ | ⟨y, hy, v1, v2, v3⟩
      · exact Or.inl ⟨v1, fun y hy h => v2 y hy ((heq x y hy).mp h)⟩
      · exact Or.inr ⟨y, hy, (heq x y hy).mpr v1, v2, fun o ho h => v3 o ho ((heq x o ho).mp h)⟩
  obtain ⟨K, hK⟩ : ∃ K : Sh → Fc → Re → Option (Sh × Fc × Re), K = fun (sh17 : Sh) (fc18 : Fc) (re19 : Re) => z_bd (Re_firstPair FF re19) (fun u48 : Int32 × Re => z_let u48.1 (fun x49 : Int32 => z_bd (K_rowAt FF (x49 / 24) (wI (sn p.1))) (fun r50 : Int32 => z_bd (K_rowAt FF (z_rem x49 24) (wI (sn p.1))) (fun r51 : Int32 => some (sh17, fc18, ((re_winsOfA u48.2), (re_winsOfB u48.2), (re_wholes u48.2), (re_bestOfA u48.2), (re_bestOfB u48.2), (re_rows u48.2), 1, (re_pairs u48.2), r50, r51)))))) := ⟨_, rfl⟩
  obtain ⟨s', e, g1, g2, g3⟩ := lp0 (fun n x (s : Sh × Fc × Re) => K_findRests_L32 FF now (wI (sn p.1)) (wI ((fc5 (sn p.1) : Nat) : Int)) K n x s.1 s.2.1 s.2.2) (fun s => K s.1 s.2.1 s.2.2) (fc5 (sn p.1)) (fun a s => cb2 p.1 s.1 ∧ cln s.2.1 ∧ tkn p.1 a 0 s.2.2)
    (fun n a s ha hp => by
      obtain ⟨q1, q3, q4⟩ := hp
      obtain ⟨t2, et, hT2, hs2, hs3⟩ := c_setT (F := FF) (s := 0) (q := pq (sn p.1) a) (R := wI ((enc (pm (sn p.1) a) : Nat) : Int)) (by decide) hS hc.1 (by omega) (fun k hk => row_dg _ (by omega) a ha k hk) q1.1
      obtain ⟨t3, f3, r3, e3, v1, v2, v3⟩ := inner a (fun (sh35 : Sh) (fc36 : Fc) (re37 : Re) => z_let (wI (a : Int) + 1) (fun x47 : Int32 => K_findRests_L32 FF now (wI (sn p.1)) (wI ((fc5 (sn p.1) : Nat) : Int)) K n x47 sh35 fc36 re37)) t2 s.2.1 s.2.2 ha ⟨hT2, fun i hi h1 h2 => by rw [hs3 i (by omega)]; exact q1.2 i hi h1 h2⟩ (fun k hk => by
        have := hs2 k hk
        rw [show 5 * 0 + k = k by omega, show 5 * 0 + pq (sn p.1) a k = pq (sn p.1) a k by omega] at this
        exact this) q3 q4
      refine ⟨(t3, f3, r3), ?_, v1, v2, v3⟩
      have et : K_setTrialRow FF now s.1 0 (wI ((enc (pm (sn p.1) a) : Nat) : Int)) = some t2 := et
      simp only [K_findRests_L32]
      rw [if_neg (by rw [wI_le (by omega) (by omega) (by omega) (by omega)]; omega), row_at _ (by omega) a ha, z_bd_s, et, z_bd_s]
      refine e3.trans ?_
      show z_let _ _ = _
      rw [z_let_e, wI_1, wI_add]
      rfl)
    (fun n s _ => by
      simp only [K_findRests_L32]
      exact if_pos (by rw [wI_le (by omega) (by omega) (by omega) (by omega)]; omega)) (n := FF) (s := (u1, fc, r1)) (by show _ < 2000; omega) ⟨⟨hT1, fun i hi _ _ => hsk1 i hi⟩, hcl, ht1⟩
  obtain ⟨r4, e4, hpr⟩ := c_first hS hn4 g3
  have hu := okU_al (S := p.1) hn4 (fc5 (sn p.1)) h24
  have hle : ∀ a b : Nat, a < fc5 4 → b < fc5 4 → ∃ r : Nat, r = 24 * a + b ∧ r < 576 := fun a b ha hb => ⟨_, rfl, by
    have ha : a < 24 := ha
    have hb : b < 24 := hb
    omega⟩
  -- the two rows of the first pair
  have hrow : ∀ x : Nat, x < 576 → ∃ r50 r51 : Int32, K_rowAt FF (wI (x : Nat) / 24) (wI (sn p.1)) = some r50 ∧ K_rowAt FF (z_rem (wI (x : Nat)) 24) (wI (sn p.1)) = some r51 ∧ (x / 24 < fc5 (sn p.1) → r50 = wI ((enc (pm (sn p.1) (x / 24)) : Nat) : Int)) ∧ (x % 24 < fc5 (sn p.1) → r51 = wI ((enc (pm (sn p.1) (x % 24)) : Nat) : Int)) := fun x hx => by
    have d1 : wI (x : Int) / 24 = wI ((x / 24 : Nat) : Int) := by
      rw [wI_24, wI_div (by omega) (by omega) (by omega) (by omega)]
      exact wI_c (by omega)
    have d2 : z_rem (wI (x : Int)) 24 = wI ((x % 24 : Nat) : Int) := by
      rw [wI_24, wI_rem (by omega) (by omega) (by omega) (by omega)]
      exact wI_c (by omega)
    rw [d1, d2]
    obtain ⟨a, ha⟩ := row_any (sn p.1) (by omega) (x / 24) (by omega)
    obtain ⟨b, hb⟩ := row_any (sn p.1) (by omega) (x % 24) (by omega)
    refine ⟨a, b, ha, hb, fun h => ?_, fun h => ?_⟩
    · rw [row_at _ (by omega) _ h] at ha
      exact (Option.some.inj ha).symm
    · rw [row_at _ (by omega) _ h] at hb
      exact (Option.some.inj hb).symm
  have hfin : ∃ x : Nat, x < 576 ∧ (if (alS p.1 (fc5 (sn p.1))).1 = 0 then (0 : Int) else (alS p.1 (fc5 (sn p.1))).2) = (x : Nat) ∧ (0 < (alS p.1 (fc5 (sn p.1))).1 → x = (alS p.1 (fc5 (sn p.1))).2.toNat) := by
    rcases hu.2 with ⟨v1, v2⟩ | ⟨v1, a, b, ha, hb, v2⟩
    · exact ⟨0, by omega, by rw [if_pos v1]; rfl, fun h => by omega⟩
    · have ha : a < 24 := ha
      have hb : b < 24 := hb
      exact ⟨24 * a + b, by omega, by rw [if_neg (by omega), v2]; omega, fun _ => by rw [v2]; omega⟩
  obtain ⟨x, hx, hxe, hxf⟩ := hfin
  obtain ⟨r50, r51, f50, f51, g50, g51⟩ := hrow x hx
  have hlim : 0 < (alS p.1 (fc5 (sn p.1))).1 → x / 24 < fc5 (sn p.1) ∧ x % 24 < fc5 (sn p.1) := fun h => by
    have := al_lim (S := p.1) hn4 h
    rw [← hxf h] at this
    obtain ⟨a, b, ha, hb, e⟩ := this
    omega
  refine ⟨s'.1, s'.2.1, ((re_winsOfA r4), (re_winsOfB r4), (re_wholes r4), (re_bestOfA r4), (re_bestOfB r4), (re_rows r4), 1, (re_pairs r4), r50, r51), ?_, g2, rfl, hpr, fun h => ?_⟩
  · unfold K_findRests
    rw [e1, z_bd_s, hc.1.1, z_let_e, hf.1, if_neg (by rw [wI_24, wI_lt (by omega) (by omega) (by omega) (by omega)]; omega), z_let_e, e2, z_bd_s, ← hK]
    refine (show _ = _ from e).trans ?_
    rw [hK]
    refine (z_bd_e e4).trans ?_
    rw [hxe, z_let_e, f50, z_bd_s, f51, z_bd_s]
  · rw [← hxf h]
    exact ⟨g50 (hlim h).1, g51 (hlim h).2⟩
end ZRU

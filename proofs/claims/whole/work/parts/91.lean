/-! ROWS AT REST OF THE REFERENCE; THE CALL -/
def rsN (S : St) (rs : Rs) : Prop := rs_rows rs = wI ((fc5 (sn S) : Nat) : Int) ∧ ∀ i, i < fc5 (sn S) → rs_named rs i = wI ((enc (pm (sn S) i) : Nat) : Int)
def rsL (S : St) (a b : Nat) (rs : Rs) : Prop := rsN S rs ∧ ∀ x y, x < fc5 (sn S) → y < fc5 (sn S) → prd a b x y → rs_ups rs (48 * x + 2 * y) = wJ (u2 S 0 x y) ∧ rs_ups rs (48 * x + 2 * y + 1) = wJ (u2 S 1 x y) ∧ rs_lows rs (24 * x + y) = wJ (l2 S x y)
abbrev Zs : Type := Bx × Mo × Su × Wy × Wa × Od × Pl × Rs
section ZRV
variable {p : Po} {now tr : Sh} {row : MRow} {S : St} {fc : Fc} {gl : Nat → Nat} {k : Nat}
theorem r_names (hS : okS S) (hn4 : sn S ≤ 4) (hr : row 0 = wI (sn S)) (kx : Pl → Rs → Option Zs) : ∀ (j i m : Nat) (x : Int32) (pl : Pl) (rs : Rs), i + j = fc5 (sn S) → j < m → ((i < fc5 (sn S) ∧ x = 1 ∧ plN (sn S) i pl) ∨ (i = fc5 (sn S) ∧ x = 0)) → rs_rows rs = wI (i : Nat) → (∀ t, t < i → rs_named rs t = wI ((enc (pm (sn S) t) : Nat) : Int)) → ∃ pl' rs', M_layRows_L11 FF row kx m x pl rs = kx pl' rs' ∧ rsN S rs' := by
  have hn1 := hS.1
  have h24 := fc5_4 (sn S) (by omega)
  intro j
  induction j with
  | zero =>
    intro i m x pl rs hi hm hx h1 h2
    obtain ⟨m, rfl⟩ : ∃ k, m = k + 1 := ⟨m - 1, by omega⟩
    rcases hx with hx | ⟨hx, hx0⟩
    · omega
    · refine ⟨pl, rs, ?_, by rw [h1, hx], fun t ht => h2 t (by omega)⟩
      rw [M_layRows_L11]
      exact if_pos hx0
  | succ j ih =>
    intro i m x pl rs hi hm hx h1 h2
    obtain ⟨m, rfl⟩ : ∃ k, m = k + 1 := ⟨m - 1, by omega⟩
    rcases hx with ⟨hx, hx1, hpl⟩ | ⟨hx, _⟩
    · obtain ⟨b, pl', enx, hnx⟩ := nx_step hr (by omega) (by omega) hx hpl
      have edg := dg_at hr (by omega) hx hpl
      have hk1 : wI (i : Int) + 1 = wI ((i + 1 : Nat) : Int) := by rw [wI_1, wI_add]; rfl
      obtain ⟨pl2, rs2, e, h3⟩ := ih (i + 1) m b pl' ((rs_ups rs), (rs_lows rs), (upd (rs_named rs) i (wI ((enc (pm (sn S) i) : Nat) : Int))), wI ((i + 1 : Nat) : Int)) (by omega) (by omega) (by
        rcases hnx with h | h
        · exact Or.inl h
        · exact Or.inr ⟨by omega, h.2⟩) rfl (fun t ht => by
          show upd (rs_named rs) i _ t = _
          by_cases hti : t = i
          · rw [hti, upd_s]
          · rw [upd_n hti]; exact h2 t (by omega))
      refine ⟨pl2, rs2, ?_, h3⟩
      rw [M_layRows_L11, if_neg (by rw [hx1]; decide), edg, z_bd_s, h1, z_gd_e (wI_in (by omega) (by omega) (by omega)), hk1, z_let_e, enx, z_bd_s, z_let_e, wI_ix (by omega)]
      exact e
    · omega
theorem r_pair (hS : okS S) (hn4 : sn S ≤ 4) (hm : MR S gl k row) {a b : Nat} (ha : a < fc5 (sn S)) (hb : b < fc5 (sn S)) (kx : Bx → Mo → Su → Wy → Wa → Od → Pl → Rs → Option Zs) (z : Zs) (hz : rsL S a b z.2.2.2.2.2.2.2) (m : Nat) : ∃ z' : Zs, M_layRows_L58 FF row (wI (a : Nat)) kx (m + 1) (wI (b : Nat)) z.1 z.2.1 z.2.2.1 z.2.2.2.1 z.2.2.2.2.1 z.2.2.2.2.2.1 z.2.2.2.2.2.2.1 z.2.2.2.2.2.2.2 = M_layRows_L58 FF row (wI (a : Nat)) kx m (wI ((b + 1 : Nat) : Int)) z'.1 z'.2.1 z'.2.2.1 z'.2.2.2.1 z'.2.2.2.2.1 z'.2.2.2.2.2.1 z'.2.2.2.2.2.2.1 z'.2.2.2.2.2.2.2 ∧ rsL S a (b + 1) z'.2.2.2.2.2.2.2 := by
  have hn1 := hS.1
  have h24 := fc5_4 (sn S) (by omega)
  obtain ⟨bx, mo, su, wy, wa, od, pl, rs⟩ := z
  have hz : rsL S a b rs := hz
  have ea := row_eb (sn S) (by omega) a ha
  have eb := row_eb (sn S) (by omega) b hb
  obtain ⟨b1, m1, e1, hR, hM⟩ := r_beg (F := FF) (by decide) hS hm bx mo
  obtain ⟨pl1, e2, hpl1⟩ := r_readRow (F := FF) (R := enc (pm (sn S) a)) (n := sn S) (row := row) (by decide) (by omega) (by omega) hm.1 pl
  rw [if_pos (row_ok _ (by omega) a ha)] at e2
  obtain ⟨b2, e3, t1, t2, t3, t4⟩ := r_putRow (F := FF) (s := 0) (q := pq (sn S) a) (pl := pl1) (by decide) hS hm (by omega) (fun k hk => ⟨by rw [hpl1 k hk, row_pq _ (by omega) a ha k hk], (row_dg _ (by omega) a ha k hk).2⟩) b1
  obtain ⟨pl2, e4, hpl2⟩ := r_readRow (F := FF) (R := enc (pm (sn S) b)) (n := sn S) (row := row) (by decide) (by omega) (by omega) hm.1 pl1
  rw [if_pos (row_ok _ (by omega) b hb)] at e4
  obtain ⟨b3, e5, v1, v2, v3, v4⟩ := r_putRow (F := FF) (s := 1) (q := pq (sn S) b) (pl := pl2) (by decide) hS hm (by omega) (fun k hk => ⟨by rw [hpl2 k hk, row_pq _ (by omega) b hb k hk], (row_dg _ (by omega) b hb k hk).2⟩) b2
  have hR2 : RS (st2 S a b) row b3 := by
    refine ⟨hR.1, v1.trans (t1.trans hR.2.1), v2.trans (t2.trans hR.2.2.1), hR.2.2.2.1, fun i hi => ?_⟩
    show bx_skill b3 i = wI (if 5 * 1 ≤ i ∧ i < 5 * 1 + sn S then (if 5 * 0 ≤ 5 * 1 + pq (sn S) b (i - 5 * 1) ∧ 5 * 1 + pq (sn S) b (i - 5 * 1) < 5 * 0 + sn S then sk S (5 * 0 + pq (sn S) a (5 * 1 + pq (sn S) b (i - 5 * 1) - 5 * 0)) else sk S (5 * 1 + pq (sn S) b (i - 5 * 1))) else (if 5 * 0 ≤ i ∧ i < 5 * 0 + sn S then sk S (5 * 0 + pq (sn S) a (i - 5 * 0)) else sk S i))
    by_cases h1 : 5 * 1 ≤ i ∧ i < 5 * 1 + sn S
    · rw [if_pos h1, if_neg (by omega), ← v3 (i - 5 * 1) (by omega), show 5 * 1 + (i - 5 * 1) = i by omega]
    · rw [if_neg h1, v4 i (by omega)]
      by_cases h2 : 5 * 0 ≤ i ∧ i < 5 * 0 + sn S
      · rw [if_pos h2, ← t3 (i - 5 * 0) (by omega), show 5 * 0 + (i - 5 * 0) = i by omega]
      · rw [if_neg h2, t4 i (by omega)]
        exact hR.2.2.2.2 i hi
  have hM2 : RM (st2 S a b) (0, 0, 0, sf S) m1 := hM
  have hok := ok2 hS ha hb
  obtain ⟨m4, su4, wy4, wa4, e6, hM4⟩ := r_odds (F := FF) (by decide) hok hR2 hM2 (okM_0 (S := st2 S a b) hok) (by show 0 ≤ 61; omega) (s := 0) (by omega) su wy wa
  obtain ⟨m5, su5, wy5, wa5, e7, hM5⟩ := r_odds (F := FF) (by decide) hok hR2 hM4 (okM_0 (S := st2 S a b) hok) (by show 0 ≤ 61; omega) (s := 1) (by omega) su4 wy4 wa4
  have e3 : M_putRow FF row b1 pl1 0 = some b2 := e3
  have e5 : M_putRow FF row b2 pl2 1 = some b3 := e5
  have e6 : M_layOdds FF row b3 m1 su wy wa 0 = some (m4, su4, wy4, wa4, (wJ (u2 S 0 a b), wJ (l2 S a b))) := e6
  have e7 : M_layOdds FF row b3 m4 su4 wy4 wa4 1 = some (m5, su5, wy5, wa5, (wJ (u2 S 1 a b), wJ (l2 S a b))) := e7
  have hk1 : wI (b : Int) + 1 = wI ((b + 1 : Nat) : Int) := by rw [wI_1, wI_add]; rfl
  have i1 : 48 * wI (a : Int) + 2 * wI (b : Int) = wI ((48 * a + 2 * b : Nat) : Int) := by rw [wI_48, wI_2, wI_mul, wI_mul, wI_add]; rfl
  have i2 : wI ((48 * a + 2 * b : Nat) : Int) + 1 = wI ((48 * a + 2 * b + 1 : Nat) : Int) := by rw [wI_1, wI_add]; rfl
  have i3 : 24 * wI (a : Int) + wI (b : Int) = wI ((24 * a + b : Nat) : Int) := by rw [wI_24, wI_mul, wI_add]; rfl
  refine ⟨(b3, m5, su5, wy5, wa5, (wJ (u2 S 1 a b), wJ (l2 S a b)), pl2, ((vp_updL (vp_updL (rs_ups rs) (48 * a + 2 * b) (wJ (u2 S 0 a b))) (48 * a + 2 * b + 1) (wJ (u2 S 1 a b))), (vp_updL (rs_lows rs) (24 * a + b) (wJ (l2 S a b))), (rs_named rs), (rs_rows rs))), ?_, hz.1, fun x y hx hy h => ?_⟩
  · show M_layRows_L58 FF row (wI (a : Nat)) kx (m + 1) (wI (b : Nat)) bx mo su wy wa od pl rs = _
    rw [M_layRows_L58, hz.1.1, if_neg (by rw [wI_le (by omega) (by omega) (by omega) (by omega)]; omega), e1, z_bd_s, z_gd_e (wI_in (by omega) (by omega) (by omega)), wI_ix (by omega), hz.1.2 a ha, e2, z_bd_s, z_let_e, e3, z_bd_s]
    refine (z_jn_c (1, pl2) (fun K => ?_)).trans ?_
    · rw [z_jn_e, if_neg (by show ¬ (1 : Int32) = 0; decide), z_gd_e (wI_in (by omega) (by omega) (by omega)), wI_ix (by omega), hz.1.2 b hb, e4, z_bd_s, if_neg (by show ¬ (1 : Int32) = 0; decide)]
    · dsimp only
      rw [e5, z_bd_s, e6, z_bd_s, z_let_e, i1, i2, i3, z_gd_e (wI_in (by omega) (by omega) (by omega)), e7, z_bd_s, z_let_e, z_gd_e (wI_in (by omega) (by omega) (by omega)), z_let_e, z_gd_e (wI_in (by omega) (by omega) (by omega)), z_let_e, wI_ix (by omega), wI_ix (by omega), wI_ix (by omega), hk1, ← hz.1.1]
  · show vp_updL (vp_updL (rs_ups rs) (48 * a + 2 * b) _) (48 * a + 2 * b + 1) _ (48 * x + 2 * y) = _ ∧ vp_updL (vp_updL (rs_ups rs) (48 * a + 2 * b) _) (48 * a + 2 * b + 1) _ (48 * x + 2 * y + 1) = _ ∧ vp_updL (rs_lows rs) (24 * a + b) _ (24 * x + y) = _
    by_cases he : x = a ∧ y = b
    · rw [he.1, he.2, updL_n (by omega), updL_s, updL_s, updL_s]
      exact ⟨rfl, rfl, rfl⟩
    · rw [updL_n (by omega), updL_n (by omega), updL_n (by omega), updL_n (by omega), updL_n (by omega)]
      exact hz.2 x y hx hy (by unfold prd at *; omega)
theorem r_layRows (hS : okS S) (hn4 : sn S ≤ 4) (hm : MR S gl k row) (bx : Bx) (mo : Mo) (su : Su) (wy : Wy) (wa : Wa) (od : Od) (pl : Pl) (rs : Rs) : ∃ z : Zs, M_layRows FF row bx mo su wy wa od pl rs = some z ∧ rsL S (fc5 (sn S)) 0 z.2.2.2.2.2.2.2 := by
  have hn1 := hS.1
  have h24 := fc5_4 (sn S) (by omega)
  have hf := fc5_k (sn S) (by omega)
  obtain ⟨pl1, e1, hpl1⟩ := fst_row (F := FF) (n := sn S) (by decide) (by omega) pl
  obtain ⟨pl2, rs2, e2, hN⟩ := r_names hS hn4 hm.1 (fun (pl9 : Pl) (rs10 : Rs) => M_layRows_L48 FF row FF 0 bx mo su wy wa od pl9 rs10) (fc5 (sn S)) 0 FF 1 pl1 ((rs_ups rs), (rs_lows rs), (rs_named rs), 0) (by omega) (by show _ < 2000; omega) (Or.inl ⟨hf.2.1, rfl, hpl1⟩) rfl (fun t h => absurd h (Nat.not_lt_zero t))
  have inner : ∀ (a : Nat) (kx : Bx → Mo → Su → Wy → Wa → Od → Pl → Rs → Option Zs) (z : Zs), a < fc5 (sn S) → rsL S a 0 z.2.2.2.2.2.2.2 → ∃ z' : Zs, M_layRows_L58 FF row (wI (a : Nat)) kx FF 0 z.1 z.2.1 z.2.2.1 z.2.2.2.1 z.2.2.2.2.1 z.2.2.2.2.2.1 z.2.2.2.2.2.2.1 z.2.2.2.2.2.2.2 = kx z'.1 z'.2.1 z'.2.2.1 z'.2.2.2.1 z'.2.2.2.2.1 z'.2.2.2.2.2.1 z'.2.2.2.2.2.2.1 z'.2.2.2.2.2.2.2 ∧ rsL S (a + 1) 0 z'.2.2.2.2.2.2.2 := fun a kx z ha hz => by
    obtain ⟨s', e, h⟩ := lp0 (fun n x (s : Zs) => M_layRows_L58 FF row (wI (a : Nat)) kx n x s.1 s.2.1 s.2.2.1 s.2.2.2.1 s.2.2.2.2.1 s.2.2.2.2.2.1 s.2.2.2.2.2.2.1 s.2.2.2.2.2.2.2) (fun s => kx s.1 s.2.1 s.2.2.1 s.2.2.2.1 s.2.2.2.2.1 s.2.2.2.2.2.1 s.2.2.2.2.2.2.1 s.2.2.2.2.2.2.2) (fc5 (sn S)) (fun b s => rsL S a b s.2.2.2.2.2.2.2)
      (fun n b s hb hp => r_pair hS hn4 hm ha hb kx s hp n)
      (fun n s hp => by
        simp only [M_layRows_L58]
        rw [hp.1.1]
        exact if_pos (by rw [wI_le (by omega) (by omega) (by omega) (by omega)]; omega)) (n := FF) (s := z) (by show _ < 2000; omega) hz
    exact ⟨s', e, h.1, fun x y hx hy hpr => h.2 x y hx hy (by unfold prd at *; omega)⟩
  obtain ⟨s', e, h⟩ := lp0 (fun n x (s : Zs) => M_layRows_L48 FF row n x s.1 s.2.1 s.2.2.1 s.2.2.2.1 s.2.2.2.2.1 s.2.2.2.2.2.1 s.2.2.2.2.2.2.1 s.2.2.2.2.2.2.2) (fun s => some s) (fc5 (sn S)) (fun a s => rsL S a 0 s.2.2.2.2.2.2.2)
    (fun n a s ha hp => by
      obtain ⟨z', e, h⟩ := inner a (fun (bx43 : Bx) (mo44 : Mo) (su45 : Su) (wy46 : Wy) (wa47 : Wa) (od48 : Od) (pl49 : Pl) (rs50 : Rs) => z_let (wI (a : Int) + 1) (fun x78 : Int32 => M_layRows_L48 FF row n x78 bx43 mo44 su45 wy46 wa47 od48 pl49 rs50)) s ha hp
      refine ⟨z', ?_, h⟩
      simp only [M_layRows_L48]
      rw [hp.1.1, if_neg (by rw [wI_le (by omega) (by omega) (by omega) (by omega)]; omega)]
      refine e.trans ?_
      show z_let _ _ = _
      rw [z_let_e, wI_1, wI_add]
      rfl)
    (fun n s hp => by
      simp only [M_layRows_L48]
      rw [hp.1.1]
      exact if_pos (by rw [wI_le (by omega) (by omega) (by omega) (by omega)]; omega)) (n := FF) (s := (bx, mo, su, wy, wa, od, pl2, rs2)) (by show _ < 2000; omega) ⟨hN, fun x y _ _ hpr => by unfold prd at hpr; omega⟩
  refine ⟨s', ?_, h⟩
  unfold M_layRows
  rw [e1, z_bd_s]
  exact (show _ = _ from e2).trans e
/-! is it at rest -/
def fin2 (S : St) (a b o : Nat) : Prop := ¬ lt2 (u2 S 0 a b) (l2 S a b) (u2 S 0 o b) (l2 S o b) ∧ ¬ lt2 (u2 S 1 a b) (l2 S a b) (u2 S 1 a o) (l2 S a o)
theorem r_isRest (hS : okS S) (hn4 : sn S ≤ 4) {rs : Rs} (hz : rsL S (fc5 (sn S)) 0 rs) {a b : Nat} (ha : a < fc5 (sn S)) (hb : b < fc5 (sn S)) : M_isRest FF rs (wI (a : Nat)) (wI (b : Nat)) = some (wI (o01 (rst S a b))) := by
  have h24 := fc5_4 (sn S) (by omega)
  have hall : ∀ x y, x < fc5 (sn S) → prd (fc5 (sn S)) 0 x y := fun x y h => Or.inl h
  have key : ∀ (j o m : Nat), o + j = fc5 (sn S) → j + 1 < m → (∀ t, t < o → fin2 S a b t) → M_isRest_L5 FF rs (wI (a : Nat)) (wI (b : Nat)) m 1 (wI (o : Nat)) = some (wI (o01 (rst S a b))) := by
    intro j
    induction j with
    | zero =>
      intro o m ho hm hf
      obtain ⟨m, rfl⟩ : ∃ k, m = k + 1 := ⟨m - 1, by omega⟩
      rw [M_isRest_L5, hz.1.1, if_pos (by rw [wI_le (by omega) (by omega) (by omega) (by omega)]; omega), z_gd_e (by decide), o01_t (p := rst S a b) ⟨fun t ht => (hf t (by omega)).1, fun t ht => (hf t (by omega)).2⟩]
      rfl
    | succ j ih =>
      intro o m ho hm hf
      obtain ⟨m, rfl⟩ : ∃ k, m = k + 1 + 1 := ⟨m - 2, by omega⟩
      have hol : o < fc5 (sn S) := by omega
      have hk1 : wI (o : Int) + 1 = wI ((o + 1 : Nat) : Int) := by rw [wI_1, wI_add]; rfl
      have i1 : 48 * wI (o : Int) + 2 * wI (b : Int) = wI ((48 * o + 2 * b : Nat) : Int) := by rw [wI_48, wI_2, wI_mul, wI_mul, wI_add]; rfl
      have i2 : 48 * wI (a : Int) + 2 * wI (b : Int) = wI ((48 * a + 2 * b : Nat) : Int) := by rw [wI_48, wI_2, wI_mul, wI_mul, wI_add]; rfl
      have i3 : 48 * wI (a : Int) + 2 * wI (o : Int) = wI ((48 * a + 2 * o : Nat) : Int) := by rw [wI_48, wI_2, wI_mul, wI_mul, wI_add]; rfl
      have i4 : wI ((48 * a + 2 * o : Nat) : Int) + 1 = wI ((48 * a + 2 * o + 1 : Nat) : Int) := by rw [wI_1, wI_add]; rfl
      have i5 : wI ((48 * a + 2 * b : Nat) : Int) + 1 = wI ((48 * a + 2 * b + 1 : Nat) : Int) := by rw [wI_1, wI_add]; rfl
      have i6 : 24 * wI (o : Int) + wI (b : Int) = wI ((24 * o + b : Nat) : Int) := by rw [wI_24, wI_mul, wI_add]; rfl
      have i7 : 24 * wI (a : Int) + wI (b : Int) = wI ((24 * a + b : Nat) : Int) := by rw [wI_24, wI_mul, wI_add]; rfl
      have i8 : 24 * wI (a : Int) + wI (o : Int) = wI ((24 * a + o : Nat) : Int) := by rw [wI_24, wI_mul, wI_add]; rfl
      have lo := hz.2 o b hol hb (hall o b hol)
      have la := hz.2 a b ha hb (hall a b ha)
      have lb := hz.2 a o ha hol (hall a o ha)
      have uo := u2_b hS hol hb (s := 0) (by omega)
      have u0 := u2_b hS ha hb (s := 0) (by omega)
      have u1 := u2_b hS ha hb (s := 1) (by omega)
      have ub := u2_b hS ha hol (s := 1) (by omega)
      have g1 := (f_against (F := FF) (by decide) uo.1 (by omega) uo.2.2.1 (by omega) u0.1 (by omega) u0.2.2.1 (by omega)).2
      have g2 := (f_against (F := FF) (by decide) ub.1 (by omega) ub.2.2.1 (by omega) u1.1 (by omega) u1.2.2.1 (by omega)).2
      have c1 := cm4_gt uo.1 uo.2.2.1 u0.1 u0.2.2.1
      have c2 := cm4_gt ub.1 ub.2.2.1 u1.1 u1.2.2.1
      have d1 : ∀ x : Int32, (0 < x) ↔ ¬ x ≤ 0 := fun x => by rw [Int32.lt_iff_toInt_lt, Int32.le_iff_toInt_le]; omega
      have hzero : M_isRest_L5 FF rs (wI (a : Nat)) (wI (b : Nat)) (m + 1) 0 (wI ((o + 1 : Nat) : Int)) = some (wI 0) := by
        rw [M_isRest_L5]
        split
        · rw [z_gd_e (by decide)]; rfl
        · rw [if_pos rfl, z_gd_e (by decide)]; rfl
      have hl1 : M_isRest_L5 FF rs (wI (a : Nat)) (wI (b : Nat)) (m + 1 + 1) 1 (wI (o : Nat)) = z_bd (M_against FF (wJ (u2 S 0 o b)) (wJ (l2 S o b)) (wJ (u2 S 0 a b)) (wJ (l2 S a b))) (fun r14 : Int32 => z_let (if 0 < r14 then 0 else 1) (fun v15 : Int32 => if v15 = 0 then (M_isRest_L5 FF rs (wI (a : Nat)) (wI (b : Nat)) (m + 1) 0 (wI ((o + 1 : Nat) : Int))) else (z_bd (M_against FF (wJ (u2 S 1 a o)) (wJ (l2 S a o)) (wJ (u2 S 1 a b)) (wJ (l2 S a b))) (fun r25 : Int32 => if 0 < r25 then (M_isRest_L5 FF rs (wI (a : Nat)) (wI (b : Nat)) (m + 1) 0 (wI ((o + 1 : Nat) : Int))) else (M_isRest_L5 FF rs (wI (a : Nat)) (wI (b : Nat)) (m + 1) 1 (wI ((o + 1 : Nat) : Int))))))) := by
        rw [M_isRest_L5, hz.1.1, if_neg (by rw [wI_le (by omega) (by omega) (by omega) (by omega)]; omega), if_neg (by decide)]
        simp only [i1, i2, i3, i4, i5, i6, i7, i8, hk1, z_let_e]
        rw [wI_ix (by omega), wI_ix (by omega), wI_ix (by omega), wI_ix (by omega), wI_ix (by omega), wI_ix (by omega), wI_ix (by omega), lo.1, lo.2.2, la.1, la.2.1, la.2.2, lb.2.1, lb.2.2]
        rw [z_gd_e (wI_in (by omega) (by omega) (by omega)), z_gd_e (wI_in (by omega) (by omega) (by omega)), z_gd_e (wI_in (by omega) (by omega) (by omega)), z_gd_e (wI_in (by omega) (by omega) (by omega)), z_gd_e (wI_in (by omega) (by omega) (by omega)), z_gd_e (wI_in (by omega) (by omega) (by omega)), z_gd_e (wI_in (by omega) (by omega) (by omega)), z_gd_e (wI_in (by omega) (by omega) (by omega))]
      rw [hl1, g1, z_bd_s, z_let_e]
      by_cases q1 : wI (cm4 (u2 S 0 o b).toNat (l2 S o b).toNat (u2 S 0 a b).toNat (l2 S a b).toNat) ≤ 0
      · rw [if_neg (show ¬ 0 < wI (cm4 (u2 S 0 o b).toNat (l2 S o b).toNat (u2 S 0 a b).toNat (l2 S a b).toNat) from fun h => (d1 _).mp h q1), if_neg (by decide), g2, z_bd_s]
        by_cases q2 : wI (cm4 (u2 S 1 a o).toNat (l2 S a o).toNat (u2 S 1 a b).toNat (l2 S a b).toNat) ≤ 0
        · rw [if_neg (fun h => (d1 _).mp h q2)]
          refine ih (o + 1) (m + 1) (by omega) (by omega) (fun t ht => ?_)
          by_cases hto : t = o
          · rw [hto]; exact ⟨c1.mp q1, c2.mp q2⟩
          · exact hf t (by omega)
        · rw [if_pos ((d1 _).mpr q2), hzero, o01_f (p := rst S a b) (fun h => q2 (c2.mpr (h.2 o hol)))]
      · rw [if_pos (show 0 < wI (cm4 (u2 S 0 o b).toNat (l2 S o b).toNat (u2 S 0 a b).toNat (l2 S a b).toNat) from (d1 _).mpr q1), if_pos rfl, hzero, o01_f (p := rst S a b) (fun h => q1 (c1.mpr (h.1 o hol)))]
  exact key (fc5 (sn S)) 0 FF (by omega) (by show _ < 2000; omega) (fun t h => absurd h (Nat.not_lt_zero t))
theorem r_count (hS : okS S) (hn4 : sn S ≤ 4) {z : Zs} (hz : rsL S (fc5 (sn S)) 0 z.2.2.2.2.2.2.2) (kx : Int32 → Int32 → Option (Int32 × Th × Zs)) : M_rests_L48 FF z kx FF 0 (-1) 0 = kx (wI (((alS S (fc5 (sn S))).1 : Nat) : Int)) (wI (alS S (fc5 (sn S))).2) := by
  have h24 := fc5_4 (sn S) (by omega)
  have inner : ∀ (a : Nat) (kx : Int32 → Int32 → Option (Int32 × Th × Zs)), a < fc5 (sn S) → M_rests_L60 FF z (wI (a : Nat)) kx FF (wI (((alS S a).1 : Nat) : Int)) (wI (alS S a).2) 0 = kx (wI (((alS S (a + 1)).1 : Nat) : Int)) (wI (alS S (a + 1)).2) := fun a kx ha => by
    obtain ⟨s', e, h1, h2⟩ := lp0 (fun n x (s : Int32 × Int32) => M_rests_L60 FF z (wI (a : Nat)) kx n s.1 s.2 x) (fun s => kx s.1 s.2) (fc5 (sn S)) (fun b s => s.1 = wI (((rwS S a b (alS S a)).1 : Nat) : Int) ∧ s.2 = wI (rwS S a b (alS S a)).2)
      (fun n b s hb hp => by
        obtain ⟨q1, q2⟩ := hp
        have hu := okU_rw (S := S) (a := a) (by omega) b (24 * a) (alS S a) (by omega) (okU_al hn4 a (by omega))
        obtain ⟨u, hue⟩ : ∃ u, u = rwS S a b (alS S a) := ⟨_, rfl⟩
        rw [← hue] at q1 q2 hu
        have hnx : rwS S a (b + 1) (alS S a) = stp S a b u := by rw [hue]; rfl
        have hk1 : wI (b : Int) + 1 = wI ((b + 1 : Nat) : Int) := by rw [wI_1, wI_add]; rfl
        have i7 : 24 * wI (a : Int) + wI (b : Int) = wI (24 * (a : Int) + b) := by rw [wI_24, wI_mul, wI_add]
        refine ⟨(wI (((stp S a b u).1 : Nat) : Int), wI (stp S a b u).2), ?_, by rw [hnx], by rw [hnx]⟩
        simp only [M_rests_L60]
        rw [hz.1.1, if_neg (by rw [wI_le (by omega) (by omega) (by omega) (by omega)]; omega), r_isRest hS hn4 hz ha hb, z_bd_s, q1, q2, i7, hk1]
        simp only [z_let_e]
        by_cases hr : rst S a b
        · rw [o01_t hr, if_neg (show ¬ wI 1 = 0 by decide), if_neg (show ¬ wI 1 = 0 by decide), stp_t hr, wI_1, wI_add, ← wI_1]
          show M_rests_L60 FF z (wI (a : Nat)) kx n (wI ((u.1 : Int) + 1)) (if wI u.2 = -1 then wI (24 * (a : Int) + b) else wI u.2) (wI ((b + 1 : Nat) : Int)) = M_rests_L60 FF z (wI (a : Nat)) kx n (wI ((u.1 + 1 : Nat) : Int)) (wI (if u.1 = 0 then 24 * (a : Int) + b else u.2)) (wI ((b + 1 : Nat) : Int))
          have e2 : (if wI u.2 = -1 then wI (24 * (a : Int) + b) else wI u.2) = wI (if u.1 = 0 then 24 * (a : Int) + b else u.2) := by
            rcases hu.2 with ⟨v1, v2⟩ | ⟨v1, x, y, hx, hy, v2⟩
            · rw [if_pos v1, v2, if_pos (by decide)]
            · have hx : x < 24 := hx
              have hy : y < 24 := hy
              rw [if_neg (show ¬ u.1 = 0 by omega), v2, if_neg (by rw [wI_m1, wI_eq (by omega) (by omega) (by omega) (by omega)]; omega)]
          rw [e2]
          rfl
        · rw [o01_f hr, if_pos (show wI 0 = 0 from rfl), if_pos (show wI 0 = 0 from rfl), stp_f hr, wI_0, wI_add]
          rw [show ((u.1 : Nat) : Int) + 0 = (u.1 : Nat) by omega])
      (fun n s _ => by
        simp only [M_rests_L60]
        rw [hz.1.1]
        exact if_pos (by rw [wI_le (by omega) (by omega) (by omega) (by omega)]; omega)) (n := FF) (s := (wI (((alS S a).1 : Nat) : Int), wI (alS S a).2)) (by show _ < 2000; omega) ⟨rfl, rfl⟩
    refine (show _ = _ from e).trans ?_
    show kx s'.1 s'.2 = _
    rw [h1, h2]
    rfl
  obtain ⟨s', e, h1, h2⟩ := lp0 (fun n x (s : Int32 × Int32) => M_rests_L48 FF z kx n s.1 s.2 x) (fun s => kx s.1 s.2) (fc5 (sn S)) (fun a s => s.1 = wI (((alS S a).1 : Nat) : Int) ∧ s.2 = wI (alS S a).2)
    (fun n a s ha hp => by
      refine ⟨(wI (((alS S (a + 1)).1 : Nat) : Int), wI (alS S (a + 1)).2), ?_, rfl, rfl⟩
      simp only [M_rests_L48]
      rw [hz.1.1, if_neg (by rw [wI_le (by omega) (by omega) (by omega) (by omega)]; omega), hp.1, hp.2]
      refine (inner a _ ha).trans ?_
      show z_let _ _ = _
      rw [z_let_e, wI_1, wI_add]
      rfl)
    (fun n s _ => by
      simp only [M_rests_L48]
      rw [hz.1.1]
      exact if_pos (by rw [wI_le (by omega) (by omega) (by omega) (by omega)]; omega)) (n := FF) (s := (0, -1)) (by show _ < 2000; omega) ⟨rfl, rfl⟩
  refine (show _ = _ from e).trans ?_
  show kx s'.1 s'.2 = _
  rw [h1, h2]
def iRest (S : St) (re : Re) : Prop := re_known re = 0 ∨ (¬ re_known re = 0 ∧ re_pairs re = wI (((alS S (fc5 (sn S))).1 : Nat) : Int) ∧ (0 < (alS S (fc5 (sn S))).1 → re_rowOfA re = wI ((enc (pm (sn S) ((alS S (fc5 (sn S))).2.toNat / 24)) : Nat) : Int) ∧ re_rowOfB re = wI ((enc (pm (sn S) ((alS S (fc5 (sn S))).2.toNat % 24)) : Nat) : Int)))
theorem q_rests (hp : okP p ∨ p = p00) (hc : cP p now) (hm : mP p row) (hcl : cln fc) (tr : Sh) (re : Re) (hre : iRest p.1 re) (bx : Bx) (mo : Mo) (su : Su) (wy : Wy) (wa : Wa) (od : Od) (pl : Pl) (rs : Rs) (x : Int32) : ∃ (r : Int32) (tr' : Sh) (fc' : Fc) (re' : Re) (z : Zs), K_rests FF now tr fc re x = some (r, tr', fc', re') ∧ M_rests FF row bx mo su wy wa od pl rs x = some (r, 0, z) ∧ cln fc' ∧ iRest p.1 re' := by
  obtain ⟨b, rfl, b1, b2⟩ := wI_of x
  rcases hp with hp | rfl
  · have hn1 := hp.1.1
    have hn5 := hp.1.2.1
    have hz2 : (M_in (wI b).toInt64 0 2 = 0) ↔ ¬ (0 ≤ b ∧ b ≤ 2) := in_z (lo := 0) (hi := 2) b1 b2 (by omega) (by omega) (by omega) (by omega)
    by_cases q : 0 ≤ b ∧ b ≤ 2
    · have k1 : ¬ wI b < 0 := by rw [wI_0, wI_lt (by omega) (by omega) (by omega) (by omega)]; omega
      have k2 : wI b ≤ 2 := by rw [wI_2, wI_le (by omega) (by omega) (by omega) (by omega)]; omega
      by_cases h5 : sn p.1 = 5
      · refine ⟨-3, tr, fc, re, (bx, mo, su, wy, wa, od, pl, rs), ?_, ?_, hcl, hre⟩
        · unfold K_rests
          rw [if_neg (t_now hp hc).1, if_neg k1, if_pos k2, hc.1.1, if_neg (by rw [wI_5, wI_lt (by omega) (by omega) (by omega) (by omega)]; omega)]
        · unfold M_rests
          rw [if_neg (t_row hp hm), if_neg (fun h => hz2.mp h q), show M_n row = wI (sn p.1) from hm.1, if_pos (by rw [h5]; rfl)]
      · have hn4 : sn p.1 ≤ 4 := by omega
        have h24 := fc5_4 (sn p.1) (by omega)
        have hu := okU_al (S := p.1) hn4 (fc5 (sn p.1)) h24
        obtain ⟨z, ez, hz⟩ := r_layRows hp.1 hn4 hm bx mo su wy wa od pl rs
        have hcnt := r_count hp.1 hn4 hz
        -- the class has it
        obtain ⟨tr', fc', re', eK, cl', hre', hk', hpr, hrw⟩ : ∃ tr' fc' re', (∀ (K : Sh × Fc × Re → Option (Int32 × Sh × Fc × Re)), (if (re_known re) = 0 then (z_bd (K_findRests FF now tr fc re) (fun u16 : Sh × Fc × Re => K (u16.1, u16.2.1, u16.2.2))) else (K (tr, fc, re))) = K (tr', fc', re')) ∧ cln fc' ∧ iRest p.1 re' ∧ ¬ re_known re' = 0 ∧ re_pairs re' = wI (((alS p.1 (fc5 (sn p.1))).1 : Nat) : Int) ∧ (0 < (alS p.1 (fc5 (sn p.1))).1 → re_rowOfA re' = wI ((enc (pm (sn p.1) ((alS p.1 (fc5 (sn p.1))).2.toNat / 24)) : Nat) : Int) ∧ re_rowOfB re' = wI ((enc (pm (sn p.1) ((alS p.1 (fc5 (sn p.1))).2.toNat % 24)) : Nat) : Int)) := by
          rcases hre with hre | ⟨h1, h2, h3⟩
          · obtain ⟨t1, f1, r1, e1, c1, k1, g1, g2⟩ := c_find hp hn4 hc hcl tr re
            have hk : ¬ re_known r1 = 0 := by rw [k1]; decide
            exact ⟨t1, f1, r1, fun K => by rw [if_pos hre, e1, z_bd_s], c1, Or.inr ⟨hk, g1, g2⟩, hk, g1, g2⟩
          · exact ⟨tr, fc, re, fun K => by rw [if_neg h1], hcl, Or.inr ⟨h1, h2, h3⟩, h1, h2, h3⟩
        have hK0 : K_rests FF now tr fc re (wI b) = if wI b = 0 then (some ((re_pairs re'), tr', fc', re')) else (if (re_pairs re') = 0 then (some ((-2), tr', fc', re')) else (if wI b = 1 then (some ((re_rowOfA re'), tr', fc', re')) else (some ((re_rowOfB re'), tr', fc', re')))) := by
          unfold K_rests
          rw [if_neg (t_now hp hc).1, if_neg k1, if_pos k2, hc.1.1, if_pos (by rw [wI_5, wI_lt (by omega) (by omega) (by omega) (by omega)]; omega)]
          exact z_jn_c (tr', fc', re') eK
        have hM0 : M_rests FF row bx mo su wy wa od pl rs (wI b) = if wI b = 0 then (some (wI (((alS p.1 (fc5 (sn p.1))).1 : Nat) : Int), 0, z)) else (if wI (alS p.1 (fc5 (sn p.1))).2 = (-1) then (some ((-2), 0, z)) else (if wI b = 1 then (z_gd (z_in (wI (alS p.1 (fc5 (sn p.1))).2 / 24) 24) (some (((rs_named z.2.2.2.2.2.2.2) (wI (alS p.1 (fc5 (sn p.1))).2 / 24).toNatClampNeg), 0, z))) else (z_gd (z_in (z_rem (wI (alS p.1 (fc5 (sn p.1))).2) 24) 24) (some (((rs_named z.2.2.2.2.2.2.2) (z_rem (wI (alS p.1 (fc5 (sn p.1))).2) 24).toNatClampNeg), 0, z))))) := by
          unfold M_rests
          rw [if_neg (t_row hp hm), if_neg (fun h => hz2.mp h q), show M_n row = wI (sn p.1) from hm.1, if_neg (by rw [wI_5, wI_eq (by omega) (by omega) (by omega) (by omega)]; omega), ez, z_bd_s]
          exact hcnt _
        by_cases hb0 : wI b = 0
        · refine ⟨wI (((alS p.1 (fc5 (sn p.1))).1 : Nat) : Int), tr', fc', re', z, ?_, ?_, cl', hre'⟩
          · rw [hK0, if_pos hb0, hpr]
          · rw [hM0, if_pos hb0]
        · rcases hu.2 with ⟨v1, v2⟩ | ⟨v1, a0, b0, ha0, hb0', v2⟩
          · refine ⟨-2, tr', fc', re', z, ?_, ?_, cl', hre'⟩
            · rw [hK0, if_neg hb0, hpr, v1, if_pos (by decide)]
            · rw [hM0, if_neg hb0, v2, if_pos (by decide)]
          · obtain ⟨x, y, hx, hy, hxy⟩ := al_lim (S := p.1) hn4 v1
            have hub : (alS p.1 (fc5 (sn p.1))).1 ≤ 600 := by have := hu.1; omega
            obtain ⟨w1, w2⟩ := hrw v1
            have hfx : (alS p.1 (fc5 (sn p.1))).2 = ((24 * x + y : Nat) : Int) := by omega
            rw [hxy] at w1 w2
            rw [show (24 * x + y) / 24 = x by omega] at w1
            rw [show (24 * x + y) % 24 = y by omega] at w2
            have d1 : wI (((24 * x + y : Nat) : Int)) / 24 = wI (x : Nat) := by
              rw [wI_24, wI_div (by omega) (by omega) (by omega) (by omega)]
              exact wI_c (by omega)
            have d2 : z_rem (wI (((24 * x + y : Nat) : Int))) 24 = wI (y : Nat) := by
              rw [wI_24, wI_rem (by omega) (by omega) (by omega) (by omega)]
              exact wI_c (by omega)
            have hp0 : ¬ re_pairs re' = 0 := by rw [hpr, wI_0, wI_eq (by omega) (by omega) (by omega) (by omega)]; omega
            have hf1 : ¬ wI (((24 * x + y : Nat) : Int)) = -1 := by rw [wI_m1, wI_eq (by omega) (by omega) (by omega) (by omega)]; omega
            by_cases hb1 : wI b = 1
            · refine ⟨wI ((enc (pm (sn p.1) x) : Nat) : Int), tr', fc', re', z, ?_, ?_, cl', hre'⟩
              · rw [hK0, if_neg hb0, if_neg hp0, if_pos hb1, w1]
              · rw [hM0, if_neg hb0, hfx, if_neg hf1, if_pos hb1, d1, z_gd_e (wI_in (by omega) (by omega) (by omega)), wI_ix (by omega), hz.1.2 x hx]
            · refine ⟨wI ((enc (pm (sn p.1) y) : Nat) : Int), tr', fc', re', z, ?_, ?_, cl', hre'⟩
              · rw [hK0, if_neg hb0, if_neg hp0, if_neg hb1, w2]
              · rw [hM0, if_neg hb0, hfx, if_neg hf1, if_neg hb1, d2, z_gd_e (wI_in (by omega) (by omega) (by omega)), wI_ix (by omega), hz.1.2 y hy]
    · refine ⟨-1, tr, fc, re, (bx, mo, su, wy, wa, od, pl, rs), ?_, ?_, hcl, hre⟩
      · unfold K_rests
        rw [if_neg (t_now hp hc).1]
        by_cases h : b < 0
        · rw [if_pos (by rw [wI_0, wI_lt (by omega) (by omega) (by omega) (by omega)]; omega)]
        · rw [if_neg (by rw [wI_0, wI_lt (by omega) (by omega) (by omega) (by omega)]; omega), if_neg (by rw [wI_2, wI_le (by omega) (by omega) (by omega) (by omega)]; omega)]
      · unfold M_rests
        rw [if_neg (t_row hp hm)]
        exact if_pos (hz2.mpr q)
  · refine ⟨-1, tr, fc, re, (bx, mo, su, wy, wa, od, pl, rs), ?_, ?_, hcl, hre⟩
    · unfold K_rests
      rw [if_pos (u_now hc)]
    · unfold M_rests
      rw [if_pos (u_row hm)]
end ZRV

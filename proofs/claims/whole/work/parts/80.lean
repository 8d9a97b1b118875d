/-! SUDDEN ROUNDS -/
def qA (S : St) (r : Nat) : Int := chn S (sf S) r 0 * (6 - chn S (1 - sf S) r (-1))
def qB (S : St) (r : Nat) : Int := (6 - chn S (sf S) r 0) * chn S (1 - sf S) r 0
def qN (S : St) (r : Nat) : Int := 36 - qA S r - qB S r
def qS (S : St) (s r : Nat) : Int := if s = sf S then qA S r else qB S r
def LV (S : St) (fr : Nat) : Nat → Int
  | 0 => 1
  | i + 1 => LV S fr i * qN S ((fr + i) % sn S)
def SU (S : St) (s fr : Nat) : Nat → Int
  | 0 => 0
  | i + 1 => 36 * SU S s fr i + LV S fr i * qS S s ((fr + i) % sn S)
def lwS (S : St) : Int := if (36 : Int) ^ sn S = LV S 0 (sn S) then 1 else 36 ^ sn S - LV S 0 (sn S)
section ZSD
variable {S : St} {sh : Sh} {fc : Fc} {row : MRow} {bx : Bx} {F : Nat}
theorem qN_e (S : St) (r : Nat) : qN S r = chn S (sf S) r 0 * chn S (1 - sf S) r (-1) + (6 - chn S (sf S) r 0) * (6 - chn S (1 - sf S) r 0) := by
  unfold qN qA qB
  simp only [Int.mul_sub, Int.sub_mul]
  omega
theorem q_b (S : St) (r : Nat) : 0 ≤ qA S r ∧ 0 ≤ qB S r ∧ 0 ≤ qN S r ∧ qA S r + qB S r + qN S r = 36 := by
  have h1 := chn_b S (sf S) r 0
  have h2 := chn_b S (1 - sf S) r (-1)
  have h3 := chn_b S (1 - sf S) r 0
  refine ⟨Int.mul_nonneg h1.1 (by omega), Int.mul_nonneg (by omega) h3.1, ?_, by unfold qN; omega⟩
  rw [qN_e]
  exact Int.add_nonneg (Int.mul_nonneg h1.1 h2.1) (Int.mul_nonneg (by omega) (by omega))
theorem q36 (S : St) (r : Nat) : qA S r ≤ 36 ∧ qB S r ≤ 36 ∧ qN S r ≤ 36 := by have := q_b S r; omega
theorem qS_b (S : St) (s r : Nat) : 0 ≤ qS S s r ∧ qS S s r ≤ 36 := by
  have := q_b S r
  unfold qS
  split <;> omega
theorem LV_nn (S : St) (fr : Nat) : ∀ i, 0 ≤ LV S fr i
  | 0 => by show (0 : Int) ≤ 1; decide
  | i + 1 => Int.mul_nonneg (LV_nn S fr i) (q_b S _).2.2.1
theorem SU_nn (S : St) (s fr : Nat) : ∀ i, 0 ≤ SU S s fr i
  | 0 => by show (0 : Int) ≤ 0; decide
  | i + 1 => by
    have h1 := SU_nn S s fr i
    have h2 := Int.mul_nonneg (LV_nn S fr i) (qS_b S s ((fr + i) % sn S)).1
    show 0 ≤ 36 * SU S s fr i + LV S fr i * qS S s ((fr + i) % sn S)
    omega
theorem SU_sum (hS : okS S) (fr : Nat) : ∀ i, SU S 0 fr i + SU S 1 fr i + LV S fr i = 36 ^ i
  | 0 => by rw [Int.pow_zero]; rfl
  | i + 1 => by
    have h1 := SU_sum hS fr i
    have h2 := q_b S ((fr + i) % sn S)
    have hf := hS.2.2.2.1
    have h3 : qS S 0 ((fr + i) % sn S) + qS S 1 ((fr + i) % sn S) + qN S ((fr + i) % sn S) = 36 := by
      unfold qS
      have : sf S = 0 ∨ sf S = 1 := by omega
      rcases this with h | h <;> rw [h] <;> simp <;> omega
    show 36 * SU S 0 fr i + LV S fr i * qS S 0 ((fr + i) % sn S) + (36 * SU S 1 fr i + LV S fr i * qS S 1 ((fr + i) % sn S)) + LV S fr i * qN S ((fr + i) % sn S) = 36 ^ (i + 1)
    rw [Int.pow_succ, ← h1]
    have h4 : LV S fr i * (qS S 0 ((fr + i) % sn S) + qS S 1 ((fr + i) % sn S) + qN S ((fr + i) % sn S)) = LV S fr i * 36 := by rw [h3]
    rw [Int.mul_add, Int.mul_add] at h4
    omega
theorem LV_front (S : St) (fr : Nat) : ∀ i, LV S fr (i + 1) = qN S (fr % sn S) * LV S (fr + 1) i
  | 0 => by
    show 1 * qN S ((fr + 0) % sn S) = qN S (fr % sn S) * 1
    rw [Int.one_mul, Int.mul_one, Nat.add_zero]
  | i + 1 => by
    show LV S fr (i + 1) * qN S ((fr + (i + 1)) % sn S) = qN S (fr % sn S) * (LV S (fr + 1) i * qN S ((fr + 1 + i) % sn S))
    rw [LV_front S fr i, Int.mul_assoc, show fr + (i + 1) = fr + 1 + i by omega]
theorem LV_rot (hS : okS S) : ∀ fr, LV S fr (sn S) = LV S 0 (sn S)
  | 0 => rfl
  | fr + 1 => by
    obtain ⟨i, hi⟩ : ∃ i, sn S = i + 1 := ⟨sn S - 1, by have := hS.1; omega⟩
    rw [← LV_rot hS fr, hi, LV_front S fr i]
    show LV S (fr + 1) i * qN S ((fr + 1 + i) % sn S) = _
    rw [show fr + 1 + i = fr + sn S by omega, Nat.add_mod_right, Int.mul_comm]
theorem p36 : ∀ n : Nat, (6 : Int) ^ (2 * n) = 36 ^ n
  | 0 => rfl
  | n + 1 => by
    rw [show 2 * (n + 1) = 2 * n + 1 + 1 by omega, Int.pow_succ, Int.pow_succ, p36 n, Int.pow_succ]
    omega
theorem p36_b : ∀ n : Nat, n ≤ 5 → 0 < (36 : Int) ^ n ∧ (36 : Int) ^ n ≤ 60466176 := by decide +kernel
theorem lw_b (hS : okS S) : 0 < lwS S ∧ lwS S ≤ 60466176 ∧ (∀ fr, SU S 0 fr (sn S) + SU S 1 fr (sn S) ≤ lwS S) := by
  have h1 := p36_b (sn S) hS.2.1
  have h2 := LV_nn S 0 (sn S)
  have h3 : ∀ fr, SU S 0 fr (sn S) + SU S 1 fr (sn S) = 36 ^ sn S - LV S 0 (sn S) := fun fr => by
    have := SU_sum hS fr (sn S)
    rw [LV_rot hS] at this
    omega
  have h4 := SU_nn S 0 0 (sn S)
  have h5 := SU_nn S 1 0 (sn S)
  have h6 := h3 0
  unfold lwS
  split
  · refine ⟨by omega, by omega, fun fr => by rw [h3]; omega⟩
  · refine ⟨by omega, by omega, fun fr => by rw [h3]; omega⟩
theorem SU_z (hS : okS S) (h : (36 : Int) ^ sn S = LV S 0 (sn S)) {s : Nat} (hs : s ≤ 1) (fr : Nat) : SU S s fr (sn S) = 0 := by
  have h1 := SU_sum hS fr (sn S)
  rw [LV_rot hS] at h1
  have h4 := SU_nn S 0 fr (sn S)
  have h5 := SU_nn S 1 fr (sn S)
  have : s = 0 ∨ s = 1 := by omega
  rcases this with h | h <;> rw [h] <;> omega
/-! of the class -/
theorem c_endless (hF : 20 ≤ F) (hS : okS S) (hC : CS S sh) {fr : Nat} (hfr : fr ≤ sn S) (fc : Fc) : ∃ fc', Fc_goEndless F fc sh (wI fr) = some fc' ∧ fc_ways fc' = fc_ways fc ∧ fc_waysBehind fc' = fc_waysBehind fc ∧ fc_last fc' = fc_last fc ∧ fc_wonByA fc' = fc_wonByA fc ∧ fc_wonByB fc' = fc_wonByB fc ∧ fc_level fc' = fc_level fc ∧ fc_endlessA fc' = wJ (SU S 0 fr (sn S)) ∧ fc_endlessB fc' = wJ (SU S 1 fr (sn S)) ∧ fc_endless fc' = wJ (lwS S) := by
  have hn5 := hS.2.1
  have hn1 := hS.1
  have hf := hS.2.2.2.1
  obtain ⟨K, hK⟩ : ∃ K : Int64 → Int64 → Int64 → Option Fc, K = fun x11 x12 x13 => z_let ((K_sixes (2 * wI (sn S : Int))) - x11) (fun x26 : Int64 => z_jn (fun fc27 : Fc => z_let (if wI (sf S : Int) = 0 then x12 else x13) (fun v30 : Int64 => z_let (if wI (sf S : Int) = 0 then x13 else x12) (fun v34 : Int64 => some ((fc_endWays fc27), (fc_scoreWays fc27), (fc_ways fc27), (fc_waysBehind fc27), (fc_grow fc27), (fc_last fc27), (fc_wonByA fc27), (fc_wonByB fc27), (fc_level fc27), v30, v34, (fc_endless fc27), (fc_winsOfA fc27), (fc_winsOfB fc27), (fc_whole fc27))))) (fun k28 => if 0 < (lg_cmp x26 0) then (k28 ((fc_endWays fc), (fc_scoreWays fc), (fc_ways fc), (fc_waysBehind fc), (fc_grow fc), (fc_last fc), (fc_wonByA fc), (fc_wonByB fc), (fc_level fc), (fc_endlessA fc), (fc_endlessB fc), x26, (fc_winsOfA fc), (fc_winsOfB fc), (fc_whole fc))) else (k28 ((fc_endWays fc), (fc_scoreWays fc), (fc_ways fc), (fc_waysBehind fc), (fc_grow fc), (fc_last fc), (fc_wonByA fc), (fc_wonByB fc), (fc_level fc), (fc_endlessA fc), (fc_endlessB fc), 1, (fc_winsOfA fc), (fc_winsOfB fc), (fc_whole fc))))) := ⟨_, rfl⟩
  obtain ⟨s', e, h1, h2, h3⟩ := lp0 (fun n x (s : Int64 × Int64 × Int64) => Fc_goEndless_L23 sh (wI fr) (wI (sn S)) (wI (sf S)) K n s.1 s.2.1 s.2.2 x) (fun s => K s.1 s.2.1 s.2.2) (sn S) (fun i s => s.1 = wJ (LV S fr i) ∧ s.2.1 = wJ (SU S (sf S) fr i) ∧ s.2.2 = wJ (SU S (1 - sf S) fr i))
    (fun n i s hi hp => by
      obtain ⟨p1, p2, p3⟩ := hp
      obtain ⟨r, hr⟩ : ∃ r, r = (fr + i) % sn S := ⟨_, rfl⟩
      have hr5 : r < 5 := by rw [hr]; exact Nat.lt_of_lt_of_le (Nat.mod_lt _ hn1) hn5
      have hv15 : (if wI (sn S : Int) ≤ (wI (fr : Int) + wI (i : Int)) then ((wI (fr : Int) + wI (i : Int)) - wI (sn S : Int)) else (wI (fr : Int) + wI (i : Int))) = wI (r : Int) := by
        rw [wI_add, wI_sub, hr]
        by_cases h : sn S ≤ fr + i
        · rw [if_pos (by rw [wI_le (by omega) (by omega) (by omega) (by omega)]; omega), Nat.mod_eq_sub_mod h, Nat.mod_eq_of_lt (by omega)]
          exact wI_c (by omega)
        · rw [if_neg (by rw [wI_le (by omega) (by omega) (by omega) (by omega)]; omega), Nat.mod_eq_of_lt (by omega)]
          rfl
      have h1s : 1 - wI (sf S : Int) = wI ((1 - sf S : Nat) : Int) := by rw [wI_1, wI_sub]; exact wI_c (by omega)
      have c1 := c_chanceOf hS hC (s := sf S) (i := r) (d := 0) hf hr5 (by omega) (by omega)
      have c2 := c_chanceOf hS hC (s := 1 - sf S) (i := r) (d := -1) (by omega) hr5 (by omega) (by omega)
      have c3 := c_chanceOf hS hC (s := 1 - sf S) (i := r) (d := 0) (by omega) hr5 (by omega) (by omega)
      have b1 := chn_b S (sf S) r 0
      have b2 := chn_b S (1 - sf S) r (-1)
      have b3 := chn_b S (1 - sf S) r 0
      have bq := q_b S r
      have eN := qN_e S r
      refine ⟨(s.1 * wJ (qN S r), 36 * s.2.1 + s.1 * wJ (qA S r), 36 * s.2.2 + s.1 * wJ (qB S r)), ?_, ?_, ?_, ?_⟩
      · simp only [Fc_goEndless_L23, z_let_e]
        rw [if_neg (by rw [wI_le (by omega) (by omega) (by omega) (by omega)]; omega)]
        simp only [hv15, h1s, show (0 : Int32) = wI 0 from wI_0, wI_m1, c1, c2, c3]
        rw [wI_6, wI_sub, wI_sub, wI_sub, wI_mul, wI_mul, wI_add, ← eN, wI_l (by omega) (by omega), wI_l (by omega) (by omega), wI_l (by omega) (by omega), wI_l (by omega) (by omega), wI_l (by omega) (by omega), Int64.mul_assoc, Int64.mul_assoc, wJ_mul, wJ_mul, wI_1, wI_add]
        rfl
      · show s.1 * wJ (qN S r) = wJ (LV S fr i * qN S ((fr + i) % sn S))
        rw [p1, wJ_mul, ← hr]
      · show 36 * s.2.1 + s.1 * wJ (qA S r) = wJ (36 * SU S (sf S) fr i + LV S fr i * qS S (sf S) ((fr + i) % sn S))
        rw [p1, p2, wJ_36, wJ_mul, wJ_mul, wJ_add, ← hr, show qS S (sf S) r = qA S r from if_pos rfl]
      · show 36 * s.2.2 + s.1 * wJ (qB S r) = wJ (36 * SU S (1 - sf S) fr i + LV S fr i * qS S (1 - sf S) ((fr + i) % sn S))
        rw [p1, p3, wJ_36, wJ_mul, wJ_mul, wJ_add, ← hr, show qS S (1 - sf S) r = qB S r from if_neg (by omega)])
    (fun n s _ => by
      simp only [Fc_goEndless_L23]
      exact if_pos (by rw [wI_le (by omega) (by omega) (by omega) (by omega)]; omega)) (n := F) (s := (1, 0, 0)) (by omega) ⟨rfl, rfl, rfl⟩
  have hp := p36_b (sn S) hn5
  have hlv := LV_nn S 0 (sn S)
  have hs0 := SU_sum hS 0 (sn S)
  have hs1 := SU_nn S 0 0 (sn S)
  have hs2 := SU_nn S 1 0 (sn S)
  rw [LV_rot hS] at h1
  have e26 : K_sixes (2 * wI (sn S : Int)) - s'.1 = wJ (36 ^ sn S - LV S 0 (sn S)) := by
    rw [wI_2, wI_mul, show (2 : Int) * (sn S : Int) = ((2 * sn S : Nat) : Int) by omega, k_sixes _ (by omega), h1, wJ_sub, p36]
  have eA : (if wI (sf S : Int) = 0 then s'.2.1 else s'.2.2) = wJ (SU S 0 fr (sn S)) := by
    rw [h2, h3]
    have : sf S = 0 ∨ sf S = 1 := by omega
    rcases this with h | h
    · rw [h, if_pos (by decide)]
    · rw [h, if_neg (by decide)]
  have eB : (if wI (sf S : Int) = 0 then s'.2.2 else s'.2.1) = wJ (SU S 1 fr (sn S)) := by
    rw [h2, h3]
    have : sf S = 0 ∨ sf S = 1 := by omega
    rcases this with h | h
    · rw [h, if_pos (by decide)]
    · rw [h, if_neg (by decide)]
  refine ⟨((fc_endWays fc), (fc_scoreWays fc), (fc_ways fc), (fc_waysBehind fc), (fc_grow fc), (fc_last fc), (fc_wonByA fc), (fc_wonByB fc), (fc_level fc), wJ (SU S 0 fr (sn S)), wJ (SU S 1 fr (sn S)), wJ (lwS S), (fc_winsOfA fc), (fc_winsOfB fc), (fc_whole fc)), ?_, rfl, rfl, rfl, rfl, rfl, rfl, rfl, rfl, rfl⟩
  unfold Fc_goEndless
  rw [hC.1, hC.2.2.1, z_let_e, z_let_e, ← hK]
  refine (show _ = _ from e).trans ?_
  rw [hK]
  show z_let _ _ = _
  rw [z_let_e, e26]
  by_cases h : (36 : Int) ^ sn S = LV S 0 (sn S)
  · rw [show lwS S = 1 from if_pos h]
    refine (z_jn_e _ _).trans ?_
    rw [if_neg (by rw [lg_cmp_gt, wJ_0, wJ_lt (by omega) (by omega) (by omega) (by omega)]; omega)]
    show z_let _ _ = _
    rw [z_let_e, z_let_e, eA, eB]
    rfl
  · rw [show lwS S = 36 ^ sn S - LV S 0 (sn S) from if_neg h]
    refine (z_jn_e _ _).trans ?_
    rw [if_pos (by rw [lg_cmp_gt, wJ_0, wJ_lt (by omega) (by omega) (by omega) (by omega)]; omega)]
    show z_let _ _ = _
    rw [z_let_e, z_let_e, eA, eB]
/-! of the reference -/
theorem r_rw (hS : okS S) (hR : RS S row bx) {r : Nat} (hr : r < 5) : M_roundWays row bx (wI r) (-1) = some (wI (qN S r)) ∧ ∀ s : Nat, s ≤ 1 → M_roundWays row bx (wI r) (wI s) = some (wI (qS S s r)) := by
  have hf := hS.2.2.2.1
  have h1s : 1 - wI (sf S : Int) = wI ((1 - sf S : Nat) : Int) := by rw [wI_1, wI_sub]; exact wI_c (by omega)
  have c1 := r_chanceOf hS hR (s := sf S) (i := r) (d := 0) hf hr (by omega) (by omega)
  have c2 := r_chanceOf hS hR (s := 1 - sf S) (i := r) (d := -1) (by omega) hr (by omega) (by omega)
  have c3 := r_chanceOf hS hR (s := 1 - sf S) (i := r) (d := 0) (by omega) hr (by omega) (by omega)
  have hx : ∀ x : Int32, M_roundWays row bx (wI r) x = if x = (-1) then some (wI (qN S r)) else (if x = wI (sf S) then some (wI (qA S r)) else some (wI (qB S r))) := fun x => by
    unfold M_roundWays
    rw [hR.2.2.1, h1s, wI_0, wI_m1, c1, z_bd_s, c2, z_bd_s, c3, z_bd_s, z_let_e, z_let_e, wI_6, wI_36, wI_sub, wI_sub, wI_mul, wI_mul, wI_sub, wI_sub]
    rfl
  refine ⟨by rw [hx, if_pos rfl], fun s hs => ?_⟩
  rw [hx, if_neg (by rw [wI_m1, wI_eq (by omega) (by omega) (by omega) (by omega)]; omega)]
  unfold qS
  by_cases h : s = sf S
  · rw [if_pos h, if_pos (by rw [h])]
  · rw [if_neg h, if_neg (by rw [wI_eq (by omega) (by omega) (by omega) (by omega)]; omega)]
theorem p36_d : ∀ j : Nat, j < 5 → wJ (36 ^ (j + 1)) / 36 = wJ (36 ^ j) := by decide +kernel
theorem r_sud (hF : 20 ≤ F) (hS : okS S) (hR : RS S row bx) (su : Su) : ∃ su', M_laySudden F row bx su = some su' ∧ su_lower su' = wJ (lwS S) ∧ ∀ s fr : Nat, s ≤ 1 → fr < sn S → su_sudden su' (5 * s + fr) = wJ (SU S s fr (sn S)) := by
  have hn5 := hS.2.1
  have hn1 := hS.1
  obtain ⟨K, hK⟩ : ∃ K : Int64 → Int64 → Option Su, K = fun x9 x10 => z_let (if (lg_cmp x9 x10) = 0 then 1 else (x9 - x10)) (fun v16 : Int64 => M_laySudden_L66 F row bx (wI (sn S)) x9 x10 F 0 (v16, (su_sudden su))) := ⟨_, rfl⟩
  obtain ⟨s1, e1, h1, h2⟩ := lp0 (fun n x (s : Int64 × Int64) => M_laySudden_L13 row bx (wI (sn S)) K n s.1 s.2 x) (fun s => K s.1 s.2) (sn S) (fun i s => s.1 = wJ (36 ^ i) ∧ s.2 = wJ (LV S 0 i))
    (fun n i s hi hp => by
      refine ⟨(s.1 * 36, s.2 * wJ (qN S i)), ?_, ?_, ?_⟩
      · have bq := q36 S i
        have bq2 := q_b S i
        simp only [M_laySudden_L13, z_let_e]
        rw [if_neg (by rw [wI_le (by omega) (by omega) (by omega) (by omega)]; omega), (r_rw hS hR (show i < 5 by omega)).1, z_bd_s, wI_l (by omega) (by omega), wI_1, wI_add]
        rfl
      · show s.1 * 36 = wJ (36 ^ (i + 1))
        rw [hp.1, wJ_36, wJ_mul, ← Int.pow_succ]
      · show s.2 * wJ (qN S i) = wJ (LV S 0 i * qN S ((0 + i) % sn S))
        rw [hp.2, wJ_mul, Nat.zero_add, Nat.mod_eq_of_lt hi])
    (fun n s _ => by
      simp only [M_laySudden_L13]
      exact if_pos (by rw [wI_le (by omega) (by omega) (by omega) (by omega)]; omega)) (n := F) (s := (1, 1)) (by omega) ⟨by rw [Int.pow_zero]; rfl, rfl⟩
  have hp := p36_b (sn S) hn5
  have hlv := LV_nn S 0 (sn S)
  have hs0 := SU_sum hS 0 (sn S)
  have hs1 := SU_nn S 0 0 (sn S)
  have hs2 := SU_nn S 1 0 (sn S)
  have hcmp : (lg_cmp s1.1 s1.2 = 0) ↔ (36 : Int) ^ sn S = LV S 0 (sn S) := by
    rw [lg_cmp_eq, h1, h2, wJ_eq (by omega) (by omega) (by omega) (by omega)]
  have hlw : (if lg_cmp s1.1 s1.2 = 0 then 1 else s1.1 - s1.2) = wJ (lwS S) := by
    unfold lwS
    by_cases h : (36 : Int) ^ sn S = LV S 0 (sn S)
    · rw [if_pos h, if_pos (hcmp.mpr h)]; rfl
    · rw [if_neg h, if_neg (fun h' => h (hcmp.mp h')), h1, h2, wJ_sub]
  -- one sum
  have hsum : ∀ (kx : Int64 → Option Su) (s fr : Nat), s ≤ 1 → fr < sn S → M_laySudden_L93 row bx (wI (sn S)) (wI s) (wI fr) kx F 0 1 s1.1 0 = kx (wJ (SU S s fr (sn S))) := fun kx s fr hs hfr => by
    obtain ⟨t', e, t1, t2, t3⟩ := lp0 (fun n x (t : Int64 × Int64 × Int64) => M_laySudden_L93 row bx (wI (sn S)) (wI s) (wI fr) kx n t.1 t.2.1 t.2.2 x) (fun t => kx t.1) (sn S) (fun i t => t.1 = wJ (SU S s fr i * 36 ^ (sn S - i)) ∧ t.2.1 = wJ (LV S fr i) ∧ t.2.2 = wJ (36 ^ (sn S - i)))
      (fun n i t hi hp => by
        obtain ⟨p1, p2, p3⟩ := hp
        obtain ⟨r, hr⟩ : ∃ r, r = (fr + i) % sn S := ⟨_, rfl⟩
        have hr5 : r < 5 := by rw [hr]; exact Nat.lt_of_lt_of_le (Nat.mod_lt _ hn1) hn5
        have hrem : z_rem (wI (fr : Int) + wI (i : Int)) (wI (sn S : Int)) = wI (r : Int) := by
          rw [wI_add, wI_rem (by omega) (by omega) (by omega) (by omega), hr]
          exact wI_c (by rw [Int.natCast_emod]; rfl)
        have bq := q36 S r
        have bq2 := q_b S r
        have bq3 := qS_b S s r
        obtain ⟨j, hj⟩ : ∃ j, sn S - i = j + 1 := ⟨sn S - i - 1, by omega⟩
        have hdv : t.2.2 / 36 = wJ (36 ^ j) := by rw [p3, hj]; exact p36_d j (by omega)
        refine ⟨(t.1 + t.2.1 * wJ (qS S s r) * wJ (36 ^ j), t.2.1 * wJ (qN S r), wJ (36 ^ j)), ?_, ?_, ?_, ?_⟩
        · simp only [M_laySudden_L93, z_let_e]
          rw [if_neg (by rw [wI_le (by omega) (by omega) (by omega) (by omega)]; omega), z_gd_e (wI_nz (by omega) (by omega))]
          simp only [hrem, hdv]
          rw [(r_rw hS hR hr5).2 s hs, z_bd_s, (r_rw hS hR hr5).1, z_bd_s, wI_l (by omega) (by omega), wI_l (by omega) (by omega), wI_1, wI_add]
          rfl
        · show t.1 + t.2.1 * wJ (qS S s r) * wJ (36 ^ j) = wJ ((36 * SU S s fr i + LV S fr i * qS S s ((fr + i) % sn S)) * 36 ^ (sn S - (i + 1)))
          rw [p1, p2, wJ_mul, wJ_mul, wJ_add, ← hr, hj, show sn S - (i + 1) = j by omega, Int.add_mul, Int.pow_succ]
          exact wJ_c (by rw [Int.mul_comm 36 (SU S s fr i), Int.mul_assoc (SU S s fr i) 36, Int.mul_comm 36 (36 ^ j)])
        · show t.2.1 * wJ (qN S r) = wJ (LV S fr i * qN S ((fr + i) % sn S))
          rw [p2, wJ_mul, ← hr]
        · show wJ (36 ^ j) = _
          rw [show sn S - (i + 1) = j by omega])
      (fun n t _ => by
        simp only [M_laySudden_L93]
        exact if_pos (by rw [wI_le (by omega) (by omega) (by omega) (by omega)]; omega)) (n := F) (s := (0, 1, s1.1)) (by omega) ⟨by show (0 : Int64) = wJ (0 * _); rw [Int.zero_mul]; rfl, rfl, by rw [h1]; rfl⟩
    refine (show _ = _ from e).trans ?_
    rw [t1, Nat.sub_self, Int.pow_zero, Int.mul_one]
  have h75 : ∀ (kx : Su → Option Su) (s : Nat) (u : Su), s ≤ 1 → ∃ u', M_laySudden_L75 F row bx (wI (sn S)) s1.1 s1.2 (wI s) kx F 0 u = kx u' ∧ su_lower u' = su_lower u ∧ (∀ t, (t < 5 * s ∨ 5 * s + 5 ≤ t) → su_sudden u' t = su_sudden u t) ∧ (∀ fr, fr < sn S → su_sudden u' (5 * s + fr) = wJ (SU S s fr (sn S))) := fun kx s u hs => by
    obtain ⟨u', e, t1, t2, t3⟩ := lp0 (fun n x (v : Su) => M_laySudden_L75 F row bx (wI (sn S)) s1.1 s1.2 (wI s) kx n x v) kx (sn S) (fun i v => su_lower v = su_lower u ∧ (∀ t, (t < 5 * s ∨ 5 * s + 5 ≤ t) → su_sudden v t = su_sudden u t) ∧ (∀ fr, fr < i → su_sudden v (5 * s + fr) = wJ (SU S s fr (sn S))))
      (fun n i v hi hp => by
        obtain ⟨p1, p2, p3⟩ := hp
        refine ⟨(su_lower v, vp_updL (su_sudden v) (5 * s + i) (wJ (SU S s i (sn S)))), ?_, p1, fun t ht => ?_, fun fr hfr => ?_⟩
        · simp only [M_laySudden_L75]
          rw [if_neg (by rw [wI_le (by omega) (by omega) (by omega) (by omega)]; omega), hsum _ s i hs hi, z_let_e]
          have ev : (if lg_cmp s1.1 s1.2 = 0 then 0 else wJ (SU S s i (sn S))) = wJ (SU S s i (sn S)) := by
            by_cases h : (36 : Int) ^ sn S = LV S 0 (sn S)
            · rw [if_pos (hcmp.mpr h), SU_z hS h hs]; rfl
            · rw [if_neg (fun h' => h (hcmp.mp h'))]
          rw [ev, wI_5, wI_mul, wI_add, z_gd_e (wI_in (by omega) (by omega) (by omega)), z_let_e, wI_nat (by omega) (by omega), show (5 * (s : Int) + i).toNat = 5 * s + i by omega, wI_1, wI_add]
          rfl
        · show vp_updL (su_sudden v) (5 * s + i) _ t = _
          rw [updL_n (by omega)]
          exact p2 t ht
        · show vp_updL (su_sudden v) (5 * s + i) _ (5 * s + fr) = _
          by_cases h : fr = i
          · rw [h, updL_s]
          · rw [updL_n (by omega)]
            exact p3 fr (by omega))
      (fun n v _ => by
        simp only [M_laySudden_L75]
        exact if_pos (by rw [wI_le (by omega) (by omega) (by omega) (by omega)]; omega)) (n := F) (s := u) (by omega) ⟨rfl, fun _ _ => rfl, fun t h => absurd h (Nat.not_lt_zero t)⟩
    exact ⟨u', e, t1, t2, t3⟩
  obtain ⟨G, hG⟩ : ∃ G, F = G + 1 + 1 + 1 := ⟨F - 3, by omega⟩
  obtain ⟨u1, eu1, a1, a2, a3⟩ := h75 (fun su32 => z_let (wI ((0 : Nat) : Int) + 1) (fun x58 : Int32 => M_laySudden_L66 F row bx (wI (sn S)) s1.1 s1.2 (G + 1 + 1) x58 su32)) 0 (wJ (lwS S), su_sudden su) (by omega)
  obtain ⟨u2, eu2, b1, b2, b3⟩ := h75 (fun su32 => z_let (wI ((1 : Nat) : Int) + 1) (fun x58 : Int32 => M_laySudden_L66 F row bx (wI (sn S)) s1.1 s1.2 (G + 1) x58 su32)) 1 u1 (by omega)
  refine ⟨u2, ?_, b1.trans a1, fun s fr hs hfr => ?_⟩
  · unfold M_laySudden
    have e1 : M_laySudden_L13 row bx (wI (sn S)) K F 1 1 0 = K s1.1 s1.2 := e1
    rw [show M_n row = wI (sn S) from hR.1, z_let_e, ← hK, e1, hK]
    show z_let _ _ = _
    rw [z_let_e, hlw]
    have s0 : ∀ (n : Nat) (v : Su), M_laySudden_L66 F row bx (wI (sn S)) s1.1 s1.2 (n + 1) 0 v = M_laySudden_L75 F row bx (wI (sn S)) s1.1 s1.2 (wI ((0 : Nat) : Int)) (fun su32 => z_let (wI ((0 : Nat) : Int) + 1) (fun x58 : Int32 => M_laySudden_L66 F row bx (wI (sn S)) s1.1 s1.2 n x58 su32)) F 0 v := fun n v => by
      simp only [M_laySudden_L66]
      exact if_neg (by decide)
    have s1' : ∀ (n : Nat) (v : Su), M_laySudden_L66 F row bx (wI (sn S)) s1.1 s1.2 (n + 1) (wI ((1 : Nat) : Int)) v = M_laySudden_L75 F row bx (wI (sn S)) s1.1 s1.2 (wI ((1 : Nat) : Int)) (fun su32 => z_let (wI ((1 : Nat) : Int) + 1) (fun x58 : Int32 => M_laySudden_L66 F row bx (wI (sn S)) s1.1 s1.2 n x58 su32)) F 0 v := fun n v => by
      simp only [M_laySudden_L66]
      exact if_neg (by decide)
    have s2 : ∀ (n : Nat) (v : Su), M_laySudden_L66 F row bx (wI (sn S)) s1.1 s1.2 (n + 1) (wI ((2 : Nat) : Int)) v = some v := fun n v => by
      simp only [M_laySudden_L66]
      exact if_pos (by decide)
    have q0 : M_laySudden_L66 F row bx (wI (sn S)) s1.1 s1.2 F 0 (wJ (lwS S), su_sudden su) = M_laySudden_L66 F row bx (wI (sn S)) s1.1 s1.2 (G + 1 + 1 + 1) 0 (wJ (lwS S), su_sudden su) := by rw [← hG]
    rw [q0, s0, eu1, z_let_e]
    have w1 : wI ((0 : Nat) : Int) + 1 = wI ((1 : Nat) : Int) := by decide
    have w2 : wI ((1 : Nat) : Int) + 1 = wI ((2 : Nat) : Int) := by decide
    rw [w1, s1', eu2, z_let_e, w2, s2]
  · have : s = 0 ∨ s = 1 := by omega
    rcases this with h | h
    · rw [h, b2 _ (by omega)]
      exact a3 fr hfr
    · rw [h]
      exact b3 fr hfr
end ZSD

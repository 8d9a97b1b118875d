/-! ROWS LAID: of the class, of the reference -/
def stR (S : St) (s : Nat) (q : Nat → Nat) : St := (sn S, so S, sf S, sv S, fun i => if 5 * s ≤ i ∧ i < 5 * s + sn S then sk S (5 * s + q (i - 5 * s)) else sk S i)
section ZRW
variable {p : Po} {now tr : Sh} {row : MRow} {F : Nat} {S : St} {fc : Fc} {bx : Bx} {q : Nat → Nat} {s : Nat} {pl pl' : Pl} {gl : Nat → Nat} {k n i : Nat}
theorem okR (hS : okS S) (hs : s ≤ 1) (hq : ∀ k, k < sn S → q k < sn S) : okS (stR S s q) := by
  obtain ⟨h1, h2, h3, h4, h5, h6⟩ := hS
  refine ⟨h1, h2, h3, h4, h5, fun i hi => ?_⟩
  show 0 ≤ (if 5 * s ≤ i ∧ i < 5 * s + sn S then sk S (5 * s + q (i - 5 * s)) else sk S i) ∧ (if 5 * s ≤ i ∧ i < 5 * s + sn S then sk S (5 * s + q (i - 5 * s)) else sk S i) ≤ 6
  split
  · next h =>
    have := hq (i - 5 * s) (by omega)
    exact h6 _ (by omega)
  · exact h6 i hi
/-- a row is laid on the trial -/
theorem c_setRow (hF : 20 ≤ F) (hS : okS S) (hC : CS S now) (hs : s ≤ 1) {R : Int32} (hR : ∀ k : Nat, k < sn S → K_digitAt R (wI k) (wI (sn S)) = wI ((q k : Nat) : Int) ∧ q k < sn S) (tr : Sh) : ∃ r, K_setTrialRow F now tr (wI s) R = some r ∧ sh_shooters r = sh_shooters tr ∧ sh_order r = sh_order tr ∧ sh_first r = sh_first tr ∧ sh_kicks r = sh_kicks tr ∧ sh_goalBits r = sh_goalBits tr ∧ sh_sideBits r = sh_sideBits tr ∧ sh_goalsOfA r = sh_goalsOfA tr ∧ sh_goalsOfB r = sh_goalsOfB tr ∧ sh_nerves r = sh_nerves tr ∧ (∀ k, k < sn S → sh_skills r (5 * s + k) = wI (sk S (5 * s + q k))) ∧ (∀ i, (i < 5 * s ∨ 5 * s + sn S ≤ i) → sh_skills r i = sh_skills tr i) := by
  have hn5 := hS.2.1
  obtain ⟨r, e, h⟩ := lp0 (fun n x (t : Sh) => K_setTrialRow_L11 now (wI s) R (wI (sn S)) n x t) (fun t => some t) (sn S) (fun i r => sh_shooters r = sh_shooters tr ∧ sh_order r = sh_order tr ∧ sh_first r = sh_first tr ∧ sh_kicks r = sh_kicks tr ∧ sh_goalBits r = sh_goalBits tr ∧ sh_sideBits r = sh_sideBits tr ∧ sh_goalsOfA r = sh_goalsOfA tr ∧ sh_goalsOfB r = sh_goalsOfB tr ∧ sh_nerves r = sh_nerves tr ∧ (∀ k, k < i → sh_skills r (5 * s + k) = wI (sk S (5 * s + q k))) ∧ (∀ i, (i < 5 * s ∨ 5 * s + sn S ≤ i) → sh_skills r i = sh_skills tr i))
    (fun n i t hi hp => by
      obtain ⟨q1, q2, q3, q4, q5, q6, q7, q8, q9, q10, q11⟩ := hp
      have hd := hR i hi
      have hset : Sh_setSkill t (wI s) (wI (i : Nat)) (wI (sk S (5 * s + q i))) = ((sh_shooters t), (sh_order t), (sh_first t), (sh_kicks t), (sh_goalBits t), (sh_sideBits t), (sh_goalsOfA t), (sh_goalsOfB t), (sh_nerves t), (upd (sh_skills t) (5 * s + i) (wI (sk S (5 * s + q i))))) := by
        unfold Sh_setSkill
        rw [z_let_e, wI_5, wI_mul, wI_add, if_neg (by rw [wI_0, wI_lt (by omega) (by omega) (by omega) (by omega)]; omega), if_neg (by rw [wI_10, wI_le (by omega) (by omega) (by omega) (by omega)]; omega), wI_nat (by omega) (by omega), show ((s : Int) * 5 + i).toNat = 5 * s + i by omega]
      refine ⟨Sh_setSkill t (wI s) (wI (i : Nat)) (wI (sk S (5 * s + q i))), ?_, ?_⟩
      · simp only [K_setTrialRow_L11]
        rw [if_neg (by rw [wI_le (by omega) (by omega) (by omega) (by omega)]; omega), hd.1, c_skillOf hC hs (by omega), z_let_e, z_let_e, wI_1, wI_add]
        rfl
      · rw [hset]
        refine ⟨q1, q2, q3, q4, q5, q6, q7, q8, q9, fun k hk => ?_, fun j hj => ?_⟩
        · show upd (sh_skills t) (5 * s + i) _ (5 * s + k) = _
          by_cases h : k = i
          · rw [h, upd_s]
          · rw [upd_n (by omega)]
            exact q10 k (by omega)
        · show upd (sh_skills t) (5 * s + i) _ j = _
          rw [upd_n (by omega)]
          exact q11 j hj)
    (fun n t _ => by
      simp only [K_setTrialRow_L11]
      exact if_pos (by rw [wI_le (by omega) (by omega) (by omega) (by omega)]; omega)) (n := F) (s := tr) (by omega) ⟨rfl, rfl, rfl, rfl, rfl, rfl, rfl, rfl, rfl, fun k h => absurd h (Nat.not_lt_zero k), fun _ _ => rfl⟩
  refine ⟨r, ?_, h⟩
  unfold K_setTrialRow
  rw [hC.1, z_let_e]
  exact e
/-- the trial but for skills, at the start -/
def cbT (S : St) (tr : Sh) : Prop := sh_shooters tr = wI (sn S) ∧ sh_order tr = wI (so S) ∧ sh_first tr = wI (sf S) ∧ (∀ i, i < 4 → sh_nerves tr i = wI (sv S i)) ∧ sh_kicks tr = 0 ∧ sh_goalBits tr = 0 ∧ sh_sideBits tr = 0 ∧ sh_goalsOfA tr = 0 ∧ sh_goalsOfB tr = 0
theorem cbT_CM (h : cbT S tr) (S' : St) (gl : Nat → Nat) : CM S' gl 0 tr := CM_0 h.2.2.2.2.1 h.2.2.2.2.2.1 h.2.2.2.2.2.2.1 h.2.2.2.2.2.2.2.1 h.2.2.2.2.2.2.2.2
theorem c_start2 (hF : 20 ≤ F) (hC : CS S now) (sh : Sh) : ∃ r, K_takeStart F now sh = some r ∧ cbT S r ∧ ∀ i, i < 10 → sh_skills r i = wI (sk S i) := by
  obtain ⟨r, e, hC1, hM⟩ := c_start hF hC sh
  have hM := hM (fun _ => 0)
  exact ⟨r, e, ⟨hC1.1, hC1.2.1, hC1.2.2.1, hC1.2.2.2.1, hM.1, hM.2.1, hM.2.2.1, hM.2.2.2.1, hM.2.2.2.2⟩, hC1.2.2.2.2⟩
theorem c_setT (hF : 20 ≤ F) (hS : okS S) (hC : CS S now) (hs : s ≤ 1) {R : Int32} (hR : ∀ k : Nat, k < sn S → K_digitAt R (wI k) (wI (sn S)) = wI ((q k : Nat) : Int) ∧ q k < sn S) (hT : cbT S tr) : ∃ r, K_setTrialRow F now tr (wI s) R = some r ∧ cbT S r ∧ (∀ k, k < sn S → sh_skills r (5 * s + k) = wI (sk S (5 * s + q k))) ∧ (∀ i, (i < 5 * s ∨ 5 * s + sn S ≤ i) → sh_skills r i = sh_skills tr i) := by
  obtain ⟨r, e, q1, q2, q3, q4, q5, q6, q7, q8, q9, q10, q11⟩ := c_setRow hF hS hC hs hR tr
  obtain ⟨t1, t2, t3, t4, t5, t6, t7, t8, t9⟩ := hT
  exact ⟨r, e, ⟨q1.trans t1, q2.trans t2, q3.trans t3, fun i hi => by rw [q9]; exact t4 i hi, q4.trans t5, q5.trans t6, q6.trans t7, q7.trans t8, q8.trans t9⟩, q10, q11⟩
/-- one side's row alone differs -/
def cbS (S : St) (s : Nat) (tr : Sh) : Prop := cbT S tr ∧ ∀ i, i < 10 → (i < 5 * s ∨ 5 * s + sn S ≤ i) → sh_skills tr i = wI (sk S i)
theorem c_rowS (hF : 20 ≤ F) (hS : okS S) (hC : CS S now) (hs : s ≤ 1) {R : Int32} (hR : ∀ k : Nat, k < sn S → K_digitAt R (wI k) (wI (sn S)) = wI ((q k : Nat) : Int) ∧ q k < sn S) (hT : cbS S s tr) : ∃ r, K_setTrialRow F now tr (wI s) R = some r ∧ cbS S s r ∧ CS (stR S s q) r := by
  obtain ⟨r, e, hT1, q10, q11⟩ := c_setT hF hS hC hs hR hT.1
  have hn : ∀ i, i < 10 → (i < 5 * s ∨ 5 * s + sn S ≤ i) → sh_skills r i = wI (sk S i) := fun i hi h => (q11 i h).trans (hT.2 i hi h)
  refine ⟨r, e, ⟨hT1, hn⟩, hT1.1, hT1.2.1, hT1.2.2.1, hT1.2.2.2.1, fun i hi => ?_⟩
  show _ = wI (if 5 * s ≤ i ∧ i < 5 * s + sn S then sk S (5 * s + q (i - 5 * s)) else sk S i)
  by_cases h : 5 * s ≤ i ∧ i < 5 * s + sn S
  · rw [if_pos h, ← q10 (i - 5 * s) (by omega), show 5 * s + (i - 5 * s) = i by omega]
  · rw [if_neg h]
    exact hn i hi (by omega)
/-! of the reference -/
theorem r_putRow (hF : 20 ≤ F) (hS : okS S) (hm : MR S gl k row) (hs : s ≤ 1) (hpl : ∀ k : Nat, k < sn S → pl k = wI ((q k : Nat) : Int) ∧ q k < sn S) (bx : Bx) : ∃ bx', M_putRow F row bx pl (wI s) = some bx' ∧ bx_byOrder bx' = bx_byOrder bx ∧ bx_byFirst bx' = bx_byFirst bx ∧ (∀ k, k < sn S → bx_skill bx' (5 * s + k) = wI (sk S (5 * s + q k))) ∧ (∀ i, (i < 5 * s ∨ 5 * s + sn S ≤ i) → bx_skill bx' i = bx_skill bx i) := by
  have hn5 := hS.2.1
  obtain ⟨r, e, h⟩ := lp0 (fun n x (t : Bx) => M_putRow_L2 row pl (wI s) n x t) (fun t => some t) (sn S) (fun i r => bx_byOrder r = bx_byOrder bx ∧ bx_byFirst r = bx_byFirst bx ∧ (∀ k, k < i → bx_skill r (5 * s + k) = wI (sk S (5 * s + q k))) ∧ (∀ i, (i < 5 * s ∨ 5 * s + sn S ≤ i) → bx_skill r i = bx_skill bx i))
    (fun n i t hi hp => by
      obtain ⟨q1, q2, q10, q11⟩ := hp
      have hd := hpl i hi
      refine ⟨(bx_byOrder t, bx_byFirst t, upd (bx_skill t) (5 * s + i) (wI (sk S (5 * s + q i)))), ?_, q1, q2, fun k hk => ?_, fun j hj => ?_⟩
      · simp only [M_putRow_L2]
        rw [show M_n row = wI (sn S) from hm.1, if_neg (by rw [wI_le (by omega) (by omega) (by omega) (by omega)]; omega), z_gd_e (wI_in (by omega) (by omega) (by omega)), wI_ix (by omega), hd.1, wI_8, wI_5, wI_mul, wI_add, wI_add, wI_add, z_gd_e (wI_in (by omega) (by omega) (by omega)), wI_nat (by omega) (by omega), show (8 + 5 * (s : Int) + (q i : Nat)).toNat = 8 + (5 * s + q i) by omega, hm.2.2.2.2.2.1 _ (by omega), z_let_e, z_gd_e (wI_in (by omega) (by omega) (by omega)), wI_nat (by omega) (by omega), show (5 * (s : Int) + i).toNat = 5 * s + i by omega, z_let_e, wI_1, wI_add]
        rfl
      · show upd (bx_skill t) (5 * s + i) _ (5 * s + k) = _
        by_cases h : k = i
        · rw [h, upd_s]
        · rw [upd_n (by omega)]
          exact q10 k (by omega)
      · show upd (bx_skill t) (5 * s + i) _ j = _
        rw [upd_n (by omega)]
        exact q11 j hj)
    (fun n t _ => by
      simp only [M_putRow_L2]
      rw [show M_n row = wI (sn S) from hm.1]
      exact if_pos (by rw [wI_le (by omega) (by omega) (by omega) (by omega)]; omega)) (n := F) (s := bx) (by omega) ⟨rfl, rfl, fun k h => absurd h (Nat.not_lt_zero k), fun _ _ => rfl⟩
  exact ⟨r, e, h⟩
theorem r_byRow (hF : 1100 ≤ F) (hS : okS S) (hm : MR S gl k row) (hs : s ≤ 1) (hpl : ∀ k : Nat, k < sn S → pl k = wI ((q k : Nat) : Int) ∧ q k < sn S) (bx : Bx) (mo : Mo) (su : Su) (wy : Wy) (wa : Wa) : ∃ bx' mo' su' wy' wa', M_oddsByRow F row bx mo su wy wa pl (wI s) = some (bx', mo', su', wy', wa', (wJ (oU (stR S s q) (0, 0, 0, sf S) s), wJ (oL (stR S s q) (0, 0, 0, sf S)))) := by
  obtain ⟨b1, m1, e1, hR, hM⟩ := r_beg (F := F) (by omega) hS hm bx mo
  obtain ⟨b2, e2, t1, t2, t3, t4⟩ := r_putRow (F := F) (by omega) hS hm hs hpl b1
  have hok := okR hS hs (fun k hk => (hpl k hk).2)
  have hR2 : RS (stR S s q) row b2 := by
    refine ⟨hR.1, t1.trans hR.2.1, t2.trans hR.2.2.1, hR.2.2.2.1, fun i hi => ?_⟩
    show _ = wI (if 5 * s ≤ i ∧ i < 5 * s + sn S then sk S (5 * s + q (i - 5 * s)) else sk S i)
    by_cases h : 5 * s ≤ i ∧ i < 5 * s + sn S
    · rw [if_pos h, ← t3 (i - 5 * s) (by omega), show 5 * s + (i - 5 * s) = i by omega]
    · rw [if_neg h, t4 i (by omega)]
      exact hR.2.2.2.2 i hi
  have hM2 : RM (stR S s q) (0, 0, 0, sf S) m1 := hM
  obtain ⟨mo3, su3, wy3, wa3, e3, hM3⟩ := r_odds hF hok hR2 hM2 (okM_0 (S := stR S s q) hok) (by show 0 ≤ 61; omega) hs su wy wa
  refine ⟨b2, mo3, su3, wy3, wa3, ?_⟩
  unfold M_oddsByRow
  rw [e1, z_bd_s, e2, z_bd_s, e3, z_bd_s]
/-! the next row depends on its five places alone -/
theorem z_in5 {x : Int32} (h : z_in x 5 = true) : x.toNatClampNeg < 5 := by
  have : ¬ (x < 0 ∨ 5 ≤ x.toNatClampNeg) := of_decide_eq_true h
  omega
def plR (o o' : Option (Int32 × Pl)) : Prop := (o = none ∧ o' = none) ∨ ∃ r a b, o = some (r, a) ∧ o' = some (r, b) ∧ ∀ k, k < 5 → a k = b k
theorem plR_gd {c : Bool} {o o' : Option (Int32 × Pl)} (h : c = true → plR o o') : plR (z_gd c o) (z_gd c o') := by
  cases c with
  | true => exact h rfl
  | false => exact Or.inl ⟨rfl, rfl⟩
theorem nx9 (h : ∀ k, k < 5 → pl k = pl' k) {kx kx' : Int32 → Option (Int32 × Pl)} (hk : ∀ x, plR (kx x) (kx' x)) : ∀ n x, plR (M_nextRow_L9 pl kx n x) (M_nextRow_L9 pl' kx' n x)
  | 0, x => Or.inl ⟨rfl, rfl⟩
  | n + 1, x => by
    rw [M_nextRow_L9, M_nextRow_L9]
    by_cases c1 : x < 0
    · rw [if_pos c1, if_pos c1]; exact hk x
    · rw [if_neg c1, if_neg c1]
      refine plR_gd (fun g1 => plR_gd (fun g2 => ?_))
      rw [h _ (z_in5 g1), h _ (z_in5 g2)]
      split
      · exact hk x
      · rw [z_let_e, z_let_e]; exact nx9 h hk n _
theorem nx46 (h : ∀ k, k < 5 → pl k = pl' k) {x8 : Int32} {kx kx' : Int32 → Option (Int32 × Pl)} (hk : ∀ x, plR (kx x) (kx' x)) : ∀ n x, plR (M_nextRow_L46 pl x8 kx n x) (M_nextRow_L46 pl' x8 kx' n x)
  | 0, x => Or.inl ⟨rfl, rfl⟩
  | n + 1, x => by
    rw [M_nextRow_L46, M_nextRow_L46]
    refine plR_gd (fun g1 => plR_gd (fun g2 => ?_))
    rw [h _ (z_in5 g1), h _ (z_in5 g2)]
    split
    · exact hk x
    · rw [z_let_e, z_let_e]; exact nx46 h hk n _
theorem swp_r (h : ∀ k, k < 5 → pl k = pl' k) (x y : Int32) {f f' : Pl → Option (Int32 × Pl)} (hf : ∀ a b : Pl, (∀ k, k < 5 → a k = b k) → plR (f a) (f' b)) : plR (z_bd (M_swap pl x y) f) (z_bd (M_swap pl' x y) f') := by
  unfold M_swap
  by_cases g1 : z_in x 5 = true
  · rw [g1]
    by_cases g2 : z_in y 5 = true
    · rw [g2]
      simp only [z_gd_t, z_let_e, z_bd_s]
      refine hf _ _ (fun k hk => ?_)
      unfold upd
      rw [h _ (z_in5 g1), h _ (z_in5 g2)]
      split
      · rfl
      · split
        · rfl
        · exact h k hk
    · rw [show z_in y 5 = false by cases hh : z_in y 5 <;> simp_all]
      simp only [z_gd_t, z_let_e]
      exact Or.inl ⟨rfl, rfl⟩
  · rw [show z_in x 5 = false by cases hh : z_in x 5 <;> simp_all]
    exact Or.inl ⟨rfl, rfl⟩
theorem nx83 : ∀ n x y (pl pl' : Pl), (∀ k, k < 5 → pl k = pl' k) → plR (M_nextRow_L83 n x y pl) (M_nextRow_L83 n x y pl')
  | 0, x, y, pl, pl', h => Or.inl ⟨rfl, rfl⟩
  | n + 1, x, y, pl, pl', h => by
    rw [M_nextRow_L83, M_nextRow_L83]
    split
    · exact Or.inr ⟨1, pl, pl', rfl, rfl, h⟩
    · refine swp_r h y x (fun a b hab => ?_)
      rw [z_let_e, z_let_e, z_let_e, z_let_e]
      exact nx83 n _ _ a b hab
theorem nx_all {row' : MRow} (hr : row 0 = row' 0) (h : ∀ k, k < 5 → pl k = pl' k) : plR (M_nextRow F row pl) (M_nextRow F row' pl') := by
  unfold M_nextRow M_n
  rw [hr]
  simp only [z_let_e]
  refine nx9 h (fun x => ?_) _ _
  split
  · refine nx46 h (fun y => ?_) _ _
    exact swp_r h x y (fun a b hab => nx83 _ _ _ a b hab)
  · exact Or.inr ⟨0, pl, pl', rfl, rfl, h⟩
/-- places that are a row by its number -/
def plN (n i : Nat) (pl : Pl) : Prop := ∀ k, k < 5 → pl k = pl5 n i k
theorem plN_q (h : plN n i pl) (hn : n < 6) (hi : i < fc5 n) : ∀ k : Nat, k < n → pl k = wI ((pq n i k : Nat) : Int) ∧ pq n i k < n := fun k hk => ⟨(h k (by omega)).trans (if_pos hk), (row_dg n hn i hi k hk).2⟩
theorem nx_step (hr : row 0 = wI (n : Nat)) (hn : n < 6) (hn0 : 0 < n) (hi : i < fc5 n) (h : plN n i pl) : ∃ b pl', M_nextRow FF row pl = some (b, pl') ∧ ((i + 1 < fc5 n ∧ b = 1 ∧ plN n (i + 1) pl') ∨ (fc5 n ≤ i + 1 ∧ b = 0)) := by
  have h1 := nx_ok n hn hn0 i hi
  have h2 := nx_all (F := FF) (row := row) (row' := fun _ => wI (n : Nat)) hr h
  unfold nxOk at h1
  rcases h2 with ⟨h2, h3⟩ | ⟨r, a, b, h2, h3, h4⟩
  · rw [h3] at h1
    simp at h1
  · rw [h3] at h1
    refine ⟨r, a, h2, ?_⟩
    by_cases hlt : i + 1 < fc5 n
    · simp only [if_pos hlt] at h1
      rw [Bool.and_eq_true] at h1
      refine Or.inl ⟨hlt, by simpa using h1.1, fun k hk => ?_⟩
      rw [h4 k hk]
      have := List.all_eq_true.mp h1.2 k (List.mem_range.mpr hk)
      simpa using this
    · simp only [if_neg hlt] at h1
      exact Or.inr ⟨by omega, by simpa using h1⟩
theorem z_gd_f {β : Type} (k : Option β) : z_gd false k = none := of_eq_true (eq_self none)
theorem dg_ext {row' : MRow} (hr : row 0 = row' 0) (h : ∀ k, k < 5 → pl k = pl' k) : ∀ n x y, M_digits_L4 row pl n x y = M_digits_L4 row' pl' n x y
  | 0, x, y => rfl
  | n + 1, x, y => by
    rw [M_digits_L4, M_digits_L4]
    unfold M_n
    rw [hr]
    split
    · rfl
    · by_cases g1 : z_in y 5 = true
      · rw [g1, z_gd_t, z_gd_t, h _ (z_in5 g1), z_let_e, z_let_e, z_let_e, z_let_e]
        exact dg_ext hr h n _ _
      · rw [show z_in y 5 = false by cases hh : z_in y 5 <;> simp_all, z_gd_f, z_gd_f]
theorem dg_at (hr : row 0 = wI (n : Nat)) (hn : n < 6) (hi : i < fc5 n) (h : plN n i pl) : M_digits FF row pl = some (wI ((enc (pm n i) : Nat) : Int)) := by
  rw [← dg_ok n hn i hi]
  unfold M_digits
  exact dg_ext hr h _ _ _
theorem fst_row (hF : 20 ≤ F) (hn : n < 6) (pl : Pl) : ∃ pl', M_firstRow F pl = some pl' ∧ plN n 0 pl' := by
  obtain ⟨r, e, h⟩ := lp0 (fun m x (t : Pl) => M_firstRow_L2 m x t) (fun t => some t) 5 (fun i t => ∀ k, k < i → t k = wI (k : Nat))
    (fun m i t hi hp => by
      refine ⟨upd t i (wI (i : Nat)), ?_, fun k hk => ?_⟩
      · simp only [M_firstRow_L2]
        rw [if_neg (by rw [wI_5, wI_le (by omega) (by omega) (by omega) (by omega)]; omega), z_gd_e (wI_in (by omega) (by omega) (by omega)), z_let_e, wI_ix (by omega), wI_1, wI_add]
        rfl
      · by_cases hki : k = i
        · rw [hki, upd_s]
        · rw [upd_n hki]
          exact hp k (by omega))
    (fun m t _ => by simp only [M_firstRow_L2]; exact if_pos (by decide)) (n := F) (s := pl) (by omega) (fun k h => absurd h (Nat.not_lt_zero k))
  refine ⟨r, e, fun k hk => ?_⟩
  rw [h k hk]
  unfold pl5
  by_cases hkn : k < n
  · rw [if_pos hkn, pq_0 n hn k hkn]
  · rw [if_neg hkn]
end ZRW

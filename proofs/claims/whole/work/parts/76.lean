/-! WAYS OF THE REFERENCE -/
theorem sh_ix : ∀ k, k < 13 → ((nI k &&& 31).toBitVec.smod 32).toNat = k := by decide +kernel
theorem nI_a1 {n : Nat} (hn : n < 2 ^ 32) : nI n &&& 1 = nI (n % 2) := by
  apply Int32.toBitVec_inj.mp
  rw [Int32.toBitVec_and]
  apply BitVec.eq_of_toNat_eq
  show (BitVec.ofNat 32 n &&& BitVec.ofNat 32 1).toNat = (BitVec.ofNat 32 (n % 2)).toNat
  rw [BitVec.toNat_and, BitVec.toNat_ofNat, BitVec.toNat_ofNat, BitVec.toNat_ofNat, Nat.mod_eq_of_lt hn, Nat.mod_eq_of_lt (show 1 < 2 ^ 32 by decide), Nat.and_one_is_mod, Nat.mod_eq_of_lt (show n % 2 < 2 ^ 32 by omega)]
theorem w_shr {W k : Nat} (hW : W < 2 ^ 31) (hk : k < 13) : wI (W : Int) >>> (wI (k : Int) &&& 31) = wI ((W / 2 ^ k : Nat) : Int) := by
  rw [wI_nI, wI_nI, wI_nI]
  exact pk_shrN hW _ k (sh_ix k hk)
theorem w_bit {W k : Nat} (hW : W < 2 ^ 31) (hk : k < 13) : (wI (W : Int) >>> (wI (k : Int) &&& 31)) &&& 1 = wI ((W / 2 ^ k % 2 : Nat) : Int) := by
  rw [w_shr hW hk, wI_nI, wI_nI, nI_a1]
  exact Nat.lt_of_le_of_lt (Nat.div_le_self _ _) (by omega)
theorem w_one : ∀ k : Nat, k < 13 → (1 : Int32) <<< (wI (k : Int) &&& 31) = wI ((2 ^ k : Nat) : Int) := by decide +kernel
theorem r_sixes {F : Nat} (hF : 20 ≤ F) {t : Nat} (ht : t ≤ 12) : M_sixes F (wI t) = some (wJ (6 ^ t)) := by
  obtain ⟨s', e, h⟩ := lp0 (fun n x (s : Int64) => M_sixes_L4 (wI t) n s x) (fun s => some s) t (fun i s => s = wJ (6 ^ i))
    (fun n i s hi hp => by
      refine ⟨s * 6, ?_, ?_⟩
      · simp only [M_sixes_L4, wI_0, wI_1, wI_2, wI_3, wI_4, wI_5, wI_6, wI_8, wI_9, wI_10, wI_11, wI_18, wI_20, wI_24, wI_36, wI_60, wI_78, wI_add, wI_sub, wI_mul, wI_neg]
        simp (disch := omega) only [wI_le, z_let_e]
        rw [if_neg (by omega)]
        rfl
      · rw [hp, wJ_6, wJ_mul, ← Int.pow_succ])
    (fun n s _ => by
      simp only [M_sixes_L4]
      exact if_pos (by rw [wI_le (by omega) (by omega) (by omega) (by omega)]; omega)) (n := F) (s := 1) (by omega) (by rw [Int.pow_zero]; rfl)
  unfold M_sixes
  rw [← h]
  exact e
def WM (S : St) (m : Mm) (wa : Wa) : Prop := wa_was wa 0 = wI m.2.1 ∧ wa_was wa 1 = wI m.2.2.1 ∧ wa_was wa 2 = wI ((m.1 + 1 - m.2.2.2) / 2 : Nat) ∧ wa_was wa 3 = wI ((m.1 + m.2.2.2) / 2 : Nat) ∧ wa_was wa 4 = wI m.1 ∧ wa_was wa 5 = wI m.2.2.2 ∧ wa_wasOver wa = wI (mOv S m)
section ZWY
variable {S : St} {row : MRow} {bx : Bx} {mo : Mo} {m : Mm} {F : Nat} {wa : Wa} {wy : Wy}
theorem r_keep (hM : RM S m mo) (wa : Wa) : ∃ wa', M_keepMoment mo wa = some wa' ∧ WM S m wa' := by
  obtain ⟨h1, h2, h3, h4, h5, h6, h7⟩ := hM
  unfold M_keepMoment
  simp only [z_let_e]
  rw [z_gd_e (by rw [h7]; exact z_b_o01 _)]
  exact ⟨_, rfl, h1, h2, h3, h4, h5, h6, h7⟩
theorem r_bring (hM : WM S m wa) (mo : Mo) : ∃ mo', M_bringMoment mo wa = some mo' ∧ RM S m mo' := by
  obtain ⟨h1, h2, h3, h4, h5, h6, h7⟩ := hM
  unfold M_bringMoment
  simp only [z_let_e]
  rw [z_gd_e (by rw [h7]; exact z_b_o01 _)]
  exact ⟨_, rfl, h1, h2, h3, h4, h5, h6, h7⟩
theorem r_way (hF : 20 ≤ F) (hS : okS S) (hR : RS S row bx) {W left : Nat} (hW : W < 2 ^ 31) (hl : left ≤ 10) : ∀ (j : Nat) (m : Mm) (mo : Mo) (x : Int) (n kk : Nat), RM S m mo → okM m → m.1 + j = 2 * sn S → kk + j = left → j < n →
    ∃ x' k' m' mo', (∀ kx, M_goWay_L9 F row bx (wI W) (wI left) kx n (wJ x) (wI (kk : Nat)) mo = kx (wJ x') (wI (k' : Nat)) mo') ∧ RM S m' mo' ∧ okM m' ∧ k' ≤ left ∧ m'.1 ≤ 2 * sn S ∧ lf S j (W / 2 ^ kk) x m = if W / 2 ^ k' = 0 then some (x' * 6 ^ (left - k'), m') else none := by
  intro j
  induction j with
  | zero =>
    intro m mo x n kk hM hm h1 h2 hn
    obtain ⟨n, rfl⟩ : ∃ k, n = k + 1 := ⟨n - 1, by omega⟩
    refine ⟨x, kk, m, mo, fun kx => ?_, hM, hm, by omega, by omega, ?_⟩
    · rw [M_goWay_L9, if_pos (by rw [wI_le (by omega) (by omega) (by omega) (by omega)]; omega)]
    · rw [show left - kk = 0 by omega, Int.pow_zero, Int.mul_one]
      rfl
  | succ j ih =>
    intro m mo x n kk hM hm h1 h2 hn
    obtain ⟨n, rfl⟩ : ∃ k, n = k + 1 := ⟨n - 1, by omega⟩
    have hn5 := hS.2.1
    have hov := hM.2.2.2.2.2.2
    by_cases ho : ovr S m.1 (mD m) m.2.2.2
    · refine ⟨x, kk, m, mo, fun kx => ?_, hM, hm, by omega, by omega, ?_⟩
      · rw [M_goWay_L9, if_neg (by rw [wI_le (by omega) (by omega) (by omega) (by omega)]; omega), if_neg (by rw [hov, mOv, o01_t ho]; decide)]
      · rw [lf_o ho, show left - kk = j + 1 by omega]
    · have hb : W / 2 ^ kk % 2 ≤ 1 := by omega
      obtain ⟨mo', e, hM'⟩ := r_go hF hS hR hM hm (by omega) hb
      have hc := r_chance hS hR hM hm (by omega)
      have hcb : 0 ≤ mChance S m ∧ mChance S m ≤ 6 := chn_b _ _ _ _
      obtain ⟨x', k', m', mo2, e2, q1, q2, q3, q4, q5⟩ := ih (mStep S m (W / 2 ^ kk % 2)) mo' (x * (if W / 2 ^ kk % 2 = 1 then mChance S m else 6 - mChance S m)) n (kk + 1) hM' (okM_step hS hm hb) (by show m.1 + 1 + j = _; omega) (by omega) (by omega)
      refine ⟨x', k', m', mo2, fun kx => ?_, q1, q2, q3, q4, ?_⟩
      · have ev : (if wI ((W / 2 ^ kk % 2 : Nat) : Int) = 1 then (wI (mChance S m)).toInt64 else (6 - wI (mChance S m)).toInt64) = wJ (if W / 2 ^ kk % 2 = 1 then mChance S m else 6 - mChance S m) := by
          rw [wI_1, wI_6, wI_sub, wI_l (by omega) (by omega), wI_l (by omega) (by omega)]
          by_cases h : W / 2 ^ kk % 2 = 1
          · rw [if_pos h, if_pos (by rw [h]; rfl)]
          · rw [if_neg h, if_neg (by rw [wI_eq (by omega) (by omega) (by omega) (by omega)]; omega)]
        rw [M_goWay_L9, if_neg (by rw [wI_le (by omega) (by omega) (by omega) (by omega)]; omega), if_pos (by rw [hov, mOv, o01_f ho]; rfl), hc, z_bd_s, w_bit hW (by omega)]
        simp only [z_let_e]
        rw [ev, wJ_mul, e, z_bd_s, wI_1, wI_add]
        exact e2 kx
      · rw [lf_n ho, Nat.div_div_eq_div_mul, ← Nat.pow_succ]
        exact q5
noncomputable def fEz (S : St) (t : Nat) : Ob := if t = 0 then fLV S else fE S t
def wy_adds (S : St) (o : Option (Int × Mm)) (wy wy' : Wy) : Prop := (wy_winWays wy' 0 = wy_winWays wy 0 + wJ (val (fWA S) o)) ∧ (wy_winWays wy' 1 = wy_winWays wy 1 + wJ (val (fWB S) o)) ∧ (wy_alikeWays wy' = wy_alikeWays wy + wJ (val (fLV S) o)) ∧ (∀ t, t < 11 → wy_endWays wy' t = wy_endWays wy t + wJ (val (fEz S t) o)) ∧ (∀ t, t < 36 → wy_scoreWays wy' t = wy_scoreWays wy t + wJ (val (fSc t) o))
theorem ua {w : Nat → Int64} {i t : Nat} {X : Int} {p : Prop} (h : p ↔ t = i) : vp_updL w i (w i + wJ X) t = w t + wJ (X * o01 p) := by
  by_cases q : t = i
  · subst q
    rw [updL_s, o01_t (h.mpr rfl), Int.mul_one]
  · rw [updL_n q, o01_f (fun e => q (h.mp e)), Int.mul_zero]
    exact (Int64.add_zero _).symm
theorem ua0 {x : Int64} {X : Int} {p : Prop} (h : ¬ p) : x = x + wJ (X * o01 p) := by
  rw [o01_f h, Int.mul_zero]
  exact (Int64.add_zero _).symm
theorem ua1 {x : Int64} {X : Int} {p : Prop} (h : p) : x + wJ X = x + wJ (X * o01 p) := by rw [o01_t h, Int.mul_one]
theorem r_goWay (hF : 20 ≤ F) (hS : okS S) (hR : RS S row bx) {W left : Nat} (hW : W < 2 ^ 31) (hwa : WM S m wa) (hm : okM m) (hk : m.1 + left = 2 * sn S) (mo : Mo) (wy : Wy) : ∃ mo' wy', M_goWay F row bx mo wy wa (wI W) (wI left) = some (mo', wy') ∧ wy_adds S (lf S left W 1 m) wy wy' := by
  have hn5 := hS.2.1
  obtain ⟨mo1, e1, hM1⟩ := r_bring hwa mo
  obtain ⟨x', k', m', mo', hloop, hM, hm', hk', hk2, hlf⟩ := r_way (left := left) hF hS hR hW (by omega) left m mo1 1 F 0 hM1 hm hk (by omega) (by omega)
  rw [Nat.pow_zero, Nat.div_one] at hlf
  rw [hlf]
  unfold M_goWay
  rw [e1, z_bd_s]
  have hah := r_ahead hM hm' (by omega)
  obtain ⟨h0, h1, -, -, h4, -, h6⟩ := hM
  have hab := okM_ab hm'
  obtain ⟨hma, hmb, hml⟩ := hm'
  have hsh := w_shr hW (show k' < 13 by omega)
  have hWk : W / 2 ^ k' < 2147483648 := Nat.lt_of_le_of_lt (Nat.div_le_self _ _) (by omega)
  by_cases hz : W / 2 ^ k' = 0
  · rw [if_pos hz]
    have hsh0 : wI (W : Int) >>> (wI (k' : Int) &&& 31) = 0 := by rw [hsh, hz]; rfl
    have e6 : M_sixes F (wI left - wI k') = some (wJ (6 ^ (left - k'))) := by
      rw [wI_sub, show (left : Int) - k' = ((left - k' : Nat) : Int) by omega]
      exact r_sixes hF (by omega)
    obtain ⟨X, hX⟩ : ∃ X, X = x' * 6 ^ (left - k') := ⟨_, rfl⟩
    obtain ⟨ix, hix⟩ : ∃ ix : Nat, ix = 6 * m'.2.1 + m'.2.2.1 := ⟨_, rfl⟩
    have hG : 6 * mo_goals mo' 0 + mo_goals mo' 1 = wI (ix : Int) := by
      rw [h0, h1, wI_6, wI_mul, wI_add]
      exact wI_c (by omega)
    have hG2 : (wI (ix : Int)).toNatClampNeg = ix := wI_ix (by omega)
    have hG3 : z_in (wI (ix : Int)) 36 = true := wI_in (by omega) (by omega) (by omega)
    have hsc : ∀ t, (6 * (m'.2.1 : Int) + ((m'.2.1 : Int) - mD m') = (t : Nat)) ↔ t = ix := fun t => by unfold mD; omega
    rw [← hX]
    by_cases ho : ovr S m'.1 (mD m') m'.2.2.2
    · have hd := ovr_ne hS hml ho
      have hk0 : m'.1 ≠ 0 := fun h => by unfold mD at hd; omega
      obtain ⟨ia, hia⟩ : ∃ ia : Nat, ia = if 0 < mD m' then 0 else 1 := ⟨_, rfl⟩
      have hia1 : ia ≤ 1 := by rw [hia]; split <;> omega
      have hA : M_ahead mo' = wI (ia : Int) := by
        rw [hah, hia]
        refine wI_c ?_
        split
        · rfl
        · rw [if_pos (by omega)]; rfl
      have hA2 : (wI (ia : Int)).toNatClampNeg = ia := wI_ix (by omega)
      have hA3 : z_in (wI (ia : Int)) 2 = true := wI_in (by omega) (by omega) (by omega)
      have hK2 : (wI (m'.1 : Int)).toNatClampNeg = m'.1 := wI_ix (by omega)
      have hK3 : z_in (wI (m'.1 : Int)) 11 = true := wI_in (by omega) (by omega) (by omega)
      have hO : ¬ mo_isOver mo' = 0 := by rw [h6, mOv, o01_t ho]; decide
      refine ⟨mo', (vp_updL (wy_winWays wy) ia (wy_winWays wy ia + wJ X), wy_alikeWays wy, wy_leftWays wy, vp_updL (wy_endWays wy) m'.1 (wy_endWays wy m'.1 + wJ X), vp_updL (wy_scoreWays wy) ix (wy_scoreWays wy ix + wJ X)), (hloop _).trans ?_, ?_⟩
      · simp only [hsh0, if_true, e6, z_bd_s, z_let_e, wJ_mul, ← hX, z_jn_e, if_neg hO, hA, hA2, hA3, h4, hK2, hK3, hG, hG2, hG3, z_gd_t]
      · refine ⟨ua (p := ovr S m'.1 (mD m') m'.2.2.2 ∧ 0 < mD m') ⟨fun h => ?_, fun h => ⟨ho, ?_⟩⟩, ua (p := ovr S m'.1 (mD m') m'.2.2.2 ∧ mD m' < 0) ⟨fun h => ?_, fun h => ⟨ho, ?_⟩⟩, ua0 (fun h => h ho), fun t ht => ?_, fun t ht => ua (hsc t)⟩
        · rw [hia, if_pos h.2]
        · rw [hia] at h
          split at h
          · assumption
          · omega
        · rw [hia, if_neg (by have := h.2; omega)]
        · rw [hia] at h
          split at h
          · omega
          · omega
        · by_cases h : t = 0
          · subst h
            refine (updL_n (by omega)).trans ?_
            exact ua0 (p := ¬ ovr S m'.1 (mD m') m'.2.2.2) (fun h => h ho)
          · have e : fEz S t = fE S t := if_neg h
            rw [e]
            exact ua (p := ovr S m'.1 (mD m') m'.2.2.2 ∧ m'.1 = t) ⟨fun h => h.2.symm, fun h => ⟨ho, h.symm⟩⟩
    · have hO : mo_isOver mo' = 0 := by rw [h6, mOv, o01_f ho]; rfl
      refine ⟨mo', (wy_winWays wy, wy_alikeWays wy + wJ X, wy_leftWays wy, vp_updL (wy_endWays wy) 0 (wy_endWays wy 0 + wJ X), vp_updL (wy_scoreWays wy) ix (wy_scoreWays wy ix + wJ X)), (hloop _).trans ?_, ?_⟩
      · simp only [hsh0, if_true, e6, z_bd_s, z_let_e, wJ_mul, ← hX, z_jn_e, if_pos hO, hG, hG2, hG3, z_gd_t]
      · refine ⟨ua0 (fun h => ho h.1), ua0 (fun h => ho h.1), ua1 ho, fun t ht => ?_, fun t ht => ua (hsc t)⟩
        by_cases h : t = 0
        · subst h
          exact ua (w := wy_endWays wy) (i := 0) (t := 0) (X := X) (p := ¬ ovr S m'.1 (mD m') m'.2.2.2) ⟨fun _ => rfl, fun _ => ho⟩
        · have e : fEz S t = fE S t := if_neg h
          rw [e]
          exact ua (p := ovr S m'.1 (mD m') m'.2.2.2 ∧ m'.1 = t) ⟨fun h => absurd h.1 ho, fun h' => absurd h' h⟩
  · rw [if_neg hz]
    have hsh0 : ¬ wI (W : Int) >>> (wI (k' : Int) &&& 31) = 0 := by
      rw [hsh]
      generalize W / 2 ^ k' = Q at hz hWk
      rw [wI_0, wI_eq (by omega) (by omega) (by omega) (by omega)]
      omega
    refine ⟨mo', wy, (hloop _).trans ?_, ?_⟩
    · exact if_neg hsh0
    · have z : ∀ x : Int64, x = x + wJ 0 := fun x => (Int64.add_zero x).symm
      exact ⟨z _, z _, z _, fun _ _ => z _, fun _ _ => z _⟩
def wy_at (S : St) (left : Nat) (m : Mm) (i : Nat) (wy : Wy) : Prop := wy_winWays wy 0 = wJ (sm (fun w => val (fWA S) (lf S left w 1 m)) i) ∧ wy_winWays wy 1 = wJ (sm (fun w => val (fWB S) (lf S left w 1 m)) i) ∧ wy_alikeWays wy = wJ (sm (fun w => val (fLV S) (lf S left w 1 m)) i) ∧ (∀ t, t < 11 → wy_endWays wy t = wJ (sm (fun w => val (fEz S t) (lf S left w 1 m)) i)) ∧ (∀ t, t < 36 → wy_scoreWays wy t = wJ (sm (fun w => val (fSc t) (lf S left w 1 m)) i))
def WT (S : St) (m : Mm) (wy : Wy) : Prop := wy_winWays wy 0 = wJ (TW S 1 (fWA S) (2 * sn S - m.1) m.1 m.2.1 (mD m) m.2.2.2) ∧ wy_winWays wy 1 = wJ (TW S 1 (fWB S) (2 * sn S - m.1) m.1 m.2.1 (mD m) m.2.2.2) ∧ wy_alikeWays wy = wJ (TW S 1 (fLV S) (2 * sn S - m.1) m.1 m.2.1 (mD m) m.2.2.2) ∧ wy_leftWays wy = wJ (6 ^ (2 * sn S - m.1)) ∧ (∀ t, t < 11 → wy_endWays wy t = wJ (TW S 1 (fEz S t) (2 * sn S - m.1) m.1 m.2.1 (mD m) m.2.2.2)) ∧ (∀ t, t < 36 → wy_scoreWays wy t = wJ (TW S 1 (fSc t) (2 * sn S - m.1) m.1 m.2.1 (mD m) m.2.2.2))
theorem r_layWays (hF : 1100 ≤ F) (hS : okS S) (hR : RS S row bx) (hM : RM S m mo) (hm : okM m) (hk : m.1 ≤ 2 * sn S) (wy : Wy) (wa : Wa) : ∃ mo' wy' wa', M_layWays F row bx mo wy wa = some (mo', wy', wa') ∧ RM S m mo' ∧ WT S m wy' := by
  have hn5 := hS.2.1
  obtain ⟨left, hleft⟩ : ∃ left, left = 2 * sn S - m.1 := ⟨_, rfl⟩
  obtain ⟨N, hN⟩ : ∃ N, N = 2 ^ left := ⟨_, rfl⟩
  have hpow : N ≤ 1024 := by rw [hN]; exact Nat.pow_le_pow_right (n := 2) (j := 10) (by decide) (by omega)
  have hone : (1 : Int32) <<< (wI (left : Int) &&& 31) = wI (N : Int) := by rw [hN]; exact w_one left (by omega)
  have hx2 : 2 * M_n row - mo_kicks mo = wI (left : Int) := by
    unfold M_n
    rw [hR.1, hM.2.2.2.2.1, wI_2, wI_mul, wI_sub]
    exact wI_c (by omega)
  obtain ⟨wa', ea, hwa⟩ := r_keep hM wa
  obtain ⟨K, hK⟩ : ∃ K : Mo → Wy → Option (Mo × Wy × Wa), K = fun mo30 wy31 => z_bd (M_sixes F (wI (left : Int))) (fun r35 : Int64 => z_bd (M_bringMoment mo30 wa') (fun u36 : Mo => some (u36, ((wy_winWays wy31), (wy_alikeWays wy31), r35, (wy_endWays wy31), (wy_scoreWays wy31)), wa'))) := ⟨_, rfl⟩
  obtain ⟨w1, e1, p1⟩ := lp0 (fun n x (s : Wy) => M_layWays_L37 (fun wy9 => M_layWays_L58 (fun wy19 => M_layWays_L79 F row bx wa' (wI (left : Int)) K F 0 mo wy19) F 0 wy9) n x s) (fun wy9 => M_layWays_L58 (fun wy19 => M_layWays_L79 F row bx wa' (wI (left : Int)) K F 0 mo wy19) F 0 wy9) 11 (fun i s => wy_winWays s 0 = 0 ∧ wy_winWays s 1 = 0 ∧ wy_alikeWays s = 0 ∧ (∀ t, t < i → wy_endWays s t = 0))
    (fun n i s hi hp => by
      refine ⟨(wy_winWays s, wy_alikeWays s, wy_leftWays s, vp_updL (wy_endWays s) i 0, wy_scoreWays s), ?_, hp.1, hp.2.1, hp.2.2.1, fun t ht => ?_⟩
      · simp only [M_layWays_L37, wI_0, wI_1, wI_2, wI_3, wI_4, wI_5, wI_6, wI_8, wI_9, wI_10, wI_11, wI_18, wI_20, wI_24, wI_36, wI_60, wI_78, wI_add, wI_sub, wI_mul, wI_neg]
        simp (disch := omega) only [wI_le, wI_in, wI_nat, z_gd_t, z_let_e, Int.toNat_natCast]
        rw [if_neg (by omega)]
        rfl
      · show vp_updL (wy_endWays s) i 0 t = _
        rcases Nat.lt_or_ge t i with h | h
        · rw [updL_n (by omega)]; exact hp.2.2.2 t h
        · have : t = i := by omega
          rw [this, updL_s])
    (fun n s _ => by simp only [M_layWays_L37]; exact if_pos (by decide)) (n := F) (s := (vp_updL (vp_updL (wy_winWays wy) 0 0) 1 0, 0, wy_leftWays wy, wy_endWays wy, wy_scoreWays wy)) (by omega) ⟨rfl, rfl, rfl, fun t h => absurd h (Nat.not_lt_zero t)⟩
  obtain ⟨w2, e2, p2⟩ := lp0 (fun n x (s : Wy) => M_layWays_L58 (fun wy19 => M_layWays_L79 F row bx wa' (wI (left : Int)) K F 0 mo wy19) n x s) (fun wy19 => M_layWays_L79 F row bx wa' (wI (left : Int)) K F 0 mo wy19) 36 (fun i s => wy_winWays s 0 = 0 ∧ wy_winWays s 1 = 0 ∧ wy_alikeWays s = 0 ∧ (∀ t, t < 11 → wy_endWays s t = 0) ∧ (∀ t, t < i → wy_scoreWays s t = 0))
    (fun n i s hi hp => by
      refine ⟨(wy_winWays s, wy_alikeWays s, wy_leftWays s, wy_endWays s, vp_updL (wy_scoreWays s) i 0), ?_, hp.1, hp.2.1, hp.2.2.1, hp.2.2.2.1, fun t ht => ?_⟩
      · simp only [M_layWays_L58, wI_0, wI_1, wI_2, wI_3, wI_4, wI_5, wI_6, wI_8, wI_9, wI_10, wI_11, wI_18, wI_20, wI_24, wI_36, wI_60, wI_78, wI_add, wI_sub, wI_mul, wI_neg]
        simp (disch := omega) only [wI_le, wI_in, wI_nat, z_gd_t, z_let_e, Int.toNat_natCast]
        rw [if_neg (by omega)]
        rfl
      · show vp_updL (wy_scoreWays s) i 0 t = _
        rcases Nat.lt_or_ge t i with h | h
        · rw [updL_n (by omega)]; exact hp.2.2.2.2 t h
        · have : t = i := by omega
          rw [this, updL_s])
    (fun n s _ => by simp only [M_layWays_L58]; exact if_pos (by decide)) (n := F) (s := w1) (by omega) ⟨p1.1, p1.2.1, p1.2.2.1, p1.2.2.2, fun t h => absurd h (Nat.not_lt_zero t)⟩
  obtain ⟨w3, e3, p3⟩ := lp0 (fun n x (s : Mo × Wy) => M_layWays_L79 F row bx wa' (wI (left : Int)) K n x s.1 s.2) (fun s => K s.1 s.2) N (fun i s => wy_at S left m i s.2)
    (fun n i s hi hp => by
      obtain ⟨mo', wy', e, had⟩ := r_goWay (F := F) (W := i) (left := left) (by omega) hS hR (by omega) hwa hm (by omega) s.1 s.2
      obtain ⟨a1, a2, a3, a4, a5⟩ := had
      obtain ⟨b1, b2, b3, b4, b5⟩ := hp
      refine ⟨(mo', wy'), ?_, a1.trans ?_, a2.trans ?_, a3.trans ?_, fun t ht => (a4 t ht).trans ?_, fun t ht => (a5 t ht).trans ?_⟩
      · simp only [M_layWays_L79]
        rw [hone, if_neg (by rw [wI_le (by omega) (by omega) (by omega) (by omega)]; omega), e, z_bd_s, wI_1, wI_add]
        rfl
      · rw [b1, wJ_add]; rfl
      · rw [b2, wJ_add]; rfl
      · rw [b3, wJ_add]; rfl
      · rw [b4 t ht, wJ_add]; rfl
      · rw [b5 t ht, wJ_add]; rfl)
    (fun n s _ => by
      simp only [M_layWays_L79]
      rw [hone]
      exact if_pos (by rw [wI_le (by omega) (by omega) (by omega) (by omega)]; omega)) (n := F) (s := (mo, w2)) (by omega) ⟨p2.1, p2.2.1, p2.2.2.1, p2.2.2.2.1, p2.2.2.2.2⟩
  obtain ⟨mo', e4, hM'⟩ := r_bring hwa w3.1
  refine ⟨mo', (wy_winWays w3.2, wy_alikeWays w3.2, wJ (6 ^ left), wy_endWays w3.2, wy_scoreWays w3.2), wa', ?_, hM', ?_⟩
  · unfold M_layWays
    rw [ea, z_bd_s, hx2, z_let_e, ← hK]
    refine (show _ = _ from e1).trans ((show _ = _ from e2).trans ((show _ = _ from e3).trans ?_))
    rw [hK]
    show z_bd (M_sixes F (wI (left : Int))) _ = _
    rw [r_sixes (by omega) (by omega), z_bd_s, e4, z_bd_s]
  · obtain ⟨b1, b2, b3, b4, b5⟩ := p3
    have hs : ∀ f : Ob, sm (fun w => val f (lf S left w 1 m)) N = TW S 1 f (2 * sn S - m.1) m.1 m.2.1 (mD m) m.2.2.2 := fun f => by
      rw [hN, lf_sum hS left m 1 (by omega), Int.one_mul, hleft]
    exact ⟨b1.trans (wJ_c (hs _)), b2.trans (wJ_c (hs _)), b3.trans (wJ_c (hs _)), by rw [← hleft], fun t ht => (b4 t ht).trans (wJ_c (hs _)), fun t ht => (b5 t ht).trans (wJ_c (hs _))⟩
end ZWY

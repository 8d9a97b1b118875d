/-! ODDS: of the class, of the reference, the same numbers -/
def gON (S : St) (m : Mm) : Int := if mD m = 0 then 6 - mChance S m else mChance S m
def wNR (S : St) (m : Mm) : Nat := if mD m = 0 then 1 - sf S else sf S
noncomputable def fW (S : St) (s : Nat) : Ob := if s = 0 then fWA S else fWB S
noncomputable def oU (S : St) (m : Mm) (s : Nat) : Int :=
  if mOv S m = 1 then o01 (if s = 0 then 0 < mD m else mD m < 0)
  else if m.1 < 2 * sn S then TW S 1 (fW S s) (2 * sn S - m.1) m.1 m.2.1 (mD m) m.2.2.2 * lwS S + TW S 1 (fLV S) (2 * sn S - m.1) m.1 m.2.1 (mD m) m.2.2.2 * SU S s 0 (sn S)
  else if m.1 % 2 = 0 then SU S s (m.1 / 2 % sn S) (sn S)
  else gON S m * SU S s ((m.1 / 2 + 1) % sn S) (sn S) + (if wNR S m = s then (6 - gON S m) * lwS S else 0)
noncomputable def oL (S : St) (m : Mm) : Int :=
  if mOv S m = 1 then 1 else if m.1 < 2 * sn S then 6 ^ (2 * sn S - m.1) * lwS S else if m.1 % 2 = 0 then lwS S else 6 * lwS S
section ZOD
variable {S : St} {sh : Sh} {fc : Fc} {gl : Nat → Nat} {k F : Nat} {m : Mm} {row : MRow} {bx : Bx} {mo : Mo}
theorem mOv_b (S : St) (m : Mm) : mOv S m = 0 ∨ mOv S m = 1 := o01_b _
theorem mOv_1 (h : mOv S m = 1) : ovr S m.1 (mD m) m.2.2.2 := Classical.byContradiction (fun hn => by
  have h0 : mOv S m = 0 := o01_f hn
  omega)
theorem mOv_0 (h : mOv S m = 0) : ¬ ovr S m.1 (mD m) m.2.2.2 := fun ho => by
  have h1 : mOv S m = 1 := o01_t ho
  omega
theorem gON_b (S : St) (m : Mm) : 0 ≤ gON S m ∧ gON S m ≤ 6 := by
  have : 0 ≤ mChance S m ∧ mChance S m ≤ 6 := chn_b _ _ _ _
  unfold gON
  split <;> omega
theorem SU_le (hS : okS S) {s : Nat} (hs : s ≤ 1) (fr : Nat) : SU S s fr (sn S) ≤ lwS S := by
  have h1 := (lw_b hS).2.2 fr
  have h2 := SU_nn S 0 fr (sn S)
  have h3 := SU_nn S 1 fr (sn S)
  have : s = 0 ∨ s = 1 := by omega
  rcases this with h | h <;> rw [h] <;> omega
theorem p6_b : ∀ j : Nat, j < 11 → (6 : Int) ^ j ≤ 60466176 := by decide +kernel
theorem oU_b (hS : okS S) (m : Mm) {s : Nat} (hs : s ≤ 1) : 0 ≤ oU S m s ∧ oU S m s ≤ oL S m ∧ 0 < oL S m ∧ oL S m ≤ 3656158440062976 := by
  obtain ⟨l1, l2, l3⟩ := lw_b hS
  have hn5 := hS.2.1
  unfold oU oL
  rcases mOv_b S m with h | h
  · have hne : ¬ mOv S m = 1 := by omega
    rw [if_neg hne, if_neg hne]
    by_cases hk : m.1 < 2 * sn S
    · rw [if_pos hk, if_pos hk]
      have t := TW_3 (S := S) (gr := 1) (2 * sn S - m.1) m.1 m.2.1 (mD m) m.2.2.2
      have hp := p6 (2 * sn S - m.1)
      have hp2 := p6_b (2 * sn S - m.1) (by omega)
      have hw : 0 ≤ TW S 1 (fW S s) (2 * sn S - m.1) m.1 m.2.1 (mD m) m.2.2.2 ∧ TW S 1 (fW S s) (2 * sn S - m.1) m.1 m.2.1 (mD m) m.2.2.2 + TW S 1 (fLV S) (2 * sn S - m.1) m.1 m.2.1 (mD m) m.2.2.2 ≤ 6 ^ (2 * sn S - m.1) := by
        unfold fW
        split <;> omega
      have hv := t.2.2.1
      have u1 := SU_nn S s 0 (sn S)
      have u2 := SU_le hS hs 0
      generalize TW S 1 (fW S s) (2 * sn S - m.1) m.1 m.2.1 (mD m) m.2.2.2 = A at hw ⊢
      generalize TW S 1 (fLV S) (2 * sn S - m.1) m.1 m.2.1 (mD m) m.2.2.2 = B at hw hv ⊢
      generalize (6 : Int) ^ (2 * sn S - m.1) = P at hp hp2 hw ⊢
      have g1 := Int.mul_nonneg hw.1 (Int.le_of_lt l1)
      have g2 := Int.mul_nonneg hv u1
      have g3 := Int.mul_le_mul_of_nonneg_left u2 hv
      have g4 := Int.mul_le_mul_of_nonneg_right hw.2 (Int.le_of_lt l1)
      rw [Int.add_mul] at g4
      have g5 := Int.mul_pos hp l1
      have g6 := Int.mul_le_mul_of_nonneg_right hp2 (Int.le_of_lt l1)
      refine ⟨by omega, by omega, g5, by omega⟩
    · rw [if_neg hk, if_neg hk]
      by_cases he : m.1 % 2 = 0
      · rw [if_pos he, if_pos he]
        exact ⟨SU_nn _ _ _ _, SU_le hS hs _, l1, by omega⟩
      · rw [if_neg he, if_neg he]
        have hg := gON_b S m
        have u1 := SU_nn S s ((m.1 / 2 + 1) % sn S) (sn S)
        have u2 := SU_le hS hs ((m.1 / 2 + 1) % sn S)
        have g1 := Int.mul_nonneg hg.1 u1
        have g2 := Int.mul_le_mul_of_nonneg_left u2 hg.1
        have g3 := Int.mul_nonneg (show 0 ≤ 6 - gON S m by omega) (Int.le_of_lt l1)
        have g4 := Int.sub_mul 6 (gON S m) (lwS S)
        refine ⟨?_, ?_, by omega, by omega⟩
        · split <;> omega
        · split <;> omega
  · rw [if_pos h, if_pos h]
    exact ⟨o01_nn _, o01_le _, by decide, by decide⟩
theorem mAt_sud (hS : okS S) (gl : Nat → Nat) (hk : 2 * sn S ≤ k) : (mAt S gl k).2.2.2 = sf S := by
  have hn1 := hS.1
  have key : ∀ j, 2 * sn S ≤ j → j % 2 = 0 → (mAt S gl j).2.2.2 = sf S := fun j hj he => by
    obtain ⟨i, rfl⟩ : ∃ i, j = i + 1 := ⟨j - 1, by omega⟩
    show (if ((mAt S gl i).1 + 1) % 2 = 0 then ldr S (((mAt S gl i).1 + 1) / 2) _ _ else _) = sf S
    rw [mAt_k, if_pos he]
    exact if_pos (Or.inr (by omega))
  by_cases he : k % 2 = 0
  · exact key k hk he
  · obtain ⟨i, rfl⟩ : ∃ i, k = i + 1 := ⟨k - 1, by omega⟩
    rw [mAt_lo i (by omega)]
    exact key i (by omega) (by omega)
theorem LV_c {fr fr' : Nat} (h : ∀ i, (fr + i) % sn S = (fr' + i) % sn S) : ∀ i, LV S fr i = LV S fr' i
  | 0 => rfl
  | i + 1 => by
    show LV S fr i * qN S ((fr + i) % sn S) = LV S fr' i * qN S ((fr' + i) % sn S)
    rw [LV_c h i, h i]
theorem SU_c {s fr fr' : Nat} (h : ∀ i, (fr + i) % sn S = (fr' + i) % sn S) : ∀ i, SU S s fr i = SU S s fr' i
  | 0 => rfl
  | i + 1 => by
    show 36 * SU S s fr i + LV S fr i * qS S s ((fr + i) % sn S) = 36 * SU S s fr' i + LV S fr' i * qS S s ((fr' + i) % sn S)
    rw [SU_c h i, LV_c h i, h i]
theorem c_look (hF : 40 ≤ F) (hS : okS S) (hC : CS S sh) (hg : ∀ i, gl i ≤ 1) (hM : CM S gl k sh) (hk : k ≤ 61) (hcl : cln fc) : ∃ fc', Fc_look F fc sh = some fc' ∧ cln fc' ∧ fc_winsOfA fc' = wJ (oU S (mAt S gl k) 0) ∧ fc_winsOfB fc' = wJ (oU S (mAt S gl k) 1) ∧ fc_whole fc' = wJ (oL S (mAt S gl k)) := by
  have hn5 := hS.2.1
  have hn1 := hS.1
  have hf := hS.2.2.2.1
  have hO := c_isOver hS hC hg hM (by omega)
  have hle := c_lead hM
  have hDb := mD_b S hg k
  have hmk := mAt_k S gl k
  rcases mOv_b S (mAt S gl k) with h | h
  · have hne : ¬ mOv S (mAt S gl k) = 1 := by omega
    have ho := mOv_0 h
    rw [hmk] at ho
    by_cases hk2 : k < 2 * sn S
    · obtain ⟨f1, e1, cl1, la1, wa1, wb1, lv1, -, -⟩ := c_run (gr := 0) hF hS hC hg hM hk2 ho (by omega) (fun h => by omega) hcl
      obtain ⟨f2, e2, w1, w2, la2, wa2, wb2, lv2, eA, eB, eE⟩ := c_endless (F := F) (fr := 0) (by omega) hS hC (by omega) f1
      have hTA : TW S ((0 : Nat) : Int) (fWA S) (2 * sn S - k) k 0 (mD (mAt S gl k)) (mAt S gl k).2.2.2 = TW S 1 (fW S 0) (2 * sn S - k) k (mAt S gl k).2.1 (mD (mAt S gl k)) (mAt S gl k).2.2.2 := TW_ig (fun _ _ _ _ _ => rfl) _ _ _ _ _ _
      have hTB : TW S ((0 : Nat) : Int) (fWB S) (2 * sn S - k) k 0 (mD (mAt S gl k)) (mAt S gl k).2.2.2 = TW S 1 (fW S 1) (2 * sn S - k) k (mAt S gl k).2.1 (mD (mAt S gl k)) (mAt S gl k).2.2.2 := TW_ig (fun _ _ _ _ _ => rfl) _ _ _ _ _ _
      have hTL : TW S ((0 : Nat) : Int) (fLV S) (2 * sn S - k) k 0 (mD (mAt S gl k)) (mAt S gl k).2.2.2 = TW S 1 (fLV S) (2 * sn S - k) k (mAt S gl k).2.1 (mD (mAt S gl k)) (mAt S gl k).2.2.2 := TW_ig (fun _ _ _ _ _ => rfl) _ _ _ _ _ _
      have e6 : K_sixes (fc_last f2 - sh_kicks sh) = wJ (6 ^ (2 * sn S - k)) := by
        rw [la2, la1, hM.1, wI_sub, show ((2 * sn S : Nat) : Int) - k = ((2 * sn S - k : Nat) : Int) by omega]
        exact k_sixes _ (by omega)
      refine ⟨((fc_endWays f2), (fc_scoreWays f2), (fc_ways f2), (fc_waysBehind f2), (fc_grow f2), (fc_last f2), (fc_wonByA f2), (fc_wonByB f2), (fc_level f2), (fc_endlessA f2), (fc_endlessB f2), (fc_endless f2), ((fc_wonByA f2) * (fc_endless f2)) + ((fc_level f2) * (fc_endlessA f2)), ((fc_wonByB f2) * (fc_endless f2)) + ((fc_level f2) * (fc_endlessB f2)), (K_sixes ((fc_last f2) - (sh_kicks sh))) * (fc_endless f2)), ?_, ⟨fun c hc => ?_, fun c hc => ?_⟩, ?_, ?_, ?_⟩
      · unfold Fc_look
        rw [if_pos (by rw [hO, h]; rfl), hC.1, hM.1, if_neg (by rw [wI_2, wI_mul, wI_le (by omega) (by omega) (by omega) (by omega)]; omega)]
        have e1 : Fc_run F fc sh 0 = some f1 := e1
        have e2 : Fc_goEndless F f1 sh 0 = some f2 := e2
        rw [e1, z_bd_s, e2, z_bd_s, z_let_e, z_let_e, z_let_e]
      · show fc_ways f2 c = 0
        rw [w1]; exact cl1.1 c hc
      · show fc_waysBehind f2 c = 0
        rw [w2]; exact cl1.2 c hc
      · show ((fc_wonByA f2) * (fc_endless f2)) + ((fc_level f2) * (fc_endlessA f2)) = _
        rw [wa2, wa1, eE, lv2, lv1, eA, wJ_mul, wJ_mul, wJ_add, hTA, hTL]
        unfold oU
        rw [if_neg hne, hmk, if_pos hk2]
      · show ((fc_wonByB f2) * (fc_endless f2)) + ((fc_level f2) * (fc_endlessB f2)) = _
        rw [wb2, wb1, eE, lv2, lv1, eB, wJ_mul, wJ_mul, wJ_add, hTB, hTL]
        unfold oU
        rw [if_neg hne, hmk, if_pos hk2]
      · show (K_sixes ((fc_last f2) - (sh_kicks sh))) * (fc_endless f2) = _
        rw [e6, eE, wJ_mul]
        unfold oL
        rw [if_neg hne, hmk, if_pos hk2]
    · have hsh := c_shooter hS hC hM (by omega)
      have hlt : k / 2 % sn S < sn S := Nat.mod_lt _ hn1
      have hl0 : Fc_look F fc sh = z_bd (Fc_lookSudden F fc sh) (fun u3 : Fc => some u3) := by
        unfold Fc_look
        rw [if_pos (by rw [hO, h]; rfl), hC.1, hM.1, if_pos (by rw [wI_2, wI_mul, wI_le (by omega) (by omega) (by omega) (by omega)]; omega)]
      by_cases he : k % 2 = 0
      · have hv1 : (if z_rem (sh_kicks sh) 2 = 1 then (1 : Int32) else 0) = 0 := by
          rw [hM.1, wI_2, wI_rem (by omega) (by omega) (by omega) (by omega), wI_1]
          exact if_neg (by rw [wI_eq (by omega) (by omega) (by omega) (by omega)]; omega)
        obtain ⟨x, hx⟩ : ∃ x, x = k / 2 % sn S := ⟨_, rfl⟩
        rw [← hx] at hlt hsh
        obtain ⟨f2, e2, w1, w2, la2, wa2, wb2, lv2, eA, eB, eE⟩ := c_endless (F := F) (fr := x) (by omega) hS hC (by omega) fc
        have ea : Sh_shooter sh + (if (0 : Int32) = 0 then (0 : Int32) else 1) = wI (x : Int) := by
          rw [hsh, if_pos rfl, wI_0, wI_add]
          exact wI_c (by omega)
        refine ⟨((fc_endWays f2), (fc_scoreWays f2), (fc_ways f2), (fc_waysBehind f2), (fc_grow f2), (fc_last f2), (fc_wonByA f2), (fc_wonByB f2), (fc_level f2), (fc_endlessA f2), (fc_endlessB f2), (fc_endless f2), fc_endlessA f2, fc_endlessB f2, fc_endless f2), ?_, ⟨fun c hc => ?_, fun c hc => ?_⟩, ?_, ?_, ?_⟩
        · rw [hl0]
          unfold Fc_lookSudden
          rw [hv1, z_let_e, z_let_e, ea, e2, z_bd_s, z_let_e, z_let_e, z_let_e, if_pos rfl, z_bd_s]
        · show fc_ways f2 c = 0
          rw [w1]; exact hcl.1 c hc
        · show fc_waysBehind f2 c = 0
          rw [w2]; exact hcl.2 c hc
        · show fc_endlessA f2 = _
          rw [eA]
          unfold oU
          rw [if_neg hne, hmk, if_neg hk2, if_pos he, ← hx]
        · show fc_endlessB f2 = _
          rw [eB]
          unfold oU
          rw [if_neg hne, hmk, if_neg hk2, if_pos he, ← hx]
        · show fc_endless f2 = _
          rw [eE]
          unfold oL
          rw [if_neg hne, hmk, if_neg hk2, if_pos he]
      · have hv1 : (if z_rem (sh_kicks sh) 2 = 1 then (1 : Int32) else 0) = 1 := by
          rw [hM.1, wI_2, wI_rem (by omega) (by omega) (by omega) (by omega), wI_1]
          exact if_pos (by rw [wI_eq (by omega) (by omega) (by omega) (by omega)]; omega)
        have hSU : ∀ s, SU S s (k / 2 % sn S + 1) (sn S) = SU S s ((k / 2 + 1) % sn S) (sn S) := fun s => SU_c (fun i => by
          rw [Nat.mod_add_mod, Nat.add_assoc, Nat.mod_add_mod, ← Nat.add_assoc]) _
        obtain ⟨x, hx⟩ : ∃ x, x = k / 2 % sn S := ⟨_, rfl⟩
        rw [← hx] at hlt hsh hSU
        obtain ⟨f2, e2, w1, w2, la2, wa2, wb2, lv2, eA, eB, eE⟩ := c_endless (F := F) (fr := x + 1) (by omega) hS hC (by omega) fc
        have ea : Sh_shooter sh + (if (1 : Int32) = 0 then (0 : Int32) else 1) = wI ((x + 1 : Nat) : Int) := by
          rw [hsh, if_neg (by decide), wI_1, wI_add]
          rfl
        have hld := mAt_sud (k := k) hS gl (by omega)
        have hkr : Sh_kicker sh = wI ((1 - sf S : Nat) : Int) := by
          rw [c_kicker hS hC hg hM (by omega)]
          unfold tnA mTurn
          rw [hmk, if_neg he, hld]
        have hcc := c_chance hS hC hg hM (by omega)
        have hcb : 0 ≤ mChance S (mAt S gl k) ∧ mChance S (mAt S gl k) ≤ 6 := chn_b _ _ _ _
        have hgb := gON_b S (mAt S gl k)
        have hv20 : (if (if Sh_lead sh = 0 then (0 : Int32) else 1) = 0 then (6 - Sh_chance sh) else Sh_chance sh) = wI (gON S (mAt S gl k)) := by
          rw [hcc, hle]
          unfold gON
          by_cases hd : mD (mAt S gl k) = 0
          · rw [if_pos hd, if_pos (show wI (mD (mAt S gl k)) = 0 by rw [hd]; rfl), if_pos rfl, wI_6, wI_sub]
          · rw [if_neg hd, if_neg (show ¬ wI (mD (mAt S gl k)) = 0 by rw [wI_0, wI_eq (by omega) (by omega) (by omega) (by omega)]; exact hd), if_neg (by decide)]
        have hv24 : (if (if Sh_lead sh = 0 then (0 : Int32) else 1) = 0 then Sh_kicker sh else 1 - Sh_kicker sh) = wI ((wNR S (mAt S gl k) : Nat) : Int) := by
          rw [hkr, hle]
          unfold wNR
          by_cases hd : mD (mAt S gl k) = 0
          · rw [if_pos hd, if_pos (show wI (mD (mAt S gl k)) = 0 by rw [hd]; rfl), if_pos rfl]
          · rw [if_neg hd, if_neg (show ¬ wI (mD (mAt S gl k)) = 0 by rw [wI_0, wI_eq (by omega) (by omega) (by omega) (by omega)]; exact hd), if_neg (by decide), wI_1, wI_sub]
            exact wI_c (by omega)
        have hwn : wNR S (mAt S gl k) ≤ 1 := by unfold wNR; split <;> omega
        have hs0 : (if wI ((wNR S (mAt S gl k) : Nat) : Int) = 0 then ((6 - wI (gON S (mAt S gl k))).toInt64) * (fc_endless f2) else 0) = wJ (if wNR S (mAt S gl k) = 0 then (6 - gON S (mAt S gl k)) * lwS S else 0) := by
          rw [wI_6, wI_sub, wI_l (by omega) (by omega), eE, wJ_mul, wI_0]
          by_cases hw : wNR S (mAt S gl k) = 0
          · rw [if_pos hw, if_pos (by rw [hw]; rfl)]
          · rw [if_neg hw, if_neg (by rw [wI_eq (by omega) (by omega) (by omega) (by omega)]; omega)]
            rfl
        have hs1 : (if wI ((wNR S (mAt S gl k) : Nat) : Int) = 1 then ((6 - wI (gON S (mAt S gl k))).toInt64) * (fc_endless f2) else 0) = wJ (if wNR S (mAt S gl k) = 1 then (6 - gON S (mAt S gl k)) * lwS S else 0) := by
          rw [wI_6, wI_sub, wI_l (by omega) (by omega), eE, wJ_mul, wI_1]
          by_cases hw : wNR S (mAt S gl k) = 1
          · rw [if_pos hw, if_pos (by rw [hw]; rfl)]
          · rw [if_neg hw, if_neg (by rw [wI_eq (by omega) (by omega) (by omega) (by omega)]; omega)]
            rfl
        refine ⟨((fc_endWays f2), (fc_scoreWays f2), (fc_ways f2), (fc_waysBehind f2), (fc_grow f2), (fc_last f2), (fc_wonByA f2), (fc_wonByB f2), (fc_level f2), (fc_endlessA f2), (fc_endlessB f2), (fc_endless f2), wJ (oU S (mAt S gl k) 0), wJ (oU S (mAt S gl k) 1), wJ (oL S (mAt S gl k))), ?_, ⟨fun c hc => ?_, fun c hc => ?_⟩, rfl, rfl, rfl⟩
        · have u0 : oU S (mAt S gl k) 0 = gON S (mAt S gl k) * SU S 0 ((k / 2 + 1) % sn S) (sn S) + (if wNR S (mAt S gl k) = 0 then (6 - gON S (mAt S gl k)) * lwS S else 0) := by
            unfold oU
            rw [if_neg hne, hmk, if_neg hk2, if_neg he]
          have u1 : oU S (mAt S gl k) 1 = gON S (mAt S gl k) * SU S 1 ((k / 2 + 1) % sn S) (sn S) + (if wNR S (mAt S gl k) = 1 then (6 - gON S (mAt S gl k)) * lwS S else 0) := by
            unfold oU
            rw [if_neg hne, hmk, if_neg hk2, if_neg he]
          have u2 : oL S (mAt S gl k) = 6 * lwS S := by
            unfold oL
            rw [if_neg hne, hmk, if_neg hk2, if_neg he]
          rw [hl0]
          unfold Fc_lookSudden
          rw [hv1, z_let_e, z_let_e, ea, e2, z_bd_s, z_let_e, z_let_e, z_let_e, if_neg (by decide)]
          simp only [z_let_e, hv20, hv24, hs0, hs1]
          rw [z_bd_s, wI_l (by omega) (by omega), eA, eB, eE, wJ_mul, wJ_mul, wJ_add, wJ_add, wJ_6, wJ_mul, hSU, hSU, u0, u1, u2]
        · show fc_ways f2 c = 0
          rw [w1]; exact hcl.1 c hc
        · show fc_waysBehind f2 c = 0
          rw [w2]; exact hcl.2 c hc
  · have ho := mOv_1 h
    have hd := ovr_ne hS (mAt_l hS gl k) ho
    have hw : (if Sh_winner sh = 0 then (1 : Int64) else 0) = wJ (o01 (0 < mD (mAt S gl k))) := by
      have hwn : Sh_winner sh = if wI (mD (mAt S gl k)) ≤ 0 then 1 else 0 := by
        unfold Sh_winner
        rw [hO, h, hle]
        exact if_neg (by decide)
      rw [hwn]
      by_cases hp : 0 < mD (mAt S gl k)
      · rw [if_neg (show ¬ wI (mD (mAt S gl k)) ≤ 0 by rw [wI_0, wI_le (by omega) (by omega) (by omega) (by omega)]; omega), if_pos rfl, o01_t hp]; rfl
      · rw [if_pos (show wI (mD (mAt S gl k)) ≤ 0 by rw [wI_0, wI_le (by omega) (by omega) (by omega) (by omega)]; omega), if_neg (by decide), o01_f hp]; rfl
    have hw2 : 1 - wJ (o01 (0 < mD (mAt S gl k))) = wJ (o01 (mD (mAt S gl k) < 0)) := by
      by_cases hp : 0 < mD (mAt S gl k)
      · rw [o01_t hp, o01_f (by omega)]; rfl
      · rw [o01_f hp, o01_t (by omega)]; rfl
    refine ⟨((fc_endWays fc), (fc_scoreWays fc), (fc_ways fc), (fc_waysBehind fc), (fc_grow fc), (fc_last fc), (fc_wonByA fc), (fc_wonByB fc), (fc_level fc), (fc_endlessA fc), (fc_endlessB fc), (fc_endless fc), wJ (o01 (0 < mD (mAt S gl k))), wJ (o01 (mD (mAt S gl k) < 0)), 1), ?_, hcl, ?_, ?_, ?_⟩
    · unfold Fc_look
      rw [if_neg (by rw [hO, h]; decide), z_let_e, z_let_e, hw, hw2]
    · unfold oU
      rw [if_pos h]
      rfl
    · unfold oU
      rw [if_pos h]
      rfl
    · unfold oL
      rw [if_pos h]
      rfl
theorem r_odds (hF : 1100 ≤ F) (hS : okS S) (hR : RS S row bx) (hM : RM S m mo) (hm : okM m) (hk : m.1 ≤ 61) {s : Nat} (hs : s ≤ 1) (su : Su) (wy : Wy) (wa : Wa) : ∃ mo' su' wy' wa', M_layOdds F row bx mo su wy wa (wI s) = some (mo', su', wy', wa', (wJ (oU S m s), wJ (oL S m))) ∧ RM S m mo' := by
  have hn5 := hS.2.1
  have hn1 := hS.1
  have hf := hS.2.2.2.1
  have hO := hM.2.2.2.2.2.2
  have hkk := hM.2.2.2.2.1
  have hab := okM_ab hm
  have hDb : -61 ≤ mD m ∧ mD m ≤ 61 := by unfold mD; omega
  rcases mOv_b S m with h | h
  · have hne : ¬ mOv S m = 1 := by omega
    have ho := mOv_0 h
    obtain ⟨su', es, hlo, hsu⟩ := r_sud (F := F) (by omega) hS hR su
    by_cases hk2 : m.1 < 2 * sn S
    · obtain ⟨mo', wy', wa', e, hM', t1, t2, t3, t4, t5, t6⟩ := r_layWays hF hS hR hM hm (by omega) wy wa
      refine ⟨mo', su', wy', wa', ?_, hM'⟩
      have hw : wy_winWays wy' s = wJ (TW S 1 (fW S s) (2 * sn S - m.1) m.1 m.2.1 (mD m) m.2.2.2) := by
        have : s = 0 ∨ s = 1 := by omega
        rcases this with q | q
        · rw [q]; exact t1
        · rw [q]; exact t2
      unfold M_layOdds
      rw [if_pos (by rw [hO, h]; rfl), es, z_bd_s, show M_n row = wI (sn S) from hR.1, z_let_e, hkk, if_neg (by rw [wI_2, wI_mul, wI_le (by omega) (by omega) (by omega) (by omega)]; omega), e, z_bd_s, z_gd_e (wI_in (by omega) (by omega) (by omega)), wI_5, wI_mul, z_gd_e (wI_in (by omega) (by omega) (by omega)), wI_ix (by omega), wI_nat (by omega) (by omega), show (5 * (s : Int)).toNat = 5 * s + 0 by omega, hsu s 0 hs (by omega), z_let_e, z_let_e]
      show some (mo', su', wy', wa', (_, _)) = _
      rw [hw, t3, t4, hlo, wJ_mul, wJ_mul, wJ_add, wJ_mul]
      unfold oU oL
      rw [if_neg hne, if_neg hne, if_pos hk2, if_pos hk2]
    · by_cases he : m.1 % 2 = 0
      · refine ⟨mo, su', wy, wa, ?_, hM⟩
        have hlt : m.1 / 2 % sn S < sn S := Nat.mod_lt _ hn1
        obtain ⟨x, hx⟩ : ∃ x, x = m.1 / 2 % sn S := ⟨_, rfl⟩
        have hrem : z_rem (wI (m.1 : Int) / wI 2) (wI (sn S : Int)) = wI (x : Int) := by
          rw [wI_div (by omega) (by omega) (by omega) (by omega), wI_rem (by omega) (by omega) (by omega) (by omega), hx]
          exact wI_c (by rw [Int.natCast_emod, Int.natCast_ediv]; rfl)
        rw [← hx] at hlt
        unfold M_layOdds
        rw [if_pos (by rw [hO, h]; rfl), es, z_bd_s, show M_n row = wI (sn S) from hR.1, z_let_e, hkk, if_pos (by rw [wI_2, wI_mul, wI_le (by omega) (by omega) (by omega) (by omega)]; omega), if_pos (by rw [wI_2, wI_0, wI_rem (by omega) (by omega) (by omega) (by omega), wI_eq (by omega) (by omega) (by omega) (by omega)]; omega), z_gd_e (wI_nz (by omega) (by omega)), wI_2, hrem, wI_5, wI_mul, wI_add, z_gd_e (wI_in (by omega) (by omega) (by omega)), wI_nat (by omega) (by omega), show (5 * (s : Int) + x).toNat = 5 * s + x by omega, hsu s x hs hlt, z_let_e, z_let_e, hlo]
        unfold oU oL
        rw [if_neg hne, if_neg hne, if_neg hk2, if_neg hk2, if_pos he, if_pos he, ← hx]
      · refine ⟨mo, su', wy, wa, ?_, hM⟩
        have hlt : (m.1 / 2 + 1) % sn S < sn S := Nat.mod_lt _ hn1
        obtain ⟨x, hx⟩ : ∃ x, x = (m.1 / 2 + 1) % sn S := ⟨_, rfl⟩
        have hrem : z_rem (wI (m.1 : Int) / wI 2 + wI 1) (wI (sn S : Int)) = wI (x : Int) := by
          rw [wI_div (by omega) (by omega) (by omega) (by omega), wI_add, wI_rem (by omega) (by omega) (by omega) (by omega), hx]
          exact wI_c (by rw [Int.natCast_emod, Int.natCast_add, Int.natCast_ediv]; rfl)
        rw [← hx] at hlt
        have hcc := r_chance hS hR hM hm (by omega)
        have hcb : 0 ≤ mChance S m ∧ mChance S m ≤ 6 := chn_b _ _ _ _
        have hgb := gON_b S m
        have hgg : (mo_goals mo 0 = mo_goals mo 1) ↔ mD m = 0 := by
          rw [hM.1, hM.2.1, wI_eq (by omega) (by omega) (by omega) (by omega)]
          unfold mD
          omega
        have hv18 : (if (if mo_goals mo 0 = mo_goals mo 1 then (0 : Int32) else 1) = 0 then (6 - wI (mChance S m)) else wI (mChance S m)) = wI (gON S m) := by
          unfold gON
          by_cases hd : mD m = 0
          · rw [if_pos hd, if_pos (hgg.mpr hd), if_pos rfl, wI_6, wI_sub]
          · rw [if_neg hd, if_neg (fun h' => hd (hgg.mp h')), if_neg (by decide)]
        have hv14 : (if (if mo_goals mo 0 = mo_goals mo 1 then (0 : Int32) else 1) = 0 then (1 - bx_byFirst bx) else bx_byFirst bx) = wI ((wNR S m : Nat) : Int) := by
          rw [hR.2.2.1]
          unfold wNR
          by_cases hd : mD m = 0
          · rw [if_pos hd, if_pos (hgg.mpr hd), if_pos rfl, wI_1, wI_sub]
            exact wI_c (by omega)
          · rw [if_neg hd, if_neg (fun h' => hd (hgg.mp h')), if_neg (by decide)]
        have hwn : wNR S m ≤ 1 := by unfold wNR; split <;> omega
        have hs0 : (if wI ((wNR S m : Nat) : Int) = wI (s : Int) then ((6 - wI (gON S m)).toInt64) * (su_lower su') else 0) = wJ (if wNR S m = s then (6 - gON S m) * lwS S else 0) := by
          rw [wI_6, wI_sub, wI_l (by omega) (by omega), hlo, wJ_mul]
          by_cases hw : wNR S m = s
          · rw [if_pos hw, if_pos (by rw [hw])]
          · rw [if_neg hw, if_neg (by rw [wI_eq (by omega) (by omega) (by omega) (by omega)]; omega)]
            rfl
        unfold M_layOdds
        rw [if_pos (by rw [hO, h]; rfl), es, z_bd_s, show M_n row = wI (sn S) from hR.1, z_let_e, hkk, if_pos (by rw [wI_2, wI_mul, wI_le (by omega) (by omega) (by omega) (by omega)]; omega), if_neg (by rw [wI_2, wI_0, wI_rem (by omega) (by omega) (by omega) (by omega), wI_eq (by omega) (by omega) (by omega) (by omega)]; omega), z_gd_e (wI_nz (by omega) (by omega))]
        simp only [z_let_e, hcc, z_bd_s, hv18, hv14, hs0]
        rw [wI_2, wI_1, hrem, wI_5, wI_mul, wI_add, z_gd_e (wI_in (by omega) (by omega) (by omega)), wI_nat (by omega) (by omega), show (5 * (s : Int) + x).toNat = 5 * s + x by omega, hsu s x hs hlt, wI_l (by omega) (by omega), hlo, wJ_mul, wJ_add, wJ_6, wJ_mul]
        unfold oU oL
        rw [if_neg hne, if_neg hne, if_neg hk2, if_neg hk2, if_neg he, if_neg he, ← hx]
  · have ho := mOv_1 h
    have hd := ovr_ne hS hm.2.2 ho
    refine ⟨mo, su, wy, wa, ?_, hM⟩
    unfold M_layOdds
    rw [if_neg (by rw [hO, h]; decide), z_let_e, r_ahead hM hm (by omega)]
    have e : (if wI (if 0 < mD m then 0 else if mD m < 0 then 1 else -1) = wI (s : Int) then (1 : Int64) else 0) = wJ (oU S m s) := by
      unfold oU
      rw [if_pos h]
      have : s = 0 ∨ s = 1 := by omega
      by_cases hp : 0 < mD m
      · rw [if_pos hp]
        rcases this with q | q
        · rw [q, if_pos (by decide), if_pos rfl, o01_t hp]; rfl
        · rw [q, if_neg (by decide), if_neg (by decide), o01_f (by omega)]; rfl
      · rw [if_neg hp, if_pos (show mD m < 0 by omega)]
        rcases this with q | q
        · rw [q, if_neg (by decide), if_pos rfl, o01_f hp]; rfl
        · rw [q, if_pos (by decide), if_neg (by decide), o01_t (by omega)]; rfl
    rw [e]
    unfold oL
    rw [if_pos h]
    rfl
end ZOD

/-! SMALL ASKS -/
section ZSA
variable {p : Po} {now : Sh} {row : MRow} {F : Nat}
theorem q_side (hF : 1100 ≤ F) (hp : okP p ∨ p = p00) (hc : cP p now) (hm : mP p row) (bx : Bx) (mo : Mo) (x y : Int32) : ∃ bx' mo', M_side F row bx mo x y = some (K_side now x y, 0, bx', mo') := by
  obtain ⟨a, rfl, a1, a2⟩ := wI_of x
  obtain ⟨b, rfl, b1, b2⟩ := wI_of y
  rcases hp with hp | rfl
  · obtain ⟨hS, hg, hk⟩ := hp
    have hp : okP p := ⟨hS, hg, hk⟩
    have hn1 := hS.1
    have hn5 := hS.2.1
    by_cases q1 : 0 ≤ a ∧ a ≤ 1
    · have n1 : ¬ K_isSideTold now (wI a) = 0 := fun h => (t_sd hp hc a1 a2).mp h q1
      have n2 : ¬ M_isThere row (wI a) = 0 := fun h => (t_th hp hm a1 a2).mp h q1
      obtain ⟨s, rfl⟩ : ∃ s : Nat, a = s := ⟨a.toNat, by omega⟩
      have hz : (M_in (wI b).toInt64 10 (9 + ((M_n row).toInt64)) = 0) ↔ ¬ (10 ≤ b ∧ b ≤ 9 + (sn p.1 : Int)) := by
        have e : 9 + ((M_n row).toInt64) = wJ (9 + (sn p.1 : Int)) := by
          unfold M_n
          rw [hm.1, wI_l (by omega) (by omega), wJ_9, wJ_add]
        rw [e]
        exact in_z (lo := 10) (hi := 9 + (sn p.1 : Int)) b1 b2 (by omega) (by omega) (by omega) (by omega)
      have hs0 : ∀ t : Int, -2147483648 ≤ t → t < 2147483648 → ((wI b = wI t) ↔ b = t) := fun t h1 h2 => wI_eq b1 b2 h1 h2
      by_cases q2 : 10 ≤ b ∧ b ≤ 9 + (sn p.1 : Int)
      · refine ⟨bx, mo, ?_⟩
        have hK : K_side now (wI s) (wI b) = wI (sk p.1 (5 * s + (b - 10).toNat)) := by
          unfold K_side
          rw [if_neg n1, wI_0, wI_1, wI_2, wI_3, if_neg (by rw [hs0 _ (by omega) (by omega)]; omega), if_neg (by rw [hs0 _ (by omega) (by omega)]; omega), if_neg (by rw [hs0 _ (by omega) (by omega)]; omega), if_neg (by rw [hs0 _ (by omega) (by omega)]; omega), if_neg (by rw [wI_10, wI_lt (by omega) (by omega) (by omega) (by omega)]; omega), hc.1.1, if_neg (by rw [wI_10, wI_add, wI_le (by omega) (by omega) (by omega) (by omega)]; omega), wI_10, wI_sub, show b - 10 = (((b - 10).toNat : Nat) : Int) by omega, c_skillOf hc.1 (by omega) (by omega)]
          rfl
        rw [hK]
        unfold M_side
        rw [if_neg n2, if_neg (fun h => hz.mp h q2), wI_8, wI_5, wI_mul, wI_add, wI_add, wI_10, wI_sub, z_gd_e (wI_in (by omega) (by omega) (by omega)), wI_nat (by omega) (by omega), show (8 + 5 * (s : Int) + b - 10).toNat = 8 + (5 * s + (b - 10).toNat) by omega, hm.2.2.2.2.2.1 _ (by omega)]
      · obtain ⟨bx1, mo1, e1, hR, hM⟩ := r_now (F := F) (by omega) hS hg hm hk bx mo
        refine ⟨bx1, mo1, ?_⟩
        unfold M_side K_side
        rw [if_neg n2, if_neg n1, if_pos (hz.mpr q2), e1, z_bd_s, wI_0, wI_1, wI_2, wI_3]
        by_cases c0 : b = 0
        · rw [if_pos ((hs0 _ (by omega) (by omega)).mpr c0), if_pos ((hs0 _ (by omega) (by omega)).mpr c0), wI_4, wI_add, z_gd_e (wI_in (by omega) (by omega) (by omega)), wI_nat (by omega) (by omega), show (4 + (s : Int)).toNat = 4 + s by omega, hm.2.2.2.2.1 s (by omega), show wI 0 = wI ((0 : Nat) : Int) from rfl, c_nerveOf hc.1 (by omega) (by omega), show 2 * 0 + s = s by omega]
        · rw [if_neg (fun h => c0 ((hs0 _ (by omega) (by omega)).mp h)), if_neg (fun h => c0 ((hs0 _ (by omega) (by omega)).mp h))]
          by_cases c1 : b = 1
          · rw [if_pos ((hs0 _ (by omega) (by omega)).mpr c1), if_pos ((hs0 _ (by omega) (by omega)).mpr c1), wI_6, wI_add, z_gd_e (wI_in (by omega) (by omega) (by omega)), wI_nat (by omega) (by omega), show (6 + (s : Int)).toNat = 4 + (2 + s) by omega, hm.2.2.2.2.1 (2 + s) (by omega), show wI 1 = wI ((1 : Nat) : Int) from rfl, c_nerveOf hc.1 (by omega) (by omega), show 2 * 1 + s = 2 + s by omega]
          · rw [if_neg (fun h => c1 ((hs0 _ (by omega) (by omega)).mp h)), if_neg (fun h => c1 ((hs0 _ (by omega) (by omega)).mp h))]
            have hs2 : s = 0 ∨ s = 1 := by omega
            by_cases c2 : b = 2
            · rw [if_pos ((hs0 _ (by omega) (by omega)).mpr c2), if_pos ((hs0 _ (by omega) (by omega)).mpr c2), z_gd_e (wI_in (by omega) (by omega) (by omega)), wI_ix (by omega)]
              unfold Sh_goalsOf
              rcases hs2 with h | h
              · rw [h, if_pos (by decide), hc.2.2.2.2.1]
                show some (mo_goals mo1 0, _) = _
                rw [hM.1]
              · rw [h, if_neg (by decide), hc.2.2.2.2.2]
                show some (mo_goals mo1 1, _) = _
                rw [hM.2.1]
            · rw [if_neg (fun h => c2 ((hs0 _ (by omega) (by omega)).mp h)), if_neg (fun h => c2 ((hs0 _ (by omega) (by omega)).mp h))]
              by_cases c3 : b = 3
              · rw [if_pos ((hs0 _ (by omega) (by omega)).mpr c3), if_pos ((hs0 _ (by omega) (by omega)).mpr c3), z_gd_e (wI_in (by omega) (by omega) (by omega)), wI_ix (by omega), c_kicksOf hS hc.2 (by omega) (by omega)]
                have hlb := mAt_l hS p.2.1 p.2.2
                have h2 := hM.2.2.1
                have h3 := hM.2.2.2.1
                rw [mAt_k] at h2 h3
                rcases hs2 with h | h
                · rw [h, if_pos rfl]
                  show some (mo_kicked mo1 0, _) = _
                  rw [h2, show p.2.2 + 1 - (mAt p.1 p.2.1 p.2.2).2.2.2 = p.2.2 + (1 - (mAt p.1 p.2.1 p.2.2).2.2.2) by omega]
                · rw [h, if_neg (by decide)]
                  show some (mo_kicked mo1 1, _) = _
                  rw [h3]
              · rw [if_neg (fun h => c3 ((hs0 _ (by omega) (by omega)).mp h)), if_neg (fun h => c3 ((hs0 _ (by omega) (by omega)).mp h)), hc.1.1]
                by_cases c4 : b < 10
                · rw [if_pos (by rw [wI_10, wI_lt (by omega) (by omega) (by omega) (by omega)]; omega)]
                · rw [if_neg (by rw [wI_10, wI_lt (by omega) (by omega) (by omega) (by omega)]; omega), if_pos (by rw [wI_10, wI_add, wI_le (by omega) (by omega) (by omega) (by omega)]; omega)]
    · refine ⟨bx, mo, ?_⟩
      unfold M_side K_side
      rw [if_pos ((t_sd hp hc a1 a2).mpr q1), if_pos ((t_th hp hm a1 a2).mpr q1)]
  · refine ⟨bx, mo, ?_⟩
    unfold M_side K_side
    rw [if_pos (u_sd hc _), if_pos (u_th hm _)]
theorem q_turn (hF : 1100 ≤ F) (hp : okP p ∨ p = p00) (hc : cP p now) (hm : mP p row) (bx : Bx) (mo : Mo) (x : Int32) : ∃ bx' mo', M_turn F row bx mo x = some (K_turn now x, 0, bx', mo') := by
  obtain ⟨b, rfl, b1, b2⟩ := wI_of x
  rcases hp with hp | rfl
  · obtain ⟨hS, hg, hk⟩ := hp
    have hp : okP p := ⟨hS, hg, hk⟩
    have hz : (M_in (wI b).toInt64 0 3 = 0) ↔ ¬ (0 ≤ b ∧ b ≤ 3) := in_z (lo := 0) (hi := 3) b1 b2 (by omega) (by omega) (by omega) (by omega)
    by_cases q : 0 ≤ b ∧ b ≤ 3
    · obtain ⟨bx1, mo1, e1, hR, hM⟩ := r_now (F := F) (by omega) hS hg hm hk bx mo
      have hO := c_isOver hS hc.1 hg hc.2 (by omega)
      have hO2 := hM.2.2.2.2.2.2
      have hK2 := hM.2.2.2.2.1
      rw [mAt_k] at hK2
      have hok := okM_at hS hg p.2.2
      have hmk := mAt_k p.1 p.2.1 p.2.2
      refine ⟨bx1, mo1, ?_⟩
      unfold M_turn K_turn
      rw [if_neg (t_row hp hm), if_neg (fun h => hz.mp h q), e1, z_bd_s, if_neg (t_now hp hc).1, if_neg (show ¬ wI b < 0 by rw [wI_0, wI_lt (by omega) (by omega) (by omega) (by omega)]; omega), if_pos (show wI b ≤ 3 by rw [wI_3, wI_le (by omega) (by omega) (by omega) (by omega)]; omega), hO]
      dsimp only
      rw [hO2]
      rcases mOv_b p.1 (mAt p.1 p.2.1 p.2.2) with h | h
      · rw [h, if_pos (show wI 0 = 0 from rfl), if_pos (show wI 0 = 0 from rfl)]
        by_cases c0 : wI b = 0
        · rw [if_pos c0, if_pos c0, c_kicker hS hc.1 hg hc.2 (by omega), r_turn hM hok (by omega)]
          rfl
        · rw [if_neg c0, if_neg c0]
          by_cases c1 : wI b = 1
          · rw [if_pos c1, if_pos c1]
            unfold Sh_round
            rw [hc.2.1, hK2]
          · rw [if_neg c1, if_neg c1]
            by_cases c2 : wI b = 2
            · rw [if_pos c2, if_pos c2, c_shooter hS hc.1 hc.2 (by omega), r_shooter hS hR hM (by omega), z_bd_s, hmk]
            · rw [if_neg c2, if_neg c2, c_chance hS hc.1 hg hc.2 (by omega), r_chance hS hR hM hok (by omega), z_bd_s]
      · rw [h, if_neg (show ¬ wI 1 = 0 by decide), if_neg (show ¬ wI 1 = 0 by decide)]
    · refine ⟨bx, mo, ?_⟩
      unfold M_turn K_turn
      rw [if_neg (t_row hp hm), if_pos (hz.mpr q), if_neg (t_now hp hc).1]
      by_cases h : b < 0
      · rw [if_pos (by rw [wI_0, wI_lt (by omega) (by omega) (by omega) (by omega)]; omega)]
      · rw [if_neg (by rw [wI_0, wI_lt (by omega) (by omega) (by omega) (by omega)]; omega), if_neg (by rw [wI_3, wI_le (by omega) (by omega) (by omega) (by omega)]; omega)]
  · refine ⟨bx, mo, ?_⟩
    unfold M_turn K_turn
    rw [if_pos (u_now hc), if_pos (u_row hm)]
theorem q_needs (hF : 1100 ≤ F) (hp : okP p ∨ p = p00) (hc : cP p now) (hm : mP p row) (bx : Bx) (mo : Mo) (x : Int32) : ∃ bx' mo', M_needs F row bx mo x = some (K_needs now x, 0, bx', mo') := by
  obtain ⟨a, rfl, a1, a2⟩ := wI_of x
  rcases hp with hp | rfl
  · obtain ⟨hS, hg, hk⟩ := hp
    have hp : okP p := ⟨hS, hg, hk⟩
    have hn1 := hS.1
    have hn5 := hS.2.1
    by_cases q1 : 0 ≤ a ∧ a ≤ 1
    · have n1 : ¬ K_isSideTold now (wI a) = 0 := fun h => (t_sd hp hc a1 a2).mp h q1
      have n2 : ¬ M_isThere row (wI a) = 0 := fun h => (t_th hp hm a1 a2).mp h q1
      obtain ⟨s, rfl⟩ : ∃ s : Nat, a = s := ⟨a.toNat, by omega⟩
      obtain ⟨bx1, mo1, e1, hR, hM⟩ := r_now (F := F) (by omega) hS hg hm hk bx mo
      have hO := c_isOver hS hc.1 hg hc.2 (by omega)
      have hok := okM_at hS hg p.2.2
      have hmk := mAt_k p.1 p.2.1 p.2.2
      refine ⟨bx1, mo1, ?_⟩
      rcases mOv_b p.1 (mAt p.1 p.2.1 p.2.2) with h | h
      · by_cases hk2 : p.2.2 < 2 * sn p.1
        · have ho := mOv_0 h
          obtain ⟨m0, m1, m2, m3, m4, m5, m6⟩ := hM
          have k0 := c_kicksOf (s := 0) hS hc.2 (by omega) (by omega)
          have k1 := c_kicksOf (s := 1) hS hc.2 (by omega) (by omega)
          rw [if_pos rfl] at k0
          rw [if_neg (by decide)] at k1
          obtain ⟨h1, h2, h3⟩ := hok
          rw [hmk] at h1 h2 ho m2 m3 m4
          have g0 := hc.2.2.2.2.1
          have g1 := hc.2.2.2.2.2
          unfold mD at ho
          unfold ovr at ho
          rw [if_pos (show p.2.2 ≤ 2 * sn p.1 by omega)] at ho
          generalize (mAt p.1 p.2.1 p.2.2).2.1 = A at *
          generalize (mAt p.1 p.2.1 p.2.2).2.2.1 = B at *
          generalize (mAt p.1 p.2.1 p.2.2).2.2.2 = l at *
          rw [show p.2.2 + (1 - l) = p.2.2 + 1 - l by omega] at k0
          have hl2 : p.2.2 < 2 * sn p.1 → True := fun _ => trivial
          unfold M_needs K_needs Sh_goalsOf
          rw [if_neg n2, if_neg n1, e1, z_bd_s, if_pos (show mo_isOver mo1 = 0 by rw [m6, h]; rfl), if_pos (show mo_kicks mo1 < 2 * M_n row by rw [m4, show M_n row = wI (sn p.1) from hm.1, wI_2, wI_mul, wI_lt (by omega) (by omega) (by omega) (by omega)]; omega), if_pos (show Sh_isOver now = 0 by rw [hO, h]; rfl), if_pos (show sh_kicks now < 2 * sh_shooters now by rw [hc.2.1, hc.1.1, wI_2, wI_mul, wI_lt (by omega) (by omega) (by omega) (by omega)]; omega), show M_n row = wI (sn p.1) from hm.1, hc.1.1]
          have hs2 : s = 0 ∨ s = 1 := by omega
          rcases hs2 with q | q
          · subst q
            have ew : 1 - wI ((0 : Nat) : Int) = wI ((1 : Nat) : Int) := by decide
            have i0 : (wI ((0 : Nat) : Int)).toNatClampNeg = 0 := by decide
            have i1 : (wI ((1 : Nat) : Int)).toNatClampNeg = 1 := by decide
            simp only [ew, i0, i1, z_let_e, k0, k1, m0, m1, m2, m3, g0, g1]
            rw [z_gd_e (by decide), z_gd_e (by decide), z_gd_e (by decide), z_gd_e (by decide), if_neg (show ¬ wI ((1 : Nat) : Int) = 0 by decide), if_pos (show wI ((0 : Nat) : Int) = 0 by decide)]
            rw [wI_1, wI_add, wI_sub, wI_sub, wI_add, wI_sub, wI_add, wI_sub]
            rw [show ((B : Int) + (sn p.1 : Int) - (((p.2.2 + l) / 2 : Nat) : Int) - A + 1) = ((B : Int) + (sn p.1 : Int) - (((p.2.2 + l) / 2 : Nat) : Int) + 1 - A) by omega]
            by_cases hq : (B : Int) + (sn p.1 : Int) - (((p.2.2 + l) / 2 : Nat) : Int) + 1 - A ≤ (sn p.1 : Int) - (((p.2.2 + 1 - l) / 2 : Nat) : Int)
            · rw [if_pos (by rw [wI_le (by omega) (by omega) (by omega) (by omega)]; omega), if_pos (by rw [wI_0, wI_le (by omega) (by omega) (by omega) (by omega)]; omega), if_pos (by rw [wI_le (by omega) (by omega) (by omega) (by omega)]; omega)]
            · rw [if_neg (by rw [wI_le (by omega) (by omega) (by omega) (by omega)]; omega), if_neg (by rw [wI_le (by omega) (by omega) (by omega) (by omega)]; omega)]
          · subst q
            have ew : 1 - wI ((1 : Nat) : Int) = wI ((0 : Nat) : Int) := by decide
            have i0 : (wI ((0 : Nat) : Int)).toNatClampNeg = 0 := by decide
            have i1 : (wI ((1 : Nat) : Int)).toNatClampNeg = 1 := by decide
            simp only [ew, i0, i1, z_let_e, k0, k1, m0, m1, m2, m3, g0, g1]
            rw [z_gd_e (by decide), z_gd_e (by decide), z_gd_e (by decide), z_gd_e (by decide), if_pos (show wI ((0 : Nat) : Int) = 0 by decide), if_neg (show ¬ wI ((1 : Nat) : Int) = 0 by decide)]
            rw [wI_1, wI_add, wI_sub, wI_sub, wI_add, wI_sub, wI_add, wI_sub]
            rw [show ((A : Int) + (sn p.1 : Int) - (((p.2.2 + 1 - l) / 2 : Nat) : Int) - B + 1) = ((A : Int) + (sn p.1 : Int) - (((p.2.2 + 1 - l) / 2 : Nat) : Int) + 1 - B) by omega]
            by_cases hq : (A : Int) + (sn p.1 : Int) - (((p.2.2 + 1 - l) / 2 : Nat) : Int) + 1 - B ≤ (sn p.1 : Int) - (((p.2.2 + l) / 2 : Nat) : Int)
            · rw [if_pos (by rw [wI_le (by omega) (by omega) (by omega) (by omega)]; omega), if_pos (by rw [wI_0, wI_le (by omega) (by omega) (by omega) (by omega)]; omega), if_pos (by rw [wI_le (by omega) (by omega) (by omega) (by omega)]; omega)]
            · rw [if_neg (by rw [wI_le (by omega) (by omega) (by omega) (by omega)]; omega), if_neg (by rw [wI_le (by omega) (by omega) (by omega) (by omega)]; omega)]
        · have hK2 := hM.2.2.2.2.1
          rw [hmk] at hK2
          unfold M_needs K_needs
          rw [if_neg n2, if_neg n1, e1, z_bd_s, if_pos (show mo_isOver mo1 = 0 by rw [hM.2.2.2.2.2.2, h]; rfl), if_neg (show ¬ mo_kicks mo1 < 2 * M_n row by rw [hK2, show M_n row = wI (sn p.1) from hm.1, wI_2, wI_mul, wI_lt (by omega) (by omega) (by omega) (by omega)]; omega), if_pos (show Sh_isOver now = 0 by rw [hO, h]; rfl), if_neg (show ¬ sh_kicks now < 2 * sh_shooters now by rw [hc.2.1, hc.1.1, wI_2, wI_mul, wI_lt (by omega) (by omega) (by omega) (by omega)]; omega)]
      · unfold M_needs K_needs
        rw [if_neg n2, if_neg n1, e1, z_bd_s, if_neg (show ¬ mo_isOver mo1 = 0 by rw [hM.2.2.2.2.2.2, h]; decide), if_neg (show ¬ Sh_isOver now = 0 by rw [hO, h]; decide)]
    · refine ⟨bx, mo, ?_⟩
      unfold M_needs K_needs
      rw [if_pos ((t_sd hp hc a1 a2).mpr q1), if_pos ((t_th hp hm a1 a2).mpr q1)]
  · refine ⟨bx, mo, ?_⟩
    unfold M_needs K_needs
    rw [if_pos (u_sd hc _), if_pos (u_th hm _)]
theorem q_count (hF : 1100 ≤ F) (hp : okP p ∨ p = p00) (hc : cP p now) (hm : mP p row) {tx : Tx} {mt : Mt} {pa : Pa} {un : Un} (ht : tx_length tx = mt_texted mt) (hu : pa_size pa = un_nUndo un) (bx : Bx) (mo : Mo) (x : Int32) : ∃ bx' mo', M_count F row un mt bx mo x = some (K_count tx now pa x, 0, bx', mo') := by
  unfold M_count K_count
  by_cases c0 : x = 0
  · rw [if_pos c0, if_pos c0]
    exact ⟨bx, mo, by rw [hc.1.1, show M_n row = wI (sn p.1) from hm.1]⟩
  rw [if_neg c0, if_neg c0]
  by_cases c1 : x = 1
  · rw [if_pos c1, if_pos c1]
    exact ⟨bx, mo, by rw [hc.2.1, hm.2.2.2.1]⟩
  rw [if_neg c1, if_neg c1]
  by_cases c2 : x = 2
  · rw [if_pos c2, if_pos c2]
    exact ⟨bx, mo, by rw [hc.1.2.1, hm.2.1]⟩
  rw [if_neg c2, if_neg c2]
  by_cases c3 : x = 3
  · rw [if_pos c3, if_pos c3]
    exact ⟨bx, mo, by rw [hc.1.2.2.1, hm.2.2.1]⟩
  rw [if_neg c3, if_neg c3]
  by_cases c4 : x = 4
  · rw [if_pos c4, if_pos c4]
    rcases hp with hp | rfl
    · obtain ⟨hS, hg, hk⟩ := hp
      have hp : okP p := ⟨hS, hg, hk⟩
      obtain ⟨bx1, mo1, e1, hR, hM⟩ := r_now (F := F) (by omega) hS hg hm hk bx mo
      have hO := c_isOver hS hc.1 hg hc.2 (by omega)
      refine ⟨bx1, mo1, ?_⟩
      rw [if_neg (t_row hp hm), e1, z_bd_s]
      dsimp only
      rw [hM.2.2.2.2.2.2, hO]
      rcases mOv_b p.1 (mAt p.1 p.2.1 p.2.2) with h | h
      · rw [h, if_pos (show wI 0 = 0 from rfl), if_pos (show wI 0 = 0 from rfl)]
      · rw [h, if_neg (show ¬ wI 1 = 0 by decide), if_neg (show ¬ wI 1 = 0 by decide)]
    · refine ⟨bx, mo, ?_⟩
      rw [if_pos (u_row hm)]
      have h0 : Sh_isOver now = 0 := by
        unfold Sh_isOver Sh_lead
        rw [show sh_kicks now = 0 from hc.2.1, show sh_goalsOfA now = 0 from hc.2.2.2.2.1, show sh_goalsOfB now = 0 from hc.2.2.2.2.2, z_let_e]
        unfold Sh_isOverAt
        rw [u_now hc, if_neg (show ¬ z_rem (0 : Int32) 2 = 1 by decide)]
        decide
      rw [h0, if_pos rfl]
  rw [if_neg c4, if_neg c4]
  by_cases c5 : x = 5
  · rw [if_pos c5, if_pos c5]
    exact ⟨bx, mo, by rw [ht]⟩
  rw [if_neg c5, if_neg c5]
  by_cases c6 : x = 6
  · rw [if_pos c6, if_pos c6]
    exact ⟨bx, mo, by rw [hu]⟩
  rw [if_neg c6, if_neg c6]
  exact ⟨bx, mo, rfl⟩
theorem q_made (hF : 1100 ≤ F) (hp : okP p ∨ p = p00) (hc : cP p now) (hm : mP p row) (bx : Bx) (mo : Mo) (o : Nat → Int64) (x : Int32) : ∃ (r : Int32) (o' : Nat → Int64) (b : Int32) (bx' : Bx) (mo' : Mo), L_made now x o = (r, o') ∧ M_made F row bx mo x = some (b, r, bx', mo') ∧ (r = 0 → o' 0 = b.toInt64) := by
  obtain ⟨a, rfl, a1, a2⟩ := wI_of x
  have hk60 : p.2.2 ≤ 60 := by
    rcases hp with hp | rfl
    · exact hp.2.2
    · exact Nat.zero_le _
  have hz : (M_in (wI a).toInt64 0 (((row 3).toInt64) - 1) = 0) ↔ ¬ (0 ≤ a ∧ a ≤ (p.2.2 : Int) - 1) := by
    have e : ((row 3).toInt64) - 1 = wJ ((p.2.2 : Int) - 1) := by
      rw [hm.2.2.2.1, wI_l (by omega) (by omega), wJ_1, wJ_sub]
    rw [e]
    exact in_z (lo := 0) (hi := (p.2.2 : Int) - 1) a1 a2 (by omega) (by omega) (by omega) (by omega)
  by_cases q : 0 ≤ a ∧ a ≤ (p.2.2 : Int) - 1
  · obtain ⟨i, rfl⟩ : ∃ s : Nat, a = s := ⟨a.toNat, by omega⟩
    rcases hp with hp | rfl
    · obtain ⟨hS, hg, hk⟩ := hp
      obtain ⟨bx1, mo1, e1, hR, hM⟩ := r_beg (F := F) (by omega) hS hm bx mo
      have hi : i < p.2.2 := by omega
      obtain ⟨K, hK⟩ : ∃ K : Mo → Option (Int32 × Th × Bx × Mo), K = fun (mo13 : Mo) => z_gd (z_in (18 + wI (i : Int)) 78) (some (((10 * (M_turnNow mo13)) + (row (18 + wI (i : Int)).toNatClampNeg)), 0, bx1, mo13)) := ⟨_, rfl⟩
      obtain ⟨mo2, e2, hM2⟩ := lp0 (fun n x (s : Mo) => M_made_L43 F row (wI (i : Nat)) (bx1, mo1) K n x s) K i (fun j s => RM p.1 (mAt p.1 p.2.1 j) s)
        (fun n j s hj hp => by
          obtain ⟨mo', e, h⟩ := r_go (F := F) (by omega) hS hR hp (okM_at hS hg j) (by rw [mAt_k]; omega) (hg j)
          refine ⟨mo', ?_, h⟩
          simp only [M_made_L43]
          rw [if_neg (by rw [wI_le (by omega) (by omega) (by omega) (by omega)]; omega), wI_18, wI_add, z_gd_e (wI_in (by omega) (by omega) (by omega)), wI_nat (by omega) (by omega), show (18 + (j : Int)).toNat = 18 + j by omega, hm.2.2.2.2.2.2 j (by omega), e, z_bd_s, z_let_e, wI_1, wI_add]
          rfl)
        (fun n s _ => by
          simp only [M_made_L43]
          exact if_pos (by rw [wI_le (by omega) (by omega) (by omega) (by omega)]; omega)) (n := F) (s := mo1) (by omega) hM
      have hT := r_turn hM2 (okM_at hS hg i) (by rw [mAt_k]; omega)
      have hT : M_turnNow mo2 = wI (tnA p.1 p.2.1 i) := hT
      have htb := tnA_b hS p.2.1 i
      have hgi := hg i
      refine ⟨0, vp_updL o 0 (wI (10 * (tnA p.1 p.2.1 i : Int) + p.2.1 i)).toInt64, wI (10 * (tnA p.1 p.2.1 i : Int) + p.2.1 i), bx1, mo2, ?_, ?_, fun _ => updL_s _ _ _⟩
      · have hKm : K_made now (wI (i : Nat)) = some (wI (10 * (tnA p.1 p.2.1 i : Int) + p.2.1 i)) := by
          unfold K_made
          rw [hc.2.1, if_neg (by rw [wI_0, wI_lt (by omega) (by omega) (by omega) (by omega)]; omega), if_pos (by rw [wI_lt (by omega) (by omega) (by omega) (by omega)]; omega), c_sideOf hS hc.2 (by omega) hi, c_goalOf hg hc.2 (by omega) hi, wI_10, wI_mul, wI_add]
        unfold L_made
        rw [hKm]
      · unfold M_made
        rw [if_neg (fun h => hz.mp h q), z_let_e, if_neg (by decide), e1, z_bd_s, ← hK]
        refine (show _ = _ from e2).trans ?_
        rw [hK]
        show z_gd _ _ = _
        rw [wI_18, wI_add, z_gd_e (wI_in (by omega) (by omega) (by omega)), wI_nat (by omega) (by omega), show (18 + (i : Int)).toNat = 18 + i by omega, hm.2.2.2.2.2.2 i hi, hT, wI_10, wI_mul, wI_add]
    · have : (p00.2.2 : Int) = 0 := rfl
      omega
  · refine ⟨1, o, 0, bx, mo, ?_, ?_, fun h => absurd h (by decide)⟩
    · have hKm : K_made now (wI a) = none := by
        unfold K_made
        rw [hc.2.1]
        by_cases h : a < 0
        · rw [if_pos (by rw [wI_0, wI_lt (by omega) (by omega) (by omega) (by omega)]; omega)]
        · rw [if_neg (by rw [wI_0, wI_lt (by omega) (by omega) (by omega) (by omega)]; omega), if_neg (by rw [wI_lt (by omega) (by omega) (by omega) (by omega)]; omega)]
      unfold L_made
      rw [hKm]
    · unfold M_made
      rw [if_pos (hz.mpr q), z_let_e, if_pos rfl]
def iJud (ko : Ko) (ju : Ju) : Prop := ko_hasVerdict ko = ju_isJudged ju ∧ ∀ i, i < 4 → ko_verdict ko i = ju_judged ju i
theorem q_judged {ko : Ko} {ju : Ju} (h : iJud ko ju) (x : Int32) : M_judged ju x = some (K_judged ko x, 0) := by
  obtain ⟨a, rfl, a1, a2⟩ := wI_of x
  have hz : (M_in (wI a).toInt64 0 3 = 0) ↔ ¬ (0 ≤ a ∧ a ≤ 3) := in_z (lo := 0) (hi := 3) a1 a2 (by omega) (by omega) (by omega) (by omega)
  unfold M_judged K_judged
  rw [h.1]
  by_cases c : ju_isJudged ju = 0
  · rw [if_pos c, if_pos c]
  · rw [if_neg c, if_neg c]
    by_cases q : 0 ≤ a ∧ a ≤ 3
    · obtain ⟨i, rfl⟩ : ∃ s : Nat, a = s := ⟨a.toNat, by omega⟩
      rw [if_neg (fun h => hz.mp h q), z_gd_e (wI_in (by omega) (by omega) (by omega)), if_neg (by rw [wI_0, wI_lt (by omega) (by omega) (by omega) (by omega)]; omega), if_neg (by rw [wI_4, wI_le (by omega) (by omega) (by omega) (by omega)]; omega), wI_ix (by omega), h.2 i (by omega)]
    · rw [if_pos (hz.mpr q)]
      by_cases h0 : a < 0
      · rw [if_pos (by rw [wI_0, wI_lt (by omega) (by omega) (by omega) (by omega)]; omega)]
      · rw [if_neg (by rw [wI_0, wI_lt (by omega) (by omega) (by omega) (by omega)]; omega), if_pos (by rw [wI_4, wI_le (by omega) (by omega) (by omega) (by omega)]; omega)]
end ZSA

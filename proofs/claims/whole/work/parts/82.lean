/-! POSITIONS, AND WHAT IS ASKED OF THEIR ODDS -/
abbrev Po : Type := St × (Nat → Nat) × Nat
def S00 : St := (0, 0, 0, (fun _ => 0), (fun _ => 0))
def p00 : Po := (S00, (fun _ => 0), 0)
def okP (p : Po) : Prop := okS p.1 ∧ (∀ i, p.2.1 i ≤ 1) ∧ p.2.2 ≤ 60
def cP (p : Po) (sh : Sh) : Prop := CS p.1 sh ∧ CM p.1 p.2.1 p.2.2 sh
def mP (p : Po) (row : MRow) : Prop := MR p.1 p.2.1 p.2.2 row
theorem in_z {a lo hi : Int} (h1 : -2147483648 ≤ a) (h2 : a < 2147483648) (l1 : -2147483648 ≤ lo) (l2 : lo < 2147483648) (u1 : -2147483648 ≤ hi) (u2 : hi < 2147483648) : (M_in (wI a).toInt64 (wJ lo) (wJ hi) = 0) ↔ ¬ (lo ≤ a ∧ a ≤ hi) := by
  unfold M_in
  rw [wI_l h1 h2]
  simp only [lg_cmp_lt, lg_cmp_gt]
  simp (disch := omega) only [wJ_lt]
  by_cases q : lo ≤ a ∧ a ≤ hi
  · rw [if_neg (show ¬ a < lo by omega), if_neg (show ¬ hi < a by omega)]
    exact ⟨fun h => absurd h (by decide), fun h => absurd q h⟩
  · refine ⟨fun _ => q, fun _ => ?_⟩
    by_cases q1 : a < lo
    · rw [if_pos q1]
    · rw [if_neg q1, if_pos (by omega)]
theorem part_z {a : Int} (h1 : -2147483648 ≤ a) (h2 : a < 2147483648) : (K_isPart (wI a) = 0) ↔ ¬ (0 ≤ a ∧ a ≤ 1) := by
  unfold K_isPart
  rw [wI_0, wI_1]
  simp (disch := omega) only [wI_eq]
  by_cases q : a = 0
  · rw [if_pos q]; exact ⟨fun h => absurd h (by decide), fun h => absurd (by omega) h⟩
  · rw [if_neg q]
    by_cases q2 : a = 1
    · rw [if_pos q2]; exact ⟨fun h => absurd h (by decide), fun h => absurd (by omega) h⟩
    · rw [if_neg q2]; exact ⟨fun _ => by omega, fun _ => rfl⟩
theorem side_z {a : Int} (h1 : -2147483648 ≤ a) (h2 : a < 2147483648) : (K_isSide (wI a) = 0) ↔ ¬ (0 ≤ a ∧ a ≤ 1) := part_z h1 h2
theorem order_z {a : Int} (h1 : -2147483648 ≤ a) (h2 : a < 2147483648) : (K_isOrder (wI a) = 0) ↔ ¬ (0 ≤ a ∧ a ≤ 3) := by
  unfold K_isOrder
  rw [wI_0, wI_3]
  simp (disch := omega) only [wI_lt]
  by_cases q : a < 0
  · rw [if_pos q]; exact ⟨fun _ => by omega, fun _ => rfl⟩
  · rw [if_neg q]
    by_cases q2 : 3 < a
    · rw [if_pos q2]; exact ⟨fun _ => by omega, fun _ => rfl⟩
    · rw [if_neg q2]; exact ⟨fun h => absurd h (by decide), fun h => absurd (by omega) h⟩
section ZPO
variable {p : Po} {now sh : Sh} {row : MRow} {F : Nat} {fc : Fc} {S : St} {m : Mm}
theorem t_now (hp : okP p) (hc : cP p now) : ¬ sh_shooters now = 0 ∧ ¬ sh_shooters now ≤ 0 := by
  have h1 := hp.1.1
  have h2 := hp.1.2.1
  rw [hc.1.1, wI_0]
  refine ⟨?_, ?_⟩
  · rw [wI_eq (by omega) (by omega) (by omega) (by omega)]; omega
  · rw [wI_le (by omega) (by omega) (by omega) (by omega)]; omega
theorem t_row (hp : okP p) (hm : mP p row) : ¬ M_isTold row = 0 := by
  have h1 := hp.1.1
  have h2 := hp.1.2.1
  unfold M_isTold
  rw [hm.1, if_neg (by rw [wI_0, wI_le (by omega) (by omega) (by omega) (by omega)]; omega)]
  decide
theorem u_now (hc : cP p00 now) : sh_shooters now = 0 := hc.1.1
theorem u_row (hm : mP p00 row) : M_isTold row = 0 := by
  unfold M_isTold
  rw [show row 0 = 0 from hm.1]
  exact if_pos (by decide)
theorem t_sd (hp : okP p) (hc : cP p now) {a : Int} (h1 : -2147483648 ≤ a) (h2 : a < 2147483648) : (K_isSideTold now (wI a) = 0) ↔ ¬ (0 ≤ a ∧ a ≤ 1) := by
  unfold K_isSideTold
  rw [if_neg (t_now hp hc).2]
  by_cases q : K_isSide (wI a) = 0
  · rw [if_pos q]; exact ⟨fun _ => (side_z h1 h2).mp q, fun _ => rfl⟩
  · rw [if_neg q]; exact ⟨fun h => absurd h (by decide), fun h => absurd ((side_z h1 h2).mpr h) q⟩
theorem t_th (hp : okP p) (hm : mP p row) {a : Int} (h1 : -2147483648 ≤ a) (h2 : a < 2147483648) : (M_isThere row (wI a) = 0) ↔ ¬ (0 ≤ a ∧ a ≤ 1) := by
  have hz : (M_isSide (wI a) = 0) ↔ ¬ (0 ≤ a ∧ a ≤ 1) := in_z (lo := 0) (hi := 1) h1 h2 (by omega) (by omega) (by omega) (by omega)
  unfold M_isThere
  rw [if_neg (t_row hp hm)]
  by_cases q : M_isSide (wI a) = 0
  · rw [if_pos q]; exact ⟨fun _ => hz.mp q, fun _ => rfl⟩
  · rw [if_neg q]; exact ⟨fun h => absurd h (by decide), fun h => absurd (hz.mpr h) q⟩
theorem u_sd (hc : cP p00 now) (x : Int32) : K_isSideTold now x = 0 := by
  unfold K_isSideTold
  rw [u_now hc]
  exact if_pos (by decide)
theorem u_th (hm : mP p00 row) (x : Int32) : M_isThere row x = 0 := by
  unfold M_isThere
  exact if_pos (u_row hm)
theorem f_put {a b : Int} (h : 0 < b) (h2 : b < 9223372036854775808) : Fr_put (wJ a) (wJ b) = (wJ a, wJ b) := by
  unfold Fr_put
  rw [z_let_e, if_neg (by rw [lg_cmp_le, wJ_0, wJ_le (by omega) (by omega) (by omega) (by omega)]; omega)]
theorem c_wins (hA : fc_winsOfA fc = wJ (oU S m 0)) (hB : fc_winsOfB fc = wJ (oU S m 1)) {s : Nat} (hs : s ≤ 1) : Fc_winsOf fc (wI s) = wJ (oU S m s) := by
  unfold Fc_winsOf
  have : s = 0 ∨ s = 1 := by omega
  rcases this with h | h
  · rw [h, if_pos (by decide)]; exact hA
  · rw [h, if_neg (by decide)]; exact hB
theorem q_tell (hF : 200 ≤ F) (hS : okS S) (hA : fc_winsOfA fc = wJ (oU S m 0)) (hB : fc_winsOfB fc = wJ (oU S m 1)) (hW : fc_whole fc = wJ (oL S m)) {s : Nat} (hs : s ≤ 1) (w : Int32) : ∃ r fr, K_tellOdds F fc (wI s) w = some (r, fr) ∧ M_told F (wJ (oU S m s)) (wJ (oL S m)) w = some r := by
  have hb := oU_b hS m hs
  obtain ⟨fr, e1, e2⟩ := rd_told hF (a := oU S m s) (b := oL S m) (by omega) (by omega) (by omega) (by omega)
  refine ⟨Fr_part fr w, fr, ?_, e2 w⟩
  unfold K_tellOdds
  rw [c_wins hA hB hs, hW, f_put (by omega) (by omega), z_let_e, e1, z_bd_s]
theorem q_odds (hF : 1100 ≤ F) (hp : okP p ∨ p = p00) (hc : cP p now) (hm : mP p row) (hcl : cln fc) (to : Fr) (bx : Bx) (mo : Mo) (su : Su) (wy : Wy) (wa : Wa) (od : Od) (x y : Int32) : ∃ r fc' to' bx' mo' su' wy' wa' od', K_odds F now fc to x y = some (r, fc', to') ∧ M_odds F row bx mo su wy wa od x y = some (r, 0, bx', mo', su', wy', wa', od') ∧ cln fc' := by
  obtain ⟨a, rfl, a1, a2⟩ := wI_of x
  obtain ⟨b, rfl, b1, b2⟩ := wI_of y
  rcases hp with hp | rfl
  · by_cases q1 : 0 ≤ a ∧ a ≤ 1
    · have n1 : ¬ K_isSideTold now (wI a) = 0 := fun h => (t_sd hp hc a1 a2).mp h q1
      have n2 : ¬ M_isThere row (wI a) = 0 := fun h => (t_th hp hm a1 a2).mp h q1
      by_cases q2 : 0 ≤ b ∧ b ≤ 1
      · have n3 : ¬ K_isPart (wI b) = 0 := fun h => (part_z b1 b2).mp h q2
        have n4 : ¬ M_in (wI b).toInt64 0 1 = 0 := fun h => (in_z (lo := 0) (hi := 1) b1 b2 (by omega) (by omega) (by omega) (by omega)).mp h q2
        obtain ⟨s, rfl⟩ : ∃ s : Nat, a = s := ⟨a.toNat, by omega⟩
        obtain ⟨fc', e1, cl, hA, hB, hW⟩ := c_look (F := F) (by omega) hp.1 hc.1 hp.2.1 hc.2 (by have := hp.2.2; omega) hcl
        obtain ⟨bx', mo', e2, hR, hM⟩ := r_now (F := F) (by omega) hp.1 hp.2.1 hm hp.2.2 bx mo
        obtain ⟨mo2, su', wy', wa', e3, hM2⟩ := r_odds hF hp.1 hR hM (okM_at hp.1 hp.2.1 _) (by rw [mAt_k]; have := hp.2.2; omega) (s := s) (by omega) su wy wa
        obtain ⟨r, fr, e4, e5⟩ := q_tell (F := F) (by omega) hp.1 hA hB hW (s := s) (by omega) (wI b)
        refine ⟨r, fc', fr, bx', mo2, su', wy', wa', (wJ (oU p.1 (mAt p.1 p.2.1 p.2.2) s), wJ (oL p.1 (mAt p.1 p.2.1 p.2.2))), ?_, ?_, cl⟩
        · unfold K_odds
          rw [if_neg n1, if_neg n3, e1, z_bd_s, e4, z_bd_s]
        · unfold M_odds
          rw [if_neg n2, if_neg n4, e2, z_bd_s, e3, z_bd_s, e5, z_bd_s]
      · refine ⟨-1, fc, to, bx, mo, su, wy, wa, od, ?_, ?_, hcl⟩
        · unfold K_odds
          rw [if_neg n1, if_pos ((part_z b1 b2).mpr q2)]
        · unfold M_odds
          rw [if_neg n2]
          exact if_pos ((in_z (lo := 0) (hi := 1) b1 b2 (by omega) (by omega) (by omega) (by omega)).mpr q2)
    · refine ⟨-1, fc, to, bx, mo, su, wy, wa, od, ?_, ?_, hcl⟩
      · unfold K_odds
        rw [if_pos ((t_sd hp hc a1 a2).mpr q1)]
      · unfold M_odds
        rw [if_pos ((t_th hp hm a1 a2).mpr q1)]
  · refine ⟨-1, fc, to, bx, mo, su, wy, wa, od, ?_, ?_, hcl⟩
    · unfold K_odds
      rw [if_pos (u_sd hc _)]
    · unfold M_odds
      rw [if_pos (u_th hm _)]
/-! another order, another first side -/
abbrev stB (S : St) (o f : Nat) : St := (sn S, o, f, sv S, sk S)
theorem okB (hS : okS S) {o f : Nat} (ho : o ≤ 3) (hf : f ≤ 1) : okS (stB S o f) := ⟨hS.1, hS.2.1, ho, hf, hS.2.2.2.2.1, hS.2.2.2.2.2⟩
theorem l_by (hF : 40 ≤ F) (hp : okP p) (hc : cP p now) (hcl : cln fc) (tr : Sh) {o f : Nat} (ho : o ≤ 3) (hf : f ≤ 1) : ∃ tr' fc', K_lookBy F now tr fc (wI o) (wI f) = some (tr', fc') ∧ cln fc' ∧ fc_winsOfA fc' = wJ (oU (stB p.1 o f) (0, 0, 0, f) 0) ∧ fc_winsOfB fc' = wJ (oU (stB p.1 o f) (0, 0, 0, f) 1) ∧ fc_whole fc' = wJ (oL (stB p.1 o f) (0, 0, 0, f)) := by
  obtain ⟨r, e, hC, hM⟩ := c_start (F := F) (by omega) hc.1 tr
  obtain ⟨fc', e1, cl, hA, hB, hW⟩ := c_look (F := F) (S := stB p.1 o f) (sh := ((sh_shooters r), wI o, wI f, (sh_kicks r), (sh_goalBits r), (sh_sideBits r), (sh_goalsOfA r), (sh_goalsOfB r), (sh_nerves r), (sh_skills r))) (gl := fun _ => 0) (k := 0) hF (okB hp.1 ho hf) ⟨hC.1, rfl, rfl, hC.2.2.2.1, hC.2.2.2.2⟩ (fun _ => Nat.zero_le _) (CM_0 (hM (fun _ => 0)).1 (hM (fun _ => 0)).2.1 (hM (fun _ => 0)).2.2.1 (hM (fun _ => 0)).2.2.2.1 (hM (fun _ => 0)).2.2.2.2) (by omega) hcl
  refine ⟨((sh_shooters r), wI o, wI f, (sh_kicks r), (sh_goalBits r), (sh_sideBits r), (sh_goalsOfA r), (sh_goalsOfB r), (sh_nerves r), (sh_skills r)), fc', ?_, cl, hA, hB, hW⟩
  unfold K_lookBy
  rw [e, z_bd_s, e1, z_bd_s]
theorem okM_0 (hS : okS S) : okM (0, 0, 0, sf S) := ⟨Nat.zero_le _, Nat.zero_le _, hS.2.2.2.1⟩
theorem r_by (hF : 1100 ≤ F) (hp : okP p) (hm : mP p row) (bx : Bx) (mo : Mo) {o f : Nat} (ho : o ≤ 3) (hf : f ≤ 1) : ∃ bx' mo', M_startBy F row bx mo (wI o) (wI f) = some (bx', mo') ∧ ∀ (mo1 : Mo), RM (stB p.1 o f) (0, 0, 0, f) mo1 ∨ mo1 = mo' → ∀ (s : Nat) su wy wa, s ≤ 1 → ∃ mo2 su' wy' wa', M_layOdds F row bx' mo1 su wy wa (wI s) = some (mo2, su', wy', wa', (wJ (oU (stB p.1 o f) (0, 0, 0, f) s), wJ (oL (stB p.1 o f) (0, 0, 0, f)))) ∧ RM (stB p.1 o f) (0, 0, 0, f) mo2 := by
  obtain ⟨bx', mo', e, hR, hM⟩ := r_startBy (F := F) (by omega) hp.1 hm bx mo ho hf
  refine ⟨bx', mo', e, fun mo1 h s su wy wa hs => ?_⟩
  have hM1 : RM (stB p.1 o f) (0, 0, 0, f) mo1 := by
    rcases h with h | h
    · exact h
    · rw [h]; exact hM
  exact r_odds hF (okB hp.1 ho hf) hR hM1 (okM_0 (S := stB p.1 o f) (okB hp.1 ho hf)) (by show 0 ≤ 61; omega) hs su wy wa
theorem q_oddsBy (hF : 1100 ≤ F) (hp : okP p ∨ p = p00) (hc : cP p now) (hm : mP p row) (hcl : cln fc) (tr : Sh) (to : Fr) (bx : Bx) (mo : Mo) (su : Su) (wy : Wy) (wa : Wa) (od : Od) (x y z w : Int32) : ∃ r tr' fc' to' bx' mo' su' wy' wa' od', K_oddsBy F now tr fc to x y z w = some (r, tr', fc', to') ∧ M_oddsBy F row bx mo su wy wa od x y z w = some (r, 0, bx', mo', su', wy', wa', od') ∧ cln fc' := by
  obtain ⟨a, rfl, a1, a2⟩ := wI_of x
  obtain ⟨b, rfl, b1, b2⟩ := wI_of y
  obtain ⟨c, rfl, c1, c2⟩ := wI_of z
  obtain ⟨d, rfl, d1, d2⟩ := wI_of w
  rcases hp with hp | rfl
  · by_cases q1 : 0 ≤ a ∧ a ≤ 1
    · have n1 : ¬ K_isSideTold now (wI a) = 0 := fun h => (t_sd hp hc a1 a2).mp h q1
      have n2 : ¬ M_isThere row (wI a) = 0 := fun h => (t_th hp hm a1 a2).mp h q1
      by_cases q2 : 0 ≤ b ∧ b ≤ 3
      · have n3 : ¬ K_isOrder (wI b) = 0 := fun h => (order_z b1 b2).mp h q2
        have n4 : ¬ M_in (wI b).toInt64 0 3 = 0 := fun h => (in_z (lo := 0) (hi := 3) b1 b2 (by omega) (by omega) (by omega) (by omega)).mp h q2
        by_cases q3 : 0 ≤ c ∧ c ≤ 1
        · have n5 : ¬ K_isSide (wI c) = 0 := fun h => (side_z c1 c2).mp h q3
          have n6 : ¬ M_isSide (wI c) = 0 := fun h => (in_z (lo := 0) (hi := 1) c1 c2 (by omega) (by omega) (by omega) (by omega)).mp h q3
          by_cases q4 : 0 ≤ d ∧ d ≤ 1
          · have n7 : ¬ K_isPart (wI d) = 0 := fun h => (part_z d1 d2).mp h q4
            have n8 : ¬ M_in (wI d).toInt64 0 1 = 0 := fun h => (in_z (lo := 0) (hi := 1) d1 d2 (by omega) (by omega) (by omega) (by omega)).mp h q4
            obtain ⟨s, rfl⟩ : ∃ s : Nat, a = s := ⟨a.toNat, by omega⟩
            obtain ⟨o, rfl⟩ : ∃ s : Nat, b = s := ⟨b.toNat, by omega⟩
            obtain ⟨f, rfl⟩ : ∃ s : Nat, c = s := ⟨c.toNat, by omega⟩
            obtain ⟨tr', fc', e1, cl, hA, hB, hW⟩ := l_by (F := F) (by omega) hp hc hcl tr (o := o) (f := f) (by omega) (by omega)
            obtain ⟨bx', mo', e2, h2⟩ := r_by hF hp hm bx mo (o := o) (f := f) (by omega) (by omega)
            obtain ⟨mo2, su', wy', wa', e3, hM2⟩ := h2 mo' (Or.inr rfl) s su wy wa (by omega)
            obtain ⟨r, fr, e4, e5⟩ := q_tell (F := F) (by omega) (okB hp.1 (show o ≤ 3 by omega) (show f ≤ 1 by omega)) hA hB hW (s := s) (by omega) (wI d)
            refine ⟨r, tr', fc', fr, bx', mo2, su', wy', wa', (wJ (oU (stB p.1 o f) (0, 0, 0, f) s), wJ (oL (stB p.1 o f) (0, 0, 0, f))), ?_, ?_, cl⟩
            · unfold K_oddsBy
              rw [if_neg n1, if_neg n3, if_neg n5, if_neg n7, e1, z_bd_s, e4, z_bd_s]
            · unfold M_oddsBy
              rw [if_neg n2, if_neg n4, if_neg n6, if_neg n8, e2, z_bd_s, e3, z_bd_s, e5, z_bd_s]
          · refine ⟨-1, tr, fc, to, bx, mo, su, wy, wa, od, ?_, ?_, hcl⟩
            · unfold K_oddsBy
              rw [if_neg n1, if_neg n3, if_neg n5, if_pos ((part_z d1 d2).mpr q4)]
            · unfold M_oddsBy
              rw [if_neg n2, if_neg n4, if_neg n6]
              exact if_pos ((in_z (lo := 0) (hi := 1) d1 d2 (by omega) (by omega) (by omega) (by omega)).mpr q4)
        · refine ⟨-1, tr, fc, to, bx, mo, su, wy, wa, od, ?_, ?_, hcl⟩
          · unfold K_oddsBy
            rw [if_neg n1, if_neg n3, if_pos ((side_z c1 c2).mpr q3)]
          · unfold M_oddsBy
            rw [if_neg n2, if_neg n4]
            exact if_pos ((in_z (lo := 0) (hi := 1) c1 c2 (by omega) (by omega) (by omega) (by omega)).mpr q3)
      · refine ⟨-1, tr, fc, to, bx, mo, su, wy, wa, od, ?_, ?_, hcl⟩
        · unfold K_oddsBy
          rw [if_neg n1, if_pos ((order_z b1 b2).mpr q2)]
        · unfold M_oddsBy
          rw [if_neg n2]
          exact if_pos ((in_z (lo := 0) (hi := 3) b1 b2 (by omega) (by omega) (by omega) (by omega)).mpr q2)
    · refine ⟨-1, tr, fc, to, bx, mo, su, wy, wa, od, ?_, ?_, hcl⟩
      · unfold K_oddsBy
        rw [if_pos ((t_sd hp hc a1 a2).mpr q1)]
      · unfold M_oddsBy
        rw [if_pos ((t_th hp hm a1 a2).mpr q1)]
  · refine ⟨-1, tr, fc, to, bx, mo, su, wy, wa, od, ?_, ?_, hcl⟩
    · unfold K_oddsBy
      rw [if_pos (u_sd hc _)]
    · unfold M_oddsBy
      rw [if_pos (u_th hm _)]
noncomputable def gpv (S : St) (m : Mm) : Int := if oU S m 0 ≤ oU S m 1 then oU S m 1 - oU S m 0 else oU S m 0 - oU S m 1
theorem gpv_b (hS : okS S) (m : Mm) : 0 ≤ gpv S m ∧ gpv S m ≤ oL S m := by
  have h0 := oU_b hS m (s := 0) (by omega)
  have h1 := oU_b hS m (s := 1) (by omega)
  unfold gpv
  split <;> omega
theorem c_gap (hS : okS S) (hA : fc_winsOfA fc = wJ (oU S m 0)) (hB : fc_winsOfB fc = wJ (oU S m 1)) : Fc_gap fc = wJ (gpv S m) := by
  have h0 := oU_b hS m (s := 0) (by omega)
  have h1 := oU_b hS m (s := 1) (by omega)
  unfold Fc_gap gpv
  rw [hA, hB, wJ_sub, wJ_sub]
  simp only [lg_cmp_le]
  simp (disch := omega) only [wJ_le]
  split <;> rfl
theorem r_gap (hF : 1100 ≤ F) (hp : okP p) (hm : mP p row) (bx : Bx) (mo : Mo) (su : Su) (wy : Wy) (wa : Wa) {o : Nat} (ho : o ≤ 3) : ∃ bx' mo' su' wy' wa', M_layUnfair F row bx mo su wy wa (wI o) = some (bx', mo', su', wy', wa', (wJ (gpv (stB p.1 o (sf p.1)) (0, 0, 0, sf p.1)), wJ (oL (stB p.1 o (sf p.1)) (0, 0, 0, sf p.1)))) := by
  have hS := okB hp.1 ho hp.1.2.2.2.1
  obtain ⟨bx', mo', e2, h2⟩ := r_by hF hp hm bx mo (o := o) (f := sf p.1) ho hp.1.2.2.2.1
  obtain ⟨mo2, su2, wy2, wa2, e3, hM2⟩ := h2 mo' (Or.inr rfl) 0 su wy wa (by omega)
  obtain ⟨mo3, su3, wy3, wa3, e4, hM3⟩ := h2 mo2 (Or.inl hM2) 1 su2 wy2 wa2 (by omega)
  refine ⟨bx', mo3, su3, wy3, wa3, ?_⟩
  have b0 := oU_b hS (0, 0, 0, sf p.1) (s := 0) (by omega)
  have b1 := oU_b hS (0, 0, 0, sf p.1) (s := 1) (by omega)
  have e3 : M_layOdds F row bx' mo' su wy wa 0 = _ := e3
  have e4 : M_layOdds F row bx' mo2 su2 wy2 wa2 1 = _ := e4
  unfold M_layUnfair
  rw [show row 2 = wI (sf p.1) from hm.2.2.1, e2, z_bd_s, e3, z_bd_s, z_let_e, e4, z_bd_s, z_let_e]
  show some (bx', mo3, su3, wy3, wa3, (_, _)) = _
  have eg : (if 0 ≤ (lg_cmp (wJ (oU (stB p.1 o (sf p.1)) (0, 0, 0, sf p.1) 0)) (wJ (oU (stB p.1 o (sf p.1)) (0, 0, 0, sf p.1) 1))) then (wJ (oU (stB p.1 o (sf p.1)) (0, 0, 0, sf p.1) 0) - wJ (oU (stB p.1 o (sf p.1)) (0, 0, 0, sf p.1) 1)) else (wJ (oU (stB p.1 o (sf p.1)) (0, 0, 0, sf p.1) 1) - wJ (oU (stB p.1 o (sf p.1)) (0, 0, 0, sf p.1) 0))) = wJ (gpv (stB p.1 o (sf p.1)) (0, 0, 0, sf p.1)) := by
    unfold gpv
    generalize oU (stB p.1 o (sf p.1)) (0, 0, 0, sf p.1) 0 = A at b0 ⊢
    generalize oU (stB p.1 o (sf p.1)) (0, 0, 0, sf p.1) 1 = B at b1 ⊢
    rw [wJ_sub, wJ_sub]
    simp only [lg_cmp_ge]
    simp (disch := omega) only [wJ_le]
    by_cases h : A ≤ B
    · rw [if_pos h]
      by_cases h2 : B ≤ A
      · rw [if_pos h2]; exact wJ_c (by omega)
      · rw [if_neg h2]
    · rw [if_neg h, if_pos (by omega)]
  rw [eg]
theorem q_unfair (hF : 1100 ≤ F) (hp : okP p ∨ p = p00) (hc : cP p now) (hm : mP p row) (hcl : cln fc) (tr : Sh) (to : Fr) (bx : Bx) (mo : Mo) (su : Su) (wy : Wy) (wa : Wa) (od : Od) (x y : Int32) : ∃ r tr' fc' to' bx' mo' su' wy' wa' od', K_unfair F now tr fc to x y = some (r, tr', fc', to') ∧ M_unfair F row bx mo su wy wa od x y = some (r, 0, bx', mo', su', wy', wa', od') ∧ cln fc' := by
  obtain ⟨b, rfl, b1, b2⟩ := wI_of x
  obtain ⟨d, rfl, d1, d2⟩ := wI_of y
  rcases hp with hp | rfl
  · by_cases q2 : 0 ≤ b ∧ b ≤ 3
    · have n3 : ¬ K_isOrder (wI b) = 0 := fun h => (order_z b1 b2).mp h q2
      have n4 : ¬ M_in (wI b).toInt64 0 3 = 0 := fun h => (in_z (lo := 0) (hi := 3) b1 b2 (by omega) (by omega) (by omega) (by omega)).mp h q2
      by_cases q4 : 0 ≤ d ∧ d ≤ 1
      · have n7 : ¬ K_isPart (wI d) = 0 := fun h => (part_z d1 d2).mp h q4
        have n8 : ¬ M_in (wI d).toInt64 0 1 = 0 := fun h => (in_z (lo := 0) (hi := 1) d1 d2 (by omega) (by omega) (by omega) (by omega)).mp h q4
        obtain ⟨o, rfl⟩ : ∃ s : Nat, b = s := ⟨b.toNat, by omega⟩
        have hS := okB hp.1 (show o ≤ 3 by omega) hp.1.2.2.2.1
        obtain ⟨tr', fc', e1, cl, hA, hB, hW⟩ := l_by (F := F) (by omega) hp hc hcl tr (o := o) (f := sf p.1) (by omega) hp.1.2.2.2.1
        obtain ⟨bx', mo', su', wy', wa', e2⟩ := r_gap hF hp hm bx mo su wy wa (o := o) (by omega)
        have g1 := gpv_b hS (0, 0, 0, sf p.1)
        have g2 := oU_b hS (0, 0, 0, sf p.1) (s := 0) (by omega)
        obtain ⟨fr, e4, e5⟩ := rd_told (F := F) (by omega) (a := gpv (stB p.1 o (sf p.1)) (0, 0, 0, sf p.1)) (b := oL (stB p.1 o (sf p.1)) (0, 0, 0, sf p.1)) (by omega) (by omega) (by omega) (by omega)
        refine ⟨Fr_part fr (wI d), tr', fc', fr, bx', mo', su', wy', wa', (wJ (gpv (stB p.1 o (sf p.1)) (0, 0, 0, sf p.1)), wJ (oL (stB p.1 o (sf p.1)) (0, 0, 0, sf p.1))), ?_, ?_, cl⟩
        · unfold K_unfair
          rw [if_neg (t_now hp hc).1, if_neg n3, if_neg n7, hc.1.2.2.1, e1, z_bd_s, c_gap hS hA hB, hW, f_put (by omega) (by omega), z_let_e, e4, z_bd_s]
        · unfold M_unfair
          rw [if_neg (t_row hp hm), if_neg n4, if_neg n8, e2, z_bd_s, e5, z_bd_s]
      · refine ⟨-1, tr, fc, to, bx, mo, su, wy, wa, od, ?_, ?_, hcl⟩
        · unfold K_unfair
          rw [if_neg (t_now hp hc).1, if_neg n3, if_pos ((part_z d1 d2).mpr q4)]
        · unfold M_unfair
          rw [if_neg (t_row hp hm), if_neg n4]
          exact if_pos ((in_z (lo := 0) (hi := 1) d1 d2 (by omega) (by omega) (by omega) (by omega)).mpr q4)
    · refine ⟨-1, tr, fc, to, bx, mo, su, wy, wa, od, ?_, ?_, hcl⟩
      · unfold K_unfair
        rw [if_neg (t_now hp hc).1, if_pos ((order_z b1 b2).mpr q2)]
      · unfold M_unfair
        rw [if_neg (t_row hp hm)]
        exact if_pos ((in_z (lo := 0) (hi := 3) b1 b2 (by omega) (by omega) (by omega) (by omega)).mpr q2)
  · refine ⟨-1, tr, fc, to, bx, mo, su, wy, wa, od, ?_, ?_, hcl⟩
    · unfold K_unfair
      rw [if_pos (u_now hc)]
    · unfold M_unfair
      rw [if_pos (u_row hm)]
theorem f_against {F : Nat} (hF : 200 ≤ F) {a b c d : Int} (h1 : 0 ≤ a) (h2 : a < 4611686018427387904) (h3 : 0 < b) (h4 : b < 4611686018427387904) (h5 : 0 ≤ c) (h6 : c < 4611686018427387904) (h7 : 0 < d) (h8 : d < 4611686018427387904) : Fr_compareFractions F (wJ a) (wJ b) (wJ c) (wJ d) = some (wI (cm4 a.toNat b.toNat c.toNat d.toNat)) ∧ M_against F (wJ a) (wJ b) (wJ c) (wJ d) = some (wI (cm4 a.toNat b.toNat c.toNat d.toNat)) := by
  obtain ⟨a, rfl⟩ : ∃ s : Nat, a = s := ⟨a.toNat, by omega⟩
  obtain ⟨b, rfl⟩ : ∃ s : Nat, b = s := ⟨b.toNat, by omega⟩
  obtain ⟨c, rfl⟩ : ∃ s : Nat, c = s := ⟨c.toNat, by omega⟩
  obtain ⟨d, rfl⟩ : ∃ s : Nat, d = s := ⟨d.toNat, by omega⟩
  simp only [Int.toNat_natCast]
  exact ⟨cf_top hF (by omega) (by omega) (by omega) (by omega) (by omega) (by omega), ag_top hF (by omega) (by omega) (by omega) (by omega) (by omega) (by omega)⟩
theorem cm4_b (a b c d : Nat) : cm4 a b c d = -1 ∨ cm4 a b c d = 0 ∨ cm4 a b c d = 1 := by
  unfold cm4
  repeat' split
  all_goals omega
theorem q_toss (hF : 1100 ≤ F) (hp : okP p ∨ p = p00) (hc : cP p now) (hm : mP p row) (hcl : cln fc) (tr : Sh) (to tp : Fr) (bx : Bx) (mo : Mo) (su : Su) (wy : Wy) (wa : Wa) (od : Od) (x y : Int32) : ∃ r tr' fc' to' tp' bx' mo' su' wy' wa' od', K_toss F now tr fc to tp x y = some (r, tr', fc', to', tp') ∧ M_toss F row bx mo su wy wa od x y = some (r, 0, bx', mo', su', wy', wa', od') ∧ cln fc' := by
  obtain ⟨a, rfl, a1, a2⟩ := wI_of x
  obtain ⟨b, rfl, b1, b2⟩ := wI_of y
  rcases hp with hp | rfl
  · by_cases q1 : 0 ≤ a ∧ a ≤ 1
    · have n1 : ¬ K_isSideTold now (wI a) = 0 := fun h => (t_sd hp hc a1 a2).mp h q1
      have n2 : ¬ M_isThere row (wI a) = 0 := fun h => (t_th hp hm a1 a2).mp h q1
      by_cases q2 : 0 ≤ b ∧ b ≤ 3
      · have n3 : ¬ K_isOrder (wI b) = 0 := fun h => (order_z b1 b2).mp h q2
        have n4 : ¬ M_in (wI b).toInt64 0 3 = 0 := fun h => (in_z (lo := 0) (hi := 3) b1 b2 (by omega) (by omega) (by omega) (by omega)).mp h q2
        obtain ⟨s, rfl⟩ : ∃ s : Nat, a = s := ⟨a.toNat, by omega⟩
        obtain ⟨o, rfl⟩ : ∃ s : Nat, b = s := ⟨b.toNat, by omega⟩
        have h1s : 1 - wI (s : Int) = wI ((1 - s : Nat) : Int) := by rw [wI_1, wI_sub]; exact wI_c (by omega)
        obtain ⟨tr1, fc1, e1, cl1, hA1, hB1, hW1⟩ := l_by (F := F) (by omega) hp hc hcl tr (o := o) (f := s) (by omega) (by omega)
        obtain ⟨tr2, fc2, e2, cl2, hA2, hB2, hW2⟩ := l_by (F := F) (by omega) hp hc cl1 tr1 (o := o) (f := 1 - s) (by omega) (by omega)
        obtain ⟨bx1, mo1, e3, h3⟩ := r_by hF hp hm bx mo (o := o) (f := s) (by omega) (by omega)
        obtain ⟨mo2, su2, wy2, wa2, e4, hM2⟩ := h3 mo1 (Or.inr rfl) s su wy wa (by omega)
        obtain ⟨bx3, mo3, e5, h5⟩ := r_by hF hp hm bx1 mo2 (o := o) (f := 1 - s) (by omega) (by omega)
        obtain ⟨mo4, su4, wy4, wa4, e6, hM4⟩ := h5 mo3 (Or.inr rfl) s su2 wy2 wa2 (by omega)
        have u1 := oU_b (okB hp.1 (show o ≤ 3 by omega) (show s ≤ 1 by omega)) (0, 0, 0, s) (s := s) (by omega)
        have u2 := oU_b (okB hp.1 (show o ≤ 3 by omega) (show 1 - s ≤ 1 by omega)) (0, 0, 0, 1 - s) (s := s) (by omega)
        have hag := f_against (F := F) (by omega) (a := oU (stB p.1 o s) (0, 0, 0, s) s) (b := oL (stB p.1 o s) (0, 0, 0, s)) (c := oU (stB p.1 o (1 - s)) (0, 0, 0, 1 - s) s) (d := oL (stB p.1 o (1 - s)) (0, 0, 0, 1 - s)) (by omega) (by omega) (by omega) (by omega) (by omega) (by omega) (by omega) (by omega)
        have hcb := cm4_b (oU (stB p.1 o s) (0, 0, 0, s) s).toNat (oL (stB p.1 o s) (0, 0, 0, s)).toNat (oU (stB p.1 o (1 - s)) (0, 0, 0, 1 - s) s).toNat (oL (stB p.1 o (1 - s)) (0, 0, 0, 1 - s)).toNat
        generalize hcc : cm4 (oU (stB p.1 o s) (0, 0, 0, s) s).toNat (oL (stB p.1 o s) (0, 0, 0, s)).toNat (oU (stB p.1 o (1 - s)) (0, 0, 0, 1 - s) s).toNat (oL (stB p.1 o (1 - s)) (0, 0, 0, 1 - s)).toNat = cc at hag hcb
        refine ⟨if wI cc ≤ 0 then (if 0 ≤ wI cc then 2 else 1) else 0, tr2, fc2, (wJ (oU (stB p.1 o s) (0, 0, 0, s) s), wJ (oL (stB p.1 o s) (0, 0, 0, s))), (wJ (oU (stB p.1 o (1 - s)) (0, 0, 0, 1 - s) s), wJ (oL (stB p.1 o (1 - s)) (0, 0, 0, 1 - s))), bx3, mo4, su4, wy4, wa4, (wJ (oU (stB p.1 o (1 - s)) (0, 0, 0, 1 - s) s), wJ (oL (stB p.1 o (1 - s)) (0, 0, 0, 1 - s))), ?_, ?_, cl2⟩
        · unfold K_toss
          rw [if_neg n1, if_neg n3, e1, z_bd_s, c_wins hA1 hB1 (by omega), hW1, f_put (by omega) (by omega), z_let_e, h1s, e2, z_bd_s, c_wins hA2 hB2 (by omega), hW2, f_put (by omega) (by omega), z_let_e]
          unfold Fr_against
          rw [hag.1, z_bd_s, z_bd_s]
          rcases hcb with h | h | h <;> rw [h] <;> rfl
        · unfold M_toss
          rw [if_neg n2, if_neg n4, e3, z_bd_s, e4, z_bd_s, z_let_e, z_let_e, h1s, e5, z_bd_s, e6, z_bd_s, hag.2, z_bd_s]
          rcases hcb with h | h | h <;> rw [h] <;> rfl
      · refine ⟨-1, tr, fc, to, tp, bx, mo, su, wy, wa, od, ?_, ?_, hcl⟩
        · unfold K_toss
          rw [if_neg n1, if_pos ((order_z b1 b2).mpr q2)]
        · unfold M_toss
          rw [if_neg n2]
          exact if_pos ((in_z (lo := 0) (hi := 3) b1 b2 (by omega) (by omega) (by omega) (by omega)).mpr q2)
    · refine ⟨-1, tr, fc, to, tp, bx, mo, su, wy, wa, od, ?_, ?_, hcl⟩
      · unfold K_toss
        rw [if_pos ((t_sd hp hc a1 a2).mpr q1)]
      · unfold M_toss
        rw [if_pos ((t_th hp hm a1 a2).mpr q1)]
  · refine ⟨-1, tr, fc, to, tp, bx, mo, su, wy, wa, od, ?_, ?_, hcl⟩
    · unfold K_toss
      rw [if_pos (u_sd hc _)]
    · unfold M_toss
      rw [if_pos (u_th hm _)]
end ZPO

/-! ROWS AT REST -/
theorem row_ok : ∀ n, n < 6 → ∀ i, i < fc5 n → enc (pm n i) < 10 ^ n ∧ oN (fun k => enc (pm n i) / 10 ^ (n - 1 - k) % 10) n = 2 ^ n - 1 := by decide +kernel
theorem row_pq : ∀ n, n < 6 → ∀ i, i < fc5 n → ∀ k, k < n → enc (pm n i) / 10 ^ (n - 1 - k) % 10 = pq n i k := by decide +kernel
def st2 (S : St) (a b : Nat) : St := stR (stR S 0 (pq (sn S) a)) 1 (pq (sn S) b)
noncomputable def u2 (S : St) (s a b : Nat) : Int := oU (st2 S a b) (0, 0, 0, sf S) s
noncomputable def l2 (S : St) (a b : Nat) : Int := oL (st2 S a b) (0, 0, 0, sf S)
section ZRT
variable {p : Po} {now tr : Sh} {row : MRow} {S : St} {fc : Fc} {gl : Nat → Nat} {k : Nat} {re : Re}
theorem ok2 (hS : okS S) {a b : Nat} (ha : a < fc5 (sn S)) (hb : b < fc5 (sn S)) : okS (st2 S a b) := by
  have hn5 := hS.2.1
  refine okR (S := stR S 0 (pq (sn S) a)) (okR hS (by omega) (fun k hk => (row_dg _ (by omega) a ha k hk).2)) (by omega) (fun k hk => (row_dg _ (by omega) b hb k hk).2)
theorem u2_b (hS : okS S) {a b s : Nat} (ha : a < fc5 (sn S)) (hb : b < fc5 (sn S)) (hs : s ≤ 1) : 0 ≤ u2 S s a b ∧ u2 S s a b ≤ l2 S a b ∧ 0 < l2 S a b ∧ l2 S a b ≤ 3656158440062976 := oU_b (ok2 hS ha hb) _ hs
/-- less by the pairs of numbers -/
def lt2 (U L V M : Int) : Prop := U * M < V * L
theorem lt2_tr' {U0 L0 U1 L1 U2 L2 : Int} (h0 : 0 < L0) (h1 : 0 < L1) (h2 : 0 < L2) (g1 : ¬ lt2 U1 L1 U0 L0) (g2 : lt2 U1 L1 U2 L2) : lt2 U0 L0 U2 L2 := by
  unfold lt2 at *
  have a1 := Int.mul_le_mul_of_nonneg_right (show U0 * L1 ≤ U1 * L0 by omega) (Int.le_of_lt h2)
  have a2 := Int.mul_lt_mul_of_pos_right g2 h0
  have e1 : U1 * L0 * L2 = U1 * L2 * L0 := by rw [Int.mul_assoc, Int.mul_comm L0 L2, ← Int.mul_assoc]
  have e2 : U0 * L1 * L2 = U0 * L2 * L1 := by rw [Int.mul_assoc, Int.mul_comm L1 L2, ← Int.mul_assoc]
  have e3 : U2 * L1 * L0 = U2 * L0 * L1 := by rw [Int.mul_assoc, Int.mul_comm L1 L0, ← Int.mul_assoc]
  exact Int.lt_of_mul_lt_mul_right (a := L1) (by omega) (by omega)
def rst (S : St) (a b : Nat) : Prop := (∀ o, o < fc5 (sn S) → ¬ lt2 (u2 S 0 a b) (l2 S a b) (u2 S 0 o b) (l2 S o b)) ∧ (∀ o, o < fc5 (sn S) → ¬ lt2 (u2 S 1 a b) (l2 S a b) (u2 S 1 a o) (l2 S a o))
noncomputable def stp (S : St) (a b : Nat) (u : Nat × Int) : Nat × Int := @ite _ (rst S a b) (Classical.propDecidable _) (u.1 + 1, if u.1 = 0 then 24 * (a : Int) + b else u.2) u
noncomputable def rwS (S : St) (a : Nat) : Nat → Nat × Int → Nat × Int
  | 0, u => u
  | j + 1, u => stp S a j (rwS S a j u)
noncomputable def alS (S : St) : Nat → Nat × Int
  | 0 => (0, -1)
  | a + 1 => rwS S a (fc5 (sn S)) (alS S a)
/-! the class: what is taken -/
def prd (a b x y : Nat) : Prop := x < a ∨ (x = a ∧ y < b)
def tkn (S : St) (a b : Nat) (re : Re) : Prop := re_rows re = wI ((fc5 (sn S) : Nat) : Int) ∧
  (∀ x y, x < fc5 (sn S) → y < fc5 (sn S) → prd a b x y → re_winsOfA re (24 * x + y) = wJ (u2 S 0 x y) ∧ re_winsOfB re (24 * x + y) = wJ (u2 S 1 x y) ∧ re_wholes re (24 * x + y) = wJ (l2 S x y)) ∧
  (∀ y, y < fc5 (sn S) → (re_bestOfA re y = -1 ∧ ∀ x, x < fc5 (sn S) → ¬ prd a b x y) ∨ ∃ x, x < fc5 (sn S) ∧ prd a b x y ∧ re_bestOfA re y = wI ((24 * x + y : Nat) : Int) ∧ ∀ o, o < fc5 (sn S) → prd a b o y → ¬ lt2 (u2 S 0 x y) (l2 S x y) (u2 S 0 o y) (l2 S o y)) ∧
  (∀ x, x < fc5 (sn S) → (re_bestOfB re x = -1 ∧ ∀ y, y < fc5 (sn S) → ¬ prd a b x y) ∨ ∃ y, y < fc5 (sn S) ∧ prd a b x y ∧ re_bestOfB re x = wI ((24 * x + y : Nat) : Int) ∧ ∀ o, o < fc5 (sn S) → prd a b x o → ¬ lt2 (u2 S 1 x y) (l2 S x y) (u2 S 1 x o) (l2 S x o))
theorem c_cmp {w : Nat → Int64} {i j : Nat} {U L V M : Int} (hi : i < 576) (hj : j < 576) (h1 : w i = wJ U) (h2 : re_wholes re i = wJ L) (h3 : w j = wJ V) (h4 : re_wholes re j = wJ M) (b1 : 0 ≤ U) (b2 : U ≤ L) (b3 : 0 < L) (b4 : L ≤ 3656158440062976) (c1 : 0 ≤ V) (c2 : V ≤ M) (c3 : 0 < M) (c4 : M ≤ 3656158440062976) : Re_compareOdds FF re w (wI (i : Nat)) (wI (j : Nat)) = some (wI (cm4 U.toNat L.toNat V.toNat M.toNat)) := by
  unfold Re_compareOdds
  rw [if_neg (by rw [wI_0, wI_lt (by omega) (by omega) (by omega) (by omega)]; omega), if_neg (by rw [wI_576, wI_le (by omega) (by omega) (by omega) (by omega)]; omega), if_neg (by rw [wI_0, wI_lt (by omega) (by omega) (by omega) (by omega)]; omega), if_pos (by rw [wI_576, wI_lt (by omega) (by omega) (by omega) (by omega)]; omega), z_gd_e (wI_in (by omega) (by omega) (by omega)), z_gd_e (wI_in (by omega) (by omega) (by omega)), wI_ix (by omega), wI_ix (by omega), h1, h2, h3, h4, (f_against (F := FF) (by decide) b1 (by omega) b3 (by omega) c1 (by omega) c3 (by omega)).1, z_bd_s]
theorem c_take (hS : okS S) (hn4 : sn S ≤ 4) {a b : Nat} (ha : a < fc5 (sn S)) (hb : b < fc5 (sn S)) (hA : fc_winsOfA fc = wJ (u2 S 0 a b)) (hB : fc_winsOfB fc = wJ (u2 S 1 a b)) (hW : fc_whole fc = wJ (l2 S a b)) (ht : tkn S a b re) : ∃ re', Re_take FF re fc (wI (a : Nat)) (wI (b : Nat)) = some re' ∧ tkn S a (b + 1) re' := by
  have h24 := fc5_4 (sn S) (by omega)
  obtain ⟨t1, t2, t3, t4⟩ := ht
  have hub0 := u2_b hS ha hb (s := 0) (by omega)
  have hub1 := u2_b hS ha hb (s := 1) (by omega)
  obtain ⟨ix, hix⟩ : ∃ ix : Nat, ix = 24 * a + b := ⟨_, rfl⟩
  have hx5 : wI (a : Int) * 24 + wI (b : Int) = wI (ix : Int) := by rw [wI_24, wI_mul, wI_add]; exact wI_c (by omega)
  have hixn : (wI (ix : Int)).toNatClampNeg = ix := wI_ix (by omega)
  have ha24 : (wI (a : Int)).toNatClampNeg = a := wI_ix (by omega)
  have hb24 : (wI (b : Int)).toNatClampNeg = b := wI_ix (by omega)
  have gix : z_in (wI (ix : Int)) 576 = true := wI_in (by omega) (by omega) (by omega)
  have ga : z_in (wI (a : Int)) 24 = true := wI_in (by omega) (by omega) (by omega)
  have gb : z_in (wI (b : Int)) 24 = true := wI_in (by omega) (by omega) (by omega)
  obtain ⟨wA, hwA⟩ : ∃ w, w = vp_updL (re_winsOfA re) ix (wJ (u2 S 0 a b)) := ⟨_, rfl⟩
  obtain ⟨wB, hwB⟩ : ∃ w, w = vp_updL (re_winsOfB re) ix (wJ (u2 S 1 a b)) := ⟨_, rfl⟩
  obtain ⟨wL, hwL⟩ : ∃ w, w = vp_updL (re_wholes re) ix (wJ (l2 S a b)) := ⟨_, rfl⟩
  -- what is laid now
  have hlaid : ∀ x y, x < fc5 (sn S) → y < fc5 (sn S) → prd a (b + 1) x y → wA (24 * x + y) = wJ (u2 S 0 x y) ∧ wB (24 * x + y) = wJ (u2 S 1 x y) ∧ wL (24 * x + y) = wJ (l2 S x y) := fun x y hx hy h => by
    rw [hwA, hwB, hwL]
    by_cases he : x = a ∧ y = b
    · rw [he.1, he.2, ← hix, updL_s, updL_s, updL_s]
      exact ⟨rfl, rfl, rfl⟩
    · have hne : 24 * x + y ≠ ix := by omega
      rw [updL_n hne, updL_n hne, updL_n hne]
      refine t2 x y hx hy ?_
      unfold prd at *
      omega
  have hself : prd a (b + 1) a b := Or.inr ⟨rfl, by omega⟩
  have hls := hlaid a b ha hb hself
  rw [← hix] at hls
  have hmono : ∀ x y, prd a b x y → prd a (b + 1) x y := fun x y h => by unfold prd at *; omega
  have hnew : ∀ x y, prd a (b + 1) x y → prd a b x y ∨ (x = a ∧ y = b) := fun x y h => by unfold prd at *; omega
  -- the best of a's rows
  have stepA : ∃ bA : Nat → Int32, (∀ (K : Re → Option Re), z_jn (fun _ : Unit => z_gd (z_in (wI (b : Int)) 24) (K (wA, wB, wL, (upd (re_bestOfA re) b (wI (ix : Int))), (re_bestOfB re), (re_rows re), (re_known re), (re_pairs re), (re_rowOfA re), (re_rowOfB re)))) (fun k24 => if ((re_bestOfA re) b) < 0 then (k24 ()) else (z_gd (z_in (wI (b : Int)) 24) (z_bd (Re_compareOdds FF (wA, wB, wL, (re_bestOfA re), (re_bestOfB re), (re_rows re), (re_known re), (re_pairs re), (re_rowOfA re), (re_rowOfB re)) wA (wI (ix : Int)) ((re_bestOfA re) b)) (fun r29 : Int32 => if r29 ≤ 0 then (K (wA, wB, wL, (re_bestOfA re), (re_bestOfB re), (re_rows re), (re_known re), (re_pairs re), (re_rowOfA re), (re_rowOfB re))) else (k24 ()))))) = K (wA, wB, wL, bA, (re_bestOfB re), (re_rows re), (re_known re), (re_pairs re), (re_rowOfA re), (re_rowOfB re))) ∧ (∀ y, y ≠ b → bA y = re_bestOfA re y) ∧ (∃ x, x < fc5 (sn S) ∧ prd a (b + 1) x b ∧ bA b = wI ((24 * x + b : Nat) : Int) ∧ ∀ o, o < fc5 (sn S) → prd a (b + 1) o b → ¬ lt2 (u2 S 0 x b) (l2 S x b) (u2 S 0 o b) (l2 S o b)) := by
    have irr : ∀ x y, ¬ lt2 (u2 S 0 x y) (l2 S x y) (u2 S 0 x y) (l2 S x y) := fun x y h => by unfold lt2 at h; omega
    rcases t3 b hb with ⟨h1, h2⟩ | ⟨x, hx, hpx, h1, h2⟩
    · refine ⟨upd (re_bestOfA re) b (wI (ix : Int)), fun K => ?_, fun y hy => upd_n hy, a, ha, hself, by rw [upd_s, hix], fun o ho hpo => ?_⟩
      · rw [z_jn_e, h1, if_pos (by decide), z_gd_e gb]
      · rcases hnew o b hpo with h | h
        · exact absurd h (h2 o ho)
        · rw [h.1]; exact irr a b
    · have hux := u2_b hS hx hb (s := 0) (by omega)
      have hlx := hlaid x b hx hb (hmono x b hpx)
      have hcmp := c_cmp (re := (wA, wB, wL, (re_bestOfA re), (re_bestOfB re), (re_rows re), (re_known re), (re_pairs re), (re_rowOfA re), (re_rowOfB re))) (w := wA) (i := ix) (j := 24 * x + b) (by omega) (by omega) hls.1 hls.2.2 hlx.1 hlx.2.2 hub0.1 hub0.2.1 hub0.2.2.1 hub0.2.2.2 hux.1 hux.2.1 hux.2.2.1 hux.2.2.2
      have hgt := cm4_gt (a := u2 S 0 a b) (b := l2 S a b) (c := u2 S 0 x b) (d := l2 S x b) hub0.1 hub0.2.2.1 hux.1 hux.2.2.1
      have hbn : ¬ wI ((24 * x + b : Nat) : Int) < 0 := by rw [wI_0, wI_lt (by omega) (by omega) (by omega) (by omega)]; omega
      by_cases hle : wI (cm4 (u2 S 0 a b).toNat (l2 S a b).toNat (u2 S 0 x b).toNat (l2 S x b).toNat) ≤ 0
      · refine ⟨re_bestOfA re, fun K => ?_, fun y _ => rfl, x, hx, hmono x b hpx, h1, fun o ho hpo => ?_⟩
        · rw [z_jn_e, h1, if_neg hbn, z_gd_e gb, hcmp, z_bd_s, if_pos hle]
        · rcases hnew o b hpo with h | h
          · exact h2 o ho h
          · rw [h.1]; exact hgt.mp hle
      · have hg : lt2 (u2 S 0 x b) (l2 S x b) (u2 S 0 a b) (l2 S a b) := Classical.byContradiction (fun hn => hle (hgt.mpr hn))
        refine ⟨upd (re_bestOfA re) b (wI (ix : Int)), fun K => ?_, fun y hy => upd_n hy, a, ha, hself, by rw [upd_s, hix], fun o ho hpo => ?_⟩
        · rw [z_jn_e, h1, if_neg hbn, z_gd_e gb, hcmp, z_bd_s, if_neg hle, z_gd_e gb]
        · rcases hnew o b hpo with h | h
          · intro hlt
            exact h2 o ho h (gt_tr hux.2.2.1 hub0.2.2.1 (u2_b hS ho hb (s := 0) (by omega)).2.2.1 hg hlt)
          · rw [h.1]; exact irr a b
  obtain ⟨bA, sA1, sA2, sA3⟩ := stepA
  have stepB : ∃ bB : Nat → Int32, (z_jn (fun _ : Unit => z_gd (z_in (wI (a : Int)) 24) (some (wA, wB, wL, bA, (upd (re_bestOfB re) a (wI (ix : Int))), (re_rows re), (re_known re), (re_pairs re), (re_rowOfA re), (re_rowOfB re)))) (fun k17 => if ((re_bestOfB re) a) < 0 then (k17 ()) else (z_gd (z_in (wI (a : Int)) 24) (z_bd (Re_compareOdds FF (wA, wB, wL, bA, (re_bestOfB re), (re_rows re), (re_known re), (re_pairs re), (re_rowOfA re), (re_rowOfB re)) wB (wI (ix : Int)) ((re_bestOfB re) a)) (fun r22 : Int32 => if r22 ≤ 0 then (some (wA, wB, wL, bA, (re_bestOfB re), (re_rows re), (re_known re), (re_pairs re), (re_rowOfA re), (re_rowOfB re))) else (k17 ())))))) = some (wA, wB, wL, bA, bB, (re_rows re), (re_known re), (re_pairs re), (re_rowOfA re), (re_rowOfB re)) ∧ (∀ x, x ≠ a → bB x = re_bestOfB re x) ∧ (∃ y, y < fc5 (sn S) ∧ prd a (b + 1) a y ∧ bB a = wI ((24 * a + y : Nat) : Int) ∧ ∀ o, o < fc5 (sn S) → prd a (b + 1) a o → ¬ lt2 (u2 S 1 a y) (l2 S a y) (u2 S 1 a o) (l2 S a o)) := by
    have irr : ∀ x y, ¬ lt2 (u2 S 1 x y) (l2 S x y) (u2 S 1 x y) (l2 S x y) := fun x y h => by unfold lt2 at h; omega
    rcases t4 a ha with ⟨h1, h2⟩ | ⟨y, hy, hpy, h1, h2⟩
    · refine ⟨upd (re_bestOfB re) a (wI (ix : Int)), ?_, fun x hx => upd_n hx, b, hb, hself, by rw [upd_s, hix], fun o ho hpo => ?_⟩
      · rw [z_jn_e, h1, if_pos (by decide), z_gd_e ga]
      · rcases hnew a o hpo with h | h
        · exact absurd h (h2 o ho)
        · rw [h.2]; exact irr a b
    · have hux := u2_b hS ha hy (s := 1) (by omega)
      have hlx := hlaid a y ha hy (hmono a y hpy)
      have hcmp := c_cmp (re := (wA, wB, wL, bA, (re_bestOfB re), (re_rows re), (re_known re), (re_pairs re), (re_rowOfA re), (re_rowOfB re))) (w := wB) (i := ix) (j := 24 * a + y) (by omega) (by omega) hls.2.1 hls.2.2 hlx.2.1 hlx.2.2 hub1.1 hub1.2.1 hub1.2.2.1 hub1.2.2.2 hux.1 hux.2.1 hux.2.2.1 hux.2.2.2
      have hgt := cm4_gt (a := u2 S 1 a b) (b := l2 S a b) (c := u2 S 1 a y) (d := l2 S a y) hub1.1 hub1.2.2.1 hux.1 hux.2.2.1
      have hbn : ¬ wI ((24 * a + y : Nat) : Int) < 0 := by rw [wI_0, wI_lt (by omega) (by omega) (by omega) (by omega)]; omega
      by_cases hle : wI (cm4 (u2 S 1 a b).toNat (l2 S a b).toNat (u2 S 1 a y).toNat (l2 S a y).toNat) ≤ 0
      · refine ⟨re_bestOfB re, ?_, fun x _ => rfl, y, hy, hmono a y hpy, h1, fun o ho hpo => ?_⟩
        · rw [z_jn_e, h1, if_neg hbn, z_gd_e ga, hcmp, z_bd_s, if_pos hle]
        · rcases hnew a o hpo with h | h
          · exact h2 o ho h
          · rw [h.2]; exact hgt.mp hle
      · have hg : lt2 (u2 S 1 a y) (l2 S a y) (u2 S 1 a b) (l2 S a b) := Classical.byContradiction (fun hn => hle (hgt.mpr hn))
        refine ⟨upd (re_bestOfB re) a (wI (ix : Int)), ?_, fun x hx => upd_n hx, b, hb, hself, by rw [upd_s, hix], fun o ho hpo => ?_⟩
        · rw [z_jn_e, h1, if_neg hbn, z_gd_e ga, hcmp, z_bd_s, if_neg hle, z_gd_e ga]
        · rcases hnew a o hpo with h | h
          · intro hlt
            exact h2 o ho h (gt_tr hux.2.2.1 hub1.2.2.1 (u2_b hS ha ho (s := 1) (by omega)).2.2.1 hg hlt)
          · rw [h.2]; exact irr a b
  obtain ⟨bB, sB1, sB2, sB3⟩ := stepB
  refine ⟨(wA, wB, wL, bA, bB, (re_rows re), (re_known re), (re_pairs re), (re_rowOfA re), (re_rowOfB re)), ?_, t1, hlaid, fun y hy => ?_, fun x hx => ?_⟩
  · unfold Re_take
    rw [t1, if_neg (by rw [wI_0, wI_lt (by omega) (by omega) (by omega) (by omega)]; omega), if_neg (by rw [wI_le (by omega) (by omega) (by omega) (by omega)]; omega), if_neg (by rw [wI_0, wI_lt (by omega) (by omega) (by omega) (by omega)]; omega), if_pos (by rw [wI_lt (by omega) (by omega) (by omega) (by omega)]; omega), hx5, z_let_e, hA, z_let_e, z_gd_e gix, hB, z_let_e, z_gd_e gix, hW, z_let_e, z_gd_e gix, z_gd_e gb, hixn, ha24, hb24, ← hwA, ← hwB, ← hwL, ← t1]
    refine (z_jn_c (wA, wB, wL, bA, (re_bestOfB re), (re_rows re), (re_known re), (re_pairs re), (re_rowOfA re), (re_rowOfB re)) (fun K => sA1 K)).trans ?_
    refine (z_gd_e ga).trans ?_
    exact sB1
  · by_cases he : y = b
    · subst he
      exact Or.inr sA3
    · show (bA y = -1 ∧ _) ∨ ∃ x, _ ∧ _ ∧ bA y = _ ∧ _
      rw [sA2 y he]
      have heq : ∀ x, prd a (b + 1) x y ↔ prd a b x y := fun x => ⟨fun h => (hnew x y h).resolve_right (fun h' => he h'.2), hmono x y⟩
      simp only [heq]
      exact t3 y hy
  · by_cases he : x = a
    · subst he
      exact Or.inr sB3
    · show (bB x = -1 ∧ _) ∨ ∃ y, _ ∧ _ ∧ bB x = _ ∧ _
      rw [sB2 x he]
      have heq : ∀ y, prd a (b + 1) x y ↔ prd a b x y := fun y => ⟨fun h => (hnew x y h).resolve_right (fun h' => he h'.1), hmono x y⟩
      simp only [heq]
      exact t4 x hx
end ZRT

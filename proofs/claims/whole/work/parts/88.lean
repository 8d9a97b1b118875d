/-! CLIMBED -/
theorem gt_tr {U0 L0 U1 L1 U2 L2 : Int} (h0 : 0 < L0) (h1 : 0 < L1) (h2 : 0 < L2) (g1 : U0 * L1 < U1 * L0) (g2 : U1 * L2 < U2 * L1) : U0 * L2 < U2 * L0 := by
  have a1 := Int.mul_lt_mul_of_pos_right g1 h2
  have a2 := Int.mul_lt_mul_of_pos_right g2 h0
  have e1 : U1 * L0 * L2 = U1 * L2 * L0 := by rw [Int.mul_assoc, Int.mul_comm L0 L2, ← Int.mul_assoc]
  have e2 : U0 * L1 * L2 = U0 * L2 * L1 := by rw [Int.mul_assoc, Int.mul_comm L1 L2, ← Int.mul_assoc]
  have e3 : U2 * L1 * L0 = U2 * L0 * L1 := by rw [Int.mul_assoc, Int.mul_comm L1 L0, ← Int.mul_assoc]
  exact Int.lt_of_mul_lt_mul_right (a := L1) (by omega) (by omega)
theorem cm4_gt {a b c d : Int} (h1 : 0 ≤ a) (h3 : 0 < b) (h5 : 0 ≤ c) (h7 : 0 < d) : (wI (cm4 a.toNat b.toNat c.toNat d.toNat) ≤ 0) ↔ ¬ c * b < a * d := by
  obtain ⟨a, rfl⟩ : ∃ s : Nat, a = s := ⟨a.toNat, by omega⟩
  obtain ⟨b, rfl⟩ : ∃ s : Nat, b = s := ⟨b.toNat, by omega⟩
  obtain ⟨c, rfl⟩ : ∃ s : Nat, c = s := ⟨c.toNat, by omega⟩
  obtain ⟨d, rfl⟩ : ∃ s : Nat, d = s := ⟨d.toNat, by omega⟩
  simp only [Int.toNat_natCast]
  have e1 : (c : Int) * b = ((c * b : Nat) : Int) := by rw [Int.natCast_mul]
  have e2 : (a : Int) * d = ((a * d : Nat) : Int) := by rw [Int.natCast_mul]
  rw [e1, e2]
  unfold cm4
  by_cases q1 : a * d < c * b
  · rw [if_pos q1]
    exact ⟨fun _ => by omega, fun _ => by decide⟩
  · rw [if_neg q1]
    by_cases q2 : a * d = c * b
    · rw [if_pos q2]
      exact ⟨fun _ => by omega, fun _ => by decide⟩
    · rw [if_neg q2]
      exact ⟨fun h => absurd h (by decide), fun h => absurd (by omega) h⟩
noncomputable def cn (P : Nat → Prop) : Nat → Int
  | 0 => 0
  | n + 1 => cn P n + o01 (P n)
theorem o01_mono {p q : Prop} (h : p → q) : o01 p ≤ o01 q := by
  by_cases hp : p
  · rw [o01_t hp, o01_t (h hp)]; exact Int.le_refl _
  · rw [o01_f hp]; exact o01_nn q
theorem cn_le {P Q : Nat → Prop} : ∀ n, (∀ i, i < n → P i → Q i) → cn P n ≤ cn Q n
  | 0, _ => Int.le_refl _
  | n + 1, h => by
    have h1 := cn_le n (fun i hi => h i (by omega))
    have h2 := o01_mono (h n (by omega))
    show cn P n + o01 (P n) ≤ cn Q n + o01 (Q n)
    omega
theorem cn_lt {P Q : Nat → Prop} {k : Nat} : ∀ n, (∀ i, i < n → P i → Q i) → k < n → Q k → ¬ P k → cn P n + 1 ≤ cn Q n
  | 0, _, h, _, _ => absurd h (Nat.not_lt_zero k)
  | n + 1, h, hk, hQ, hP => by
    show cn P n + o01 (P n) + 1 ≤ cn Q n + o01 (Q n)
    by_cases hkn : k = n
    · have h1 := cn_le (P := P) (Q := Q) n (fun i hi => h i (by omega))
      rw [← hkn, o01_f hP, o01_t hQ, hkn]
      omega
    · have h1 := cn_lt (P := P) (Q := Q) (k := k) n (fun i hi => h i (by omega)) (by omega) hQ hP
      have h2 := o01_mono (h n (by omega))
      omega
theorem cn_T : ∀ n : Nat, cn (fun _ => True) n = n
  | 0 => rfl
  | n + 1 => by
    show cn (fun _ => True) n + o01 True = _
    rw [cn_T n, o01_t trivial]
    rfl
theorem cn_nn (P : Nat → Prop) : ∀ n, 0 ≤ cn P n
  | 0 => Int.le_refl _
  | n + 1 => by
    have := cn_nn P n
    have := o01_nn (P n)
    show 0 ≤ cn P n + o01 (P n)
    omega
theorem r_swap {pl : Pl} {a b : Nat} (ha : a < 5) (hb : b < 5) : M_swap pl (wI (a : Nat)) (wI (b : Nat)) = some (upd (upd pl a (pl b)) b (pl a)) := by
  unfold M_swap
  rw [z_gd_e (wI_in (by omega) (by omega) (by omega)), z_let_e, z_gd_e (wI_in (by omega) (by omega) (by omega)), z_let_e, z_gd_e (wI_in (by omega) (by omega) (by omega)), z_gd_e (wI_in (by omega) (by omega) (by omega)), wI_ix (by omega), wI_ix (by omega)]
theorem plN_sw {n r a b : Nat} {pl : Pl} (hn : n < 6) (hr : r < fc5 n) (hab : a < b) (hb : b < n) (h : plN n r pl) : plN n (sx n r a b) (upd (upd pl a (pl b)) b (pl a)) := fun k hk => by
  have hq := (sx_q n hn r hr a (by omega) b hb).resolve_left (by omega)
  unfold pl5
  have ha' : pl a = wI ((pq n r a : Nat) : Int) := (h a (by omega)).trans (if_pos (by omega))
  have hb' : pl b = wI ((pq n r b : Nat) : Int) := (h b (by omega)).trans (if_pos hb)
  by_cases hkn : k < n
  · rw [if_pos hkn, hq k hkn]
    by_cases hkb : k = b
    · rw [hkb, upd_s, if_neg (by omega), if_pos rfl, ha']
    · rw [upd_n hkb]
      by_cases hka : k = a
      · rw [hka, upd_s, if_pos rfl, hb']
      · rw [upd_n hka, if_neg hka, if_neg hkb]
        exact (h k hk).trans (if_pos hkn)
  · rw [if_neg hkn, upd_n (by omega), upd_n (by omega)]
    exact (h k hk).trans (if_neg hkn)
theorem plN_bk {n r a b : Nat} {pl : Pl} (hab : a < b) (h : plN n r pl) : plN n r (upd (upd (upd (upd pl a (pl b)) b (pl a)) a ((upd (upd pl a (pl b)) b (pl a)) b)) b ((upd (upd pl a (pl b)) b (pl a)) a)) := fun k hk => by
  rw [← h k hk]
  by_cases hkb : k = b
  · rw [hkb, upd_s, upd_n (by omega), upd_s]
  · rw [upd_n hkb]
    by_cases hka : k = a
    · rw [hka, upd_s, upd_s]
    · rw [upd_n hka, upd_n hkb, upd_n hka]
section ZCL
variable {p : Po} {now : Sh} {row : MRow} {S : St}
def clR (S : St) (s r : Nat) (ans its : Int32) (up low : Int64) (tp : Fr) : Prop := ∃ U L : Int, tp = (wJ U, wJ L) ∧ up = wJ U ∧ low = wJ L ∧ 0 ≤ U ∧ U < 4611686018427387904 ∧ 0 < L ∧ L < 4611686018427387904 ∧ ((its = -1 ∧ ans = wI ((enc (pm (sn S) r) : Nat) : Int) ∧ U = uR S s r ∧ L = lR S s r) ∨ ∃ a b : Nat, a < b ∧ b < sn S ∧ its = wI ((10 * a + b : Nat) : Int) ∧ ans = wI ((enc (pm (sn S) (sx (sn S) r a b)) : Nat) : Int) ∧ U = uR S s (sx (sn S) r a b) ∧ L = lR S s (sx (sn S) r a b) ∧ uR S s r * L < U * lR S s r)
theorem cl_in (hp : okP p) (hc : cP p now) (hm : mP p row) {s r i : Nat} (hs : s ≤ 1) (hr : r < fc5 (sn p.1)) : ∀ (d j m m' : Nat) (ans its : Int32) (up low : Int64) (tr : Sh) (fc : Fc) (tp : Fr) (bx : Bx) (mo : Mo) (su : Su) (wy : Wy) (wa : Wa) (od : Od) (pl : Pl), j + d = sn p.1 → i < j → d < m → d < m' → cln fc → cbS p.1 s tr → plN (sn p.1) r pl → clR p.1 s r ans its up low tp →
    ∃ ans' its' up' low' tr' fc' tp' bx' mo' su' wy' wa' od' pl', (∀ kx, K_bestExchange_L26 FF now (wI s) (wI ((enc (pm (sn p.1) r) : Nat) : Int)) (wI (sn p.1)) (wI (i : Nat)) kx m ans (wI (j : Nat)) tr fc tp = kx ans' tr' fc' tp') ∧ (∀ kx, M_climbed_L77 FF row (wI s) (wI (i : Nat)) kx m' up low its (wI (j : Nat)) bx mo su wy wa od pl = kx up' low' its' bx' mo' su' wy' wa' od' pl') ∧ cln fc' ∧ cbS p.1 s tr' ∧ plN (sn p.1) r pl' ∧ clR p.1 s r ans' its' up' low' tp' := by
  have hn5 := hp.1.2.1
  intro d
  induction d with
  | zero =>
    intro j m m' ans its up low tr fc tp bx mo su wy wa od pl hj hij hm1 hm2 hcl hT hpl hR
    obtain ⟨m, rfl⟩ : ∃ k, m = k + 1 := ⟨m - 1, by omega⟩
    obtain ⟨m', rfl⟩ : ∃ k, m' = k + 1 := ⟨m' - 1, by omega⟩
    refine ⟨ans, its, up, low, tr, fc, tp, bx, mo, su, wy, wa, od, pl, fun kx => ?_, fun kx => ?_, hcl, hT, hpl, hR⟩
    · rw [K_bestExchange_L26]
      exact if_pos (by rw [wI_le (by omega) (by omega) (by omega) (by omega)]; omega)
    · rw [M_climbed_L77, show M_n row = wI (sn p.1) from hm.1]
      exact if_pos (by rw [wI_le (by omega) (by omega) (by omega) (by omega)]; omega)
  | succ d ih =>
    intro j m m' ans its up low tr fc tp bx mo su wy wa od pl hj hij hm1 hm2 hcl hT hpl hR
    obtain ⟨m, rfl⟩ : ∃ k, m = k + 1 := ⟨m - 1, by omega⟩
    obtain ⟨m', rfl⟩ : ∃ k, m' = k + 1 := ⟨m' - 1, by omega⟩
    have hx := (sx_lt (sn p.1) (by omega) r hr i (by omega) j (by omega)).resolve_left (by omega)
    have hsw := (sx_sw (sn p.1) (by omega) r hr i (by omega) j (by omega)).resolve_left (by omega)
    obtain ⟨tr1, fc1, e1, e2, hT1, cl1, hw1, hW1⟩ := c_byI hp.1 hc.1 hs hx hT hcl
    have hpl1 := plN_sw (by omega) hr hij (by omega) hpl
    obtain ⟨bx1, mo1, su1, wy1, wa1, e3⟩ := r_byI hp.1 hm hs hx hpl1 bx mo su wy wa
    have hpl2 := plN_bk hij hpl
    have eb := r_swap (pl := upd (upd pl i (pl j)) j (pl i)) (a := i) (b := j) (by omega) (by omega)
    have hub := uR_b hp.1 hs hx
    have hur := uR_b hp.1 hs hr
    have hk1 : wI (j : Int) + 1 = wI ((j + 1 : Nat) : Int) := by rw [wI_1, wI_add]; rfl
    have hkl : ¬ wI (sn p.1 : Int) ≤ wI (j : Int) := by rw [wI_le (by omega) (by omega) (by omega) (by omega)]; omega
    have hput : Fr_put (wJ (uR p.1 s (sx (sn p.1) r i j))) (wJ (lR p.1 s (sx (sn p.1) r i j))) = (wJ (uR p.1 s (sx (sn p.1) r i j)), wJ (lR p.1 s (sx (sn p.1) r i j))) := f_put (by omega) (by omega)
    have hij10 : 10 * wI (i : Int) + wI (j : Int) = wI ((10 * i + j : Nat) : Int) := by rw [wI_10, wI_mul, wI_add]; rfl
    obtain ⟨U, L, h1, h2, h3, h4, h5, h6, h7, h8⟩ := hR
    have hag := f_against (F := FF) (by decide) (a := uR p.1 s (sx (sn p.1) r i j)) (b := lR p.1 s (sx (sn p.1) r i j)) (c := U) (d := L) (by omega) (by omega) (by omega) (by omega) h4 h5 h6 h7
    have hgt := cm4_gt (a := uR p.1 s (sx (sn p.1) r i j)) (b := lR p.1 s (sx (sn p.1) r i j)) (c := U) (d := L) (by omega) (by omega) h4 h6
    by_cases hle : wI (cm4 (uR p.1 s (sx (sn p.1) r i j)).toNat (lR p.1 s (sx (sn p.1) r i j)).toNat U.toNat L.toNat) ≤ 0
    · obtain ⟨ans', its', up', low', tr', fc', tp', bx', mo', su', wy', wa', od', pl', f1, f2, f3, f4, f5, f6⟩ := ih (j + 1) m m' ans its up low tr1 fc1 tp bx1 mo1 su1 wy1 wa1 (wJ (uR p.1 s (sx (sn p.1) r i j)), wJ (lR p.1 s (sx (sn p.1) r i j))) _ (by omega) (by omega) (by omega) (by omega) cl1 hT1 hpl2 ⟨U, L, h1, h2, h3, h4, h5, h6, h7, h8⟩
      refine ⟨ans', its', up', low', tr', fc', tp', bx', mo', su', wy', wa', od', pl', fun kx => ?_, fun kx => ?_, f3, f4, f5, f6⟩
      · rw [K_bestExchange_L26, if_neg hkl, hsw, z_let_e, e1, z_bd_s, e2, z_bd_s]
        unfold Fc_oddsAgainst
        rw [hw1, hW1, h1]
        refine (z_bd_e ((z_bd_e hag.1).trans rfl)).trans ?_
        rw [if_pos hle, z_let_e, hk1, ← h1]
        exact f1 kx
      · rw [M_climbed_L77, show M_n row = wI (sn p.1) from hm.1, if_neg hkl, r_swap (by omega) (by omega), z_bd_s, e3, z_bd_s, eb, z_bd_s, h2, h3]
        refine (z_bd_e hag.2).trans ?_
        rw [if_pos hle, z_let_e, hk1, ← h2, ← h3]
        exact f2 kx
    · have hgr : U * lR p.1 s (sx (sn p.1) r i j) < uR p.1 s (sx (sn p.1) r i j) * L := Classical.byContradiction (fun hn => hle (hgt.mpr hn))
      have hgr0 : uR p.1 s r * lR p.1 s (sx (sn p.1) r i j) < uR p.1 s (sx (sn p.1) r i j) * lR p.1 s r := by
        rcases h8 with ⟨_, _, hU, hL⟩ | ⟨a, b, _, _, _, _, hU, hL, hg⟩
        · rw [← hU, ← hL]; exact hgr
        · exact gt_tr (by omega) h6 (by omega) hg hgr
      obtain ⟨ans', its', up', low', tr', fc', tp', bx', mo', su', wy', wa', od', pl', f1, f2, f3, f4, f5, f6⟩ := ih (j + 1) m m' (wI ((enc (pm (sn p.1) (sx (sn p.1) r i j)) : Nat) : Int)) (wI ((10 * i + j : Nat) : Int)) (wJ (uR p.1 s (sx (sn p.1) r i j))) (wJ (lR p.1 s (sx (sn p.1) r i j))) tr1 fc1 (wJ (uR p.1 s (sx (sn p.1) r i j)), wJ (lR p.1 s (sx (sn p.1) r i j))) bx1 mo1 su1 wy1 wa1 (wJ (uR p.1 s (sx (sn p.1) r i j)), wJ (lR p.1 s (sx (sn p.1) r i j))) _ (by omega) (by omega) (by omega) (by omega) cl1 hT1 hpl2 ⟨_, _, rfl, rfl, rfl, by omega, by omega, by omega, by omega, Or.inr ⟨i, j, hij, by omega, rfl, rfl, rfl, rfl, hgr0⟩⟩
      refine ⟨ans', its', up', low', tr', fc', tp', bx', mo', su', wy', wa', od', pl', fun kx => ?_, fun kx => ?_, f3, f4, f5, f6⟩
      · rw [K_bestExchange_L26, if_neg hkl, hsw, z_let_e, e1, z_bd_s, e2, z_bd_s]
        unfold Fc_oddsAgainst
        rw [hw1, hW1, h1]
        refine (z_bd_e ((z_bd_e hag.1).trans rfl)).trans ?_
        rw [if_neg hle, hput, z_let_e, z_let_e, hk1]
        exact f1 kx
      · rw [M_climbed_L77, show M_n row = wI (sn p.1) from hm.1, if_neg hkl, r_swap (by omega) (by omega), z_bd_s, e3, z_bd_s, eb, z_bd_s, h2, h3]
        refine (z_bd_e hag.2).trans ?_
        rw [if_neg hle, z_let_e, z_let_e, z_let_e, z_let_e, hk1, hij10]
        exact f2 kx
theorem cl_out (hp : okP p) (hc : cP p now) (hm : mP p row) {s r : Nat} (hs : s ≤ 1) (hr : r < fc5 (sn p.1)) : ∀ (d i m m' : Nat) (ans its : Int32) (up low : Int64) (tr : Sh) (fc : Fc) (tp : Fr) (bx : Bx) (mo : Mo) (su : Su) (wy : Wy) (wa : Wa) (od : Od) (pl : Pl), i + d = sn p.1 → d < m → d < m' → cln fc → cbS p.1 s tr → plN (sn p.1) r pl → clR p.1 s r ans its up low tp →
    ∃ ans' its' up' low' tr' fc' tp' bx' mo' su' wy' wa' od' pl', K_bestExchange_L14 FF now (wI s) (wI ((enc (pm (sn p.1) r) : Nat) : Int)) (wI (sn p.1)) m ans (wI (i : Nat)) tr fc tp = some (ans', tr', fc', tp') ∧ (∀ kx, M_climbed_L62 FF row (wI s) kx m' up low its (wI (i : Nat)) bx mo su wy wa od pl = kx up' low' its' bx' mo' su' wy' wa' od' pl') ∧ cln fc' ∧ cbS p.1 s tr' ∧ plN (sn p.1) r pl' ∧ clR p.1 s r ans' its' up' low' tp' := by
  have hn5 := hp.1.2.1
  intro d
  induction d with
  | zero =>
    intro i m m' ans its up low tr fc tp bx mo su wy wa od pl hi hm1 hm2 hcl hT hpl hR
    obtain ⟨m, rfl⟩ : ∃ k, m = k + 1 := ⟨m - 1, by omega⟩
    obtain ⟨m', rfl⟩ : ∃ k, m' = k + 1 := ⟨m' - 1, by omega⟩
    refine ⟨ans, its, up, low, tr, fc, tp, bx, mo, su, wy, wa, od, pl, ?_, fun kx => ?_, hcl, hT, hpl, hR⟩
    · rw [K_bestExchange_L14]
      exact if_pos (by rw [wI_le (by omega) (by omega) (by omega) (by omega)]; omega)
    · rw [M_climbed_L62, show M_n row = wI (sn p.1) from hm.1]
      exact if_pos (by rw [wI_le (by omega) (by omega) (by omega) (by omega)]; omega)
  | succ d ih =>
    intro i m m' ans its up low tr fc tp bx mo su wy wa od pl hi hm1 hm2 hcl hT hpl hR
    obtain ⟨m, rfl⟩ : ∃ k, m = k + 1 := ⟨m - 1, by omega⟩
    obtain ⟨m', rfl⟩ : ∃ k, m' = k + 1 := ⟨m' - 1, by omega⟩
    have hk1 : wI (i : Int) + 1 = wI ((i + 1 : Nat) : Int) := by rw [wI_1, wI_add]; rfl
    have hkl : ¬ wI (sn p.1 : Int) ≤ wI (i : Int) := by rw [wI_le (by omega) (by omega) (by omega) (by omega)]; omega
    obtain ⟨ans1, its1, up1, low1, tr1, fc1, tp1, bx1, mo1, su1, wy1, wa1, od1, pl1, f1, f2, f3, f4, f5, f6⟩ := cl_in hp hc hm hs hr (i := i) d (i + 1) FF FF ans its up low tr fc tp bx mo su wy wa od pl (by omega) (by omega) (by show d < 2000; omega) (by show d < 2000; omega) hcl hT hpl hR
    obtain ⟨ans2, its2, up2, low2, tr2, fc2, tp2, bx2, mo2, su2, wy2, wa2, od2, pl2, g1, g2, g3, g4, g5, g6⟩ := ih (i + 1) m m' ans1 its1 up1 low1 tr1 fc1 tp1 bx1 mo1 su1 wy1 wa1 od1 pl1 (by omega) (by omega) (by omega) f3 f4 f5 f6
    refine ⟨ans2, its2, up2, low2, tr2, fc2, tp2, bx2, mo2, su2, wy2, wa2, od2, pl2, ?_, fun kx => ?_, g3, g4, g5, g6⟩
    · rw [K_bestExchange_L14, if_neg hkl, hk1, z_let_e, f1, z_let_e]
      exact g1
    · rw [M_climbed_L62, show M_n row = wI (sn p.1) from hm.1, if_neg hkl, hk1, z_let_e, f2, z_let_e]
      exact g2 kx
theorem climb_all (hp : okP p) (hc : cP p now) (hm : mP p row) {s : Nat} (hs : s ≤ 1) : ∀ (c r t m m' : Nat) (tr : Sh) (fc : Fc) (bx : Bx) (mo : Mo) (su : Su) (wy : Wy) (wa : Wa) (od : Od) (pl : Pl), r < fc5 (sn p.1) → t + c ≤ 119 → c + 1 < m → c + 2 < m' → cn (fun i => uR p.1 s r * lR p.1 s i < uR p.1 s i * lR p.1 s r) (fc5 (sn p.1)) ≤ c → cln fc → cbS p.1 s tr → plN (sn p.1) r pl →
    ∃ (r' t' : Nat) (tr' : Sh) (fc' : Fc) (tp' : Fr) (bx' : Bx) (mo' : Mo) (su' : Su) (wy' : Wy) (wa' : Wa) (od' : Od) (pl' : Pl), (∀ kx20 kx21, K_climbed_L69 FF now (wI s) kx20 kx21 m (wI ((enc (pm (sn p.1) r) : Nat) : Int)) (wI (t : Nat)) tr fc (wJ (uR p.1 s r), wJ (lR p.1 s r)) = kx21 (wI ((enc (pm (sn p.1) r') : Nat) : Int)) (wI (t' : Nat)) tr' fc' tp') ∧ (∀ kx, M_climbed_L51 FF row (wI s) kx m' (wJ (uR p.1 s r)) (wJ (lR p.1 s r)) (wI (t : Nat)) 1 bx mo su wy wa od pl = kx (wI (t' : Nat)) bx' mo' su' wy' wa' od' pl') ∧ cln fc' ∧ r' < fc5 (sn p.1) ∧ plN (sn p.1) r' pl' := by
  have hn5 := hp.1.2.1
  have hn1 := hp.1.1
  intro c
  induction c with
  | zero =>
    intro r t m m' tr fc bx mo su wy wa od pl hr htc hm1 hm2 hcn hcl hT hpl
    obtain ⟨m, rfl⟩ : ∃ k, m = k + 1 := ⟨m - 1, by omega⟩
    obtain ⟨m', rfl⟩ : ∃ k, m' = k + 1 + 1 := ⟨m' - 2, by omega⟩
    have hur := uR_b hp.1 hs hr
    have heb := row_eb (sn p.1) (by omega) r hr
    obtain ⟨ans1, its1, up1, low1, tr1, fc1, tp1, bx1, mo1, su1, wy1, wa1, od1, pl1, f1, f2, f3, f4, f5, f6⟩ := cl_out hp hc hm hs hr (sn p.1) 0 FF FF (wI ((enc (pm (sn p.1) r) : Nat) : Int)) (-1) (wJ (uR p.1 s r)) (wJ (lR p.1 s r)) tr fc (wJ (uR p.1 s r), wJ (lR p.1 s r)) bx mo su wy wa od pl (by omega) (by show _ < 2000; omega) (by show _ < 2000; omega) hcl hT hpl ⟨_, _, rfl, rfl, rfl, by omega, by omega, by omega, by omega, Or.inl ⟨rfl, rfl, rfl, rfl⟩⟩
    obtain ⟨U, L, h1, h2, h3, h4, h5, h6, h7, h8⟩ := f6
    rcases h8 with ⟨q1, q2, q3, q4⟩ | ⟨a, b, q1, q2, q3, q4, q5, q6, q7⟩
    · refine ⟨r, t, tr1, fc1, tp1, bx1, mo1, su1, wy1, wa1, od1, pl1, fun kx20 kx21 => ?_, fun kx => ?_, f3, hr, f5⟩
      · have f1 : K_bestExchange_L14 FF now (wI s) (wI ((enc (pm (sn p.1) r) : Nat) : Int)) (wI (sn p.1)) FF (wI ((enc (pm (sn p.1) r) : Nat) : Int)) 0 tr fc (wJ (uR p.1 s r), wJ (lR p.1 s r)) = some (ans1, tr1, fc1, tp1) := f1
        rw [K_climbed_L69, if_neg (by rw [wI_120, wI_le (by omega) (by omega) (by omega) (by omega)]; omega)]
        unfold K_bestExchange
        rw [hc.1.1, z_let_e, f1, z_bd_s, z_let_e]
        exact if_pos q2
      · have f2 := f2
        rw [M_climbed_L51, if_neg (by decide)]
        refine (f2 _).trans ?_
        rw [q1, if_pos rfl, z_let_e, if_pos rfl, M_climbed_L51, if_pos rfl]
    · exfalso
      have hx := (sx_lt (sn p.1) (by omega) r hr a (by omega) b (by omega)).resolve_left (by omega)
      have := cn_lt (P := fun _ => False) (Q := fun i => uR p.1 s r * lR p.1 s i < uR p.1 s i * lR p.1 s r) (k := sx (sn p.1) r a b) (fc5 (sn p.1)) (fun i _ h => h.elim) hx (by rw [q6, q5] at q7; exact q7) (fun h => h)
      have := cn_nn (fun _ => False) (fc5 (sn p.1))
      omega
  | succ c ih =>
    intro r t m m' tr fc bx mo su wy wa od pl hr htc hm1 hm2 hcn hcl hT hpl
    obtain ⟨m, rfl⟩ : ∃ k, m = k + 1 := ⟨m - 1, by omega⟩
    obtain ⟨m', rfl⟩ : ∃ k, m' = k + 1 + 1 := ⟨m' - 2, by omega⟩
    have hur := uR_b hp.1 hs hr
    have heb := row_eb (sn p.1) (by omega) r hr
    obtain ⟨ans1, its1, up1, low1, tr1, fc1, tp1, bx1, mo1, su1, wy1, wa1, od1, pl1, f1, f2, f3, f4, f5, f6⟩ := cl_out hp hc hm hs hr (sn p.1) 0 FF FF (wI ((enc (pm (sn p.1) r) : Nat) : Int)) (-1) (wJ (uR p.1 s r)) (wJ (lR p.1 s r)) tr fc (wJ (uR p.1 s r), wJ (lR p.1 s r)) bx mo su wy wa od pl (by omega) (by show _ < 2000; omega) (by show _ < 2000; omega) hcl hT hpl ⟨_, _, rfl, rfl, rfl, by omega, by omega, by omega, by omega, Or.inl ⟨rfl, rfl, rfl, rfl⟩⟩
    have f1 : K_bestExchange_L14 FF now (wI s) (wI ((enc (pm (sn p.1) r) : Nat) : Int)) (wI (sn p.1)) FF (wI ((enc (pm (sn p.1) r) : Nat) : Int)) 0 tr fc (wJ (uR p.1 s r), wJ (lR p.1 s r)) = some (ans1, tr1, fc1, tp1) := f1
    obtain ⟨U, L, h1, h2, h3, h4, h5, h6, h7, h8⟩ := f6
    rcases h8 with ⟨q1, q2, q3, q4⟩ | ⟨a, b, q1, q2, q3, q4, q5, q6, q7⟩
    · refine ⟨r, t, tr1, fc1, tp1, bx1, mo1, su1, wy1, wa1, od1, pl1, fun kx20 kx21 => ?_, fun kx => ?_, f3, hr, f5⟩
      · rw [K_climbed_L69, if_neg (by rw [wI_120, wI_le (by omega) (by omega) (by omega) (by omega)]; omega)]
        unfold K_bestExchange
        rw [hc.1.1, z_let_e, f1, z_bd_s, z_let_e]
        exact if_pos q2
      · rw [M_climbed_L51, if_neg (by decide)]
        refine (f2 _).trans ?_
        rw [q1, if_pos rfl, z_let_e, if_pos rfl, M_climbed_L51, if_pos rfl]
    · have hx := (sx_lt (sn p.1) (by omega) r hr a (by omega) b (by omega)).resolve_left (by omega)
      have hne := (sx_ne (sn p.1) (by omega) r hr a (by omega) b (by omega)).resolve_left (by omega)
      have hex := row_eb (sn p.1) (by omega) _ hx
      have hux := uR_b hp.1 hs hx
      subst h1 h2 h3 q3 q4 q5 q6
      have hcn2 := cn_lt (P := fun i => uR p.1 s (sx (sn p.1) r a b) * lR p.1 s i < uR p.1 s i * lR p.1 s (sx (sn p.1) r a b)) (Q := fun i => uR p.1 s r * lR p.1 s i < uR p.1 s i * lR p.1 s r) (k := sx (sn p.1) r a b) (fc5 (sn p.1)) (fun i hi h => gt_tr (by omega) (by omega) (uR_b hp.1 hs hi).2.2.1 q7 h) hx q7 (fun h => absurd h (by omega))
      have hk1 : wI (t : Int) + 1 = wI ((t + 1 : Nat) : Int) := by rw [wI_1, wI_add]; rfl
      obtain ⟨r', t', tr', fc', tp', bx', mo', su', wy', wa', od', pl', g1, g2, g3, g4, g5⟩ := ih (sx (sn p.1) r a b) (t + 1) m (m' + 1) tr1 fc1 bx1 mo1 su1 wy1 wa1 od1 _ hx (by omega) (by omega) (by omega) (by omega) f3 f4 (plN_sw (by omega) hr q1 q2 f5)
      refine ⟨r', t', tr', fc', tp', bx', mo', su', wy', wa', od', pl', fun kx20 kx21 => ?_, fun kx => ?_, g3, g4, g5⟩
      · rw [K_climbed_L69, if_neg (by rw [wI_120, wI_le (by omega) (by omega) (by omega) (by omega)]; omega)]
        unfold K_bestExchange
        rw [hc.1.1, z_let_e, f1, z_bd_s, z_let_e, if_neg (by
          show ¬ wI ((enc (pm (sn p.1) (sx (sn p.1) r a b)) : Nat) : Int) = wI ((enc (pm (sn p.1) r) : Nat) : Int)
          rw [wI_eq (by omega) (by omega) (by omega) (by omega)]; omega), z_let_e, hk1]
        exact g1 kx20 kx21
      · rw [M_climbed_L51, if_neg (by decide)]
        refine (f2 _).trans ?_
        have hdv : wI ((10 * a + b : Nat) : Int) / 10 = wI (a : Nat) := by
          rw [wI_10, wI_div (by omega) (by omega) (by omega) (by omega)]
          exact wI_c (by omega)
        have hrm : z_rem (wI ((10 * a + b : Nat) : Int)) 10 = wI (b : Nat) := by
          rw [wI_10, wI_rem (by omega) (by omega) (by omega) (by omega)]
          exact wI_c (by omega)
        rw [if_neg (show ¬ wI ((10 * a + b : Nat) : Int) = -1 by rw [wI_m1, wI_eq (by omega) (by omega) (by omega) (by omega)]; omega), z_let_e, if_neg (by decide), hdv, hrm, r_swap (by omega) (by omega), z_bd_s, z_let_e, hk1]
        exact g2 kx
theorem stR_0 (hS : okS S) {s : Nat} : stR S s (pq (sn S) 0) = S := by
  have e : (fun i => if 5 * s ≤ i ∧ i < 5 * s + sn S then sk S (5 * s + pq (sn S) 0 (i - 5 * s)) else sk S i) = sk S := funext fun i => by
    by_cases h : 5 * s ≤ i ∧ i < 5 * s + sn S
    · rw [if_pos h, pq_0 (sn S) (by have := hS.2.1; omega) _ (by omega), show 5 * s + (i - 5 * s) = i by omega]
    · rw [if_neg h]
  unfold stR
  rw [e]
theorem q_climbed (hp : okP p ∨ p = p00) (hc : cP p now) (hm : mP p row) {fc : Fc} (hcl : cln fc) (tr : Sh) (tp : Fr) (bx : Bx) (mo : Mo) (su : Su) (wy : Wy) (wa : Wa) (od : Od) (pl : Pl) (x y : Int32) : ∃ r tr' fc' tp' bx' mo' su' wy' wa' od' pl', K_climbed FF now tr fc tp x y = some (r, tr', fc', tp') ∧ M_climbed FF row bx mo su wy wa od pl x y = some (r, 0, bx', mo', su', wy', wa', od', pl') ∧ cln fc' := by
  obtain ⟨a, rfl, a1, a2⟩ := wI_of x
  obtain ⟨d, rfl, d1, d2⟩ := wI_of y
  rcases hp with hp | rfl
  · have hn5 := hp.1.2.1
    by_cases q1 : 0 ≤ a ∧ a ≤ 1
    · have n1 : ¬ K_isSideTold now (wI a) = 0 := fun h => (t_sd hp hc a1 a2).mp h q1
      have n2 : ¬ M_isThere row (wI a) = 0 := fun h => (t_th hp hm a1 a2).mp h q1
      by_cases q4 : 0 ≤ d ∧ d ≤ 1
      · have n7 : ¬ K_isPart (wI d) = 0 := fun h => (part_z d1 d2).mp h q4
        have n8 : ¬ M_in (wI d).toInt64 0 1 = 0 := fun h => (in_z (lo := 0) (hi := 1) d1 d2 (by omega) (by omega) (by omega) (by omega)).mp h q4
        obtain ⟨s, rfl⟩ : ∃ s : Nat, a = s := ⟨a.toNat, by omega⟩
        have hs : s ≤ 1 := by omega
        have hf := fc5_k (sn p.1) (by omega)
        obtain ⟨u3, e3, hT, hC3⟩ := c_start3 (F := FF) (by decide) hc.1 tr s
        obtain ⟨fc4, e4, cl4, hA, hB, hW⟩ := c_look (F := FF) (k := 0) (gl := fun _ => 0) (by decide) hp.1 hC3 (fun _ => Nat.zero_le _) (cbT_CM hT.1 _ _) (by omega) hcl
        have hw := c_wins hA hB hs
        have hu0 : oU p.1 (mAt p.1 (fun _ => 0) 0) s = uR p.1 s 0 := by unfold uR; rw [stR_0 hp.1]; rfl
        have hl0 : oL p.1 (mAt p.1 (fun _ => 0) 0) = lR p.1 s 0 := by unfold lR; rw [stR_0 hp.1]; rfl
        rw [hu0] at hw
        rw [hl0] at hW
        have hub := uR_b hp.1 hs hf.2.1
        obtain ⟨pl1, e5, hpl⟩ := fst_row (F := FF) (n := sn p.1) (by decide) (by omega) pl
        obtain ⟨bx6, mo6, su6, wy6, wa6, e6⟩ := r_byI hp.1 hm hs hf.2.1 hpl bx mo su wy wa
        have hcn : cn (fun i => uR p.1 s 0 * lR p.1 s i < uR p.1 s i * lR p.1 s 0) (fc5 (sn p.1)) ≤ (119 : Nat) := by
          have h1 := cn_lt (P := fun i => uR p.1 s 0 * lR p.1 s i < uR p.1 s i * lR p.1 s 0) (Q := fun _ => True) (k := 0) (fc5 (sn p.1)) (fun _ _ _ => trivial) hf.2.1 trivial (fun h => absurd h (by omega))
          rw [cn_T] at h1
          omega
        obtain ⟨r', t', tr', fc', tp', bx', mo', su', wy', wa', od', pl', g1, g2, g3, g4, g5⟩ := climb_all hp hc hm hs 119 0 0 FF FF u3 fc4 bx6 mo6 su6 wy6 wa6 (wJ (uR p.1 s 0), wJ (lR p.1 s 0)) pl1 hf.2.1 (by omega) (by decide) (by decide) hcn cl4 hT hpl
        have er := row_at (sn p.1) (by omega) 0 hf.2.1
        have ed := dg_at hm.1 (by omega) g4 g5
        refine ⟨if wI d = 0 then wI ((enc (pm (sn p.1) r') : Nat) : Int) else wI (t' : Nat), tr', fc', tp', bx', mo', su', wy', wa', od', pl', ?_, ?_, g3⟩
        · unfold K_climbed
          have er : K_rowAt FF 0 (wI (sn p.1)) = some (wI ((enc (pm (sn p.1) 0) : Nat) : Int)) := er
          rw [if_neg n1, if_neg n7, e3, z_bd_s, e4, z_bd_s, hw, hW, f_put (by omega) (by omega), z_let_e, hc.1.1, er, z_bd_s]
          refine (g1 _ _).trans ?_
          by_cases hd0 : wI d = 0
          · rw [if_pos hd0, if_pos hd0]
          · rw [if_neg hd0, if_neg hd0]
        · unfold M_climbed
          rw [if_neg n2, if_neg n8, e5, z_bd_s, e6, z_bd_s, z_let_e, z_let_e]
          refine (g2 _).trans ?_
          by_cases hd0 : wI d = 0
          · rw [if_pos hd0, if_pos hd0, ed, z_bd_s]
          · rw [if_neg hd0, if_neg hd0]
      · refine ⟨-1, tr, fc, tp, bx, mo, su, wy, wa, od, pl, ?_, ?_, hcl⟩
        · unfold K_climbed
          rw [if_neg n1, if_pos ((part_z d1 d2).mpr q4)]
        · unfold M_climbed
          rw [if_neg n2]
          exact if_pos ((in_z (lo := 0) (hi := 1) d1 d2 (by omega) (by omega) (by omega) (by omega)).mpr q4)
    · refine ⟨-1, tr, fc, tp, bx, mo, su, wy, wa, od, pl, ?_, ?_, hcl⟩
      · unfold K_climbed
        rw [if_pos ((t_sd hp hc a1 a2).mpr q1)]
      · unfold M_climbed
        rw [if_pos ((t_th hp hm a1 a2).mpr q1)]
  · refine ⟨-1, tr, fc, tp, bx, mo, su, wy, wa, od, pl, ?_, ?_, hcl⟩
    · unfold K_climbed
      rw [if_pos (u_sd hc _)]
    · unfold M_climbed
      rw [if_pos (u_th hm _)]
end ZCL

/-! ODDS OF A ROW; THE BEST ROW -/
theorem wI_or {a b : Nat} (ha : a < 2 ^ 31) (hb : b < 2 ^ 31) : wI (a : Int) ||| wI (b : Int) = wI ((a ||| b : Nat) : Int) := by
  rw [wI_nI, wI_nI, wI_nI]
  apply Int32.toBitVec_inj.mp
  rw [Int32.toBitVec_or]
  apply BitVec.eq_of_toNat_eq
  show (BitVec.ofNat 32 a ||| BitVec.ofNat 32 b).toNat = (BitVec.ofNat 32 (a ||| b)).toNat
  have h31 : (2 : Nat) ^ 31 < 2 ^ 32 := by decide
  rw [BitVec.toNat_or, BitVec.toNat_ofNat, BitVec.toNat_ofNat, BitVec.toNat_ofNat, Nat.mod_eq_of_lt (by omega), Nat.mod_eq_of_lt (by omega), Nat.mod_eq_of_lt (Nat.or_lt_two_pow (by omega) (by omega))]
def oN (d : Nat → Nat) : Nat → Nat
  | 0 => 0
  | i + 1 => oN d i ||| 2 ^ d i
theorem oN_lt {d : Nat → Nat} (hd : ∀ i, d i ≤ 9) : ∀ i, oN d i < 2 ^ 10
  | 0 => by show 0 < 2 ^ 10; decide
  | i + 1 => Nat.or_lt_two_pow (oN_lt hd i) (Nat.pow_lt_pow_right (by decide) (by have := hd i; omega))
theorem oN_bit {d : Nat → Nat} : ∀ i k, k < i → (oN d i).testBit (d k) = true
  | 0, k, h => absurd h (Nat.not_lt_zero k)
  | i + 1, k, h => by
    show (oN d i ||| 2 ^ d i).testBit (d k) = true
    rw [Nat.testBit_or]
    by_cases hk : k = i
    · rw [hk, Nat.testBit_two_pow_self, Bool.or_true]
    · rw [oN_bit i k (by omega), Bool.true_or]
theorem oN_all {d : Nat → Nat} {n : Nat} (h : oN d n = 2 ^ n - 1) : ∀ k, k < n → d k < n := fun k hk => by
  have h1 := oN_bit n k hk (d := d)
  rw [h, Nat.testBit_two_pow_sub_one] at h1
  exact of_decide_eq_true h1
/-- the reference's bits, from the last place on -/
def oM (d : Nat → Nat) (n : Nat) : Nat → Nat
  | 0 => 0
  | i + 1 => oM d n i ||| 2 ^ d (n - 1 - i)
theorem oM_lt {d : Nat → Nat} (hd : ∀ i, d i ≤ 9) (n : Nat) : ∀ i, oM d n i < 2 ^ 10
  | 0 => by show 0 < 2 ^ 10; decide
  | i + 1 => Nat.or_lt_two_pow (oM_lt hd n i) (Nat.pow_lt_pow_right (by decide) (by have := hd (n - 1 - i); omega))
theorem oM_N (d : Nat → Nat) (n : Nat) : ∀ i, i ≤ n → oN d (n - i) ||| oM d n i = oN d n
  | 0, _ => by show oN d n ||| 0 = _; rw [Nat.or_zero]
  | i + 1, h => by
    rw [← oM_N d n i (by omega)]
    obtain ⟨j, hj⟩ : ∃ j, n - i = j + 1 := ⟨n - i - 1, by omega⟩
    rw [hj, show n - (i + 1) = j by omega]
    show oN d j ||| (oM d n i ||| 2 ^ d (n - 1 - i)) = (oN d j ||| 2 ^ d j) ||| oM d n i
    rw [show n - 1 - i = j by omega, Nat.or_assoc, Nat.or_comm (2 ^ d j)]
theorem oM_eq (d : Nat → Nat) (n : Nat) : oM d n n = oN d n := by
  rw [← oM_N d n n (Nat.le_refl n), Nat.sub_self]
  show _ = 0 ||| oM d n n
  rw [Nat.zero_or]
theorem k_tens : ∀ t, t < 6 → K_tens (wI (t : Nat)) = wI ((10 ^ t : Nat) : Int) ∧ 0 < 10 ^ t ∧ 10 ^ t ≤ 100000 := by decide +kernel
theorem k_mask : ∀ n, n < 6 → ((1 : Int32) <<< (wI (n : Nat) &&& 31)) - 1 = wI ((2 ^ n - 1 : Nat) : Int) ∧ 2 ^ n - 1 < 2147483648 := by decide +kernel
theorem k_dig {R k n : Nat} (hR : R < 2147483648) (hk : k < n) (hn : n < 6) : K_digitAt (wI (R : Nat)) (wI (k : Nat)) (wI (n : Nat)) = wI ((R / 10 ^ (n - 1 - k) % 10 : Nat) : Int) := by
  obtain ⟨t1, t2, t3⟩ := k_tens (n - 1 - k) (by omega)
  unfold K_digitAt
  rw [wI_1, wI_sub, wI_sub, show (n : Int) - 1 - k = ((n - 1 - k : Nat) : Int) by omega, t1, z_let_e]
  generalize 10 ^ (n - 1 - k) = T at t2 t3 ⊢
  rw [if_neg (by rw [wI_0, wI_le (by omega) (by omega) (by omega) (by omega)]; omega), wI_div (by omega) (by omega) (by omega) (by omega), wI_10]
  have hq : R / T < 2147483648 := Nat.lt_of_le_of_lt (Nat.div_le_self _ _) hR
  rw [← Int.natCast_ediv]
  generalize R / T = Q at hq ⊢
  rw [wI_rem (by omega) (by omega) (by omega) (by omega)]
  exact wI_c (by omega)
section ZRO
variable {gl : Nat → Nat} {k : Nat}
variable {p : Po} {now tr : Sh} {row : MRow} {F : Nat} {S : St} {fc : Fc}
theorem k_isRow (hF : 20 ≤ F) {R n : Nat} (hR : R < 2147483648) (hn : n < 6) : K_isRow F (wI (R : Nat)) (wI (n : Nat)) = some (if R < 10 ^ n ∧ oN (fun k => R / 10 ^ (n - 1 - k) % 10) n = 2 ^ n - 1 then 1 else 0) := by
  obtain ⟨t1, t2, t3⟩ := k_tens n hn
  obtain ⟨m1, m2⟩ := k_mask n hn
  have hd : ∀ i, (fun k => R / 10 ^ (n - 1 - k) % 10) i ≤ 9 := fun i => by show R / 10 ^ (n - 1 - i) % 10 ≤ 9; omega
  unfold K_isRow
  rw [if_neg (by rw [wI_0, wI_lt (by omega) (by omega) (by omega) (by omega)]; omega), t1]
  generalize hT : 10 ^ n = T at t2 t3 ⊢
  by_cases hlt : R < T
  · rw [if_pos (by rw [wI_lt (by omega) (by omega) (by omega) (by omega)]; omega)]
    obtain ⟨s', e, h⟩ := lp0 (fun m x (s : Int32) => K_isRow_L18 (wI (R : Nat)) (wI (n : Nat)) (fun (x9 : Int32) => if x9 = ((1 <<< ((wI (n : Nat)) &&& 31)) - 1) then (some 1) else (some 0)) m s x) (fun (x9 : Int32) => if x9 = ((1 <<< ((wI (n : Nat)) &&& 31)) - 1) then (some 1) else (some 0)) n (fun i s => s = wI ((oN (fun k => R / 10 ^ (n - 1 - k) % 10) i : Nat) : Int))
      (fun m i s hi hp => by
        refine ⟨wI ((oN (fun k => R / 10 ^ (n - 1 - k) % 10) (i + 1) : Nat) : Int), ?_, rfl⟩
        have hb := oN_lt hd i
        have hd9 : R / 10 ^ (n - 1 - i) % 10 < 13 := by omega
        have hp2 : 2 ^ (R / 10 ^ (n - 1 - i) % 10) < 2 ^ 31 := Nat.pow_lt_pow_right (by decide) (by omega)
        simp only [K_isRow_L18]
        rw [if_neg (by rw [wI_le (by omega) (by omega) (by omega) (by omega)]; omega), k_dig hR hi hn, w_one _ hd9, hp, wI_or (by omega) hp2, z_let_e, z_let_e, wI_1, wI_add]
        rfl)
      (fun m s _ => by
        simp only [K_isRow_L18]
        exact if_pos (by rw [wI_le (by omega) (by omega) (by omega) (by omega)]; omega)) (n := F) (s := 0) (by omega) rfl
    refine (show _ = _ from e).trans ?_
    have hb := oN_lt hd n
    show (if s' = _ then some (1 : Int32) else some 0) = _
    rw [h, m1]
    generalize oN (fun k => R / 10 ^ (n - 1 - k) % 10) n = Q at hb ⊢
    by_cases hQ : Q = 2 ^ n - 1
    · rw [if_pos (by rw [hQ]), if_pos ⟨hlt, hQ⟩]
    · rw [if_neg (by rw [wI_eq (by omega) (by omega) (by omega) (by omega)]; omega), if_neg (fun h => hQ h.2)]
  · rw [if_neg (by rw [wI_lt (by omega) (by omega) (by omega) (by omega)]; omega), if_neg (fun h => hlt h.1)]
theorem r_readRow (hF : 20 ≤ F) {R n : Nat} (hR : R < 2147483648) (hn : n < 6) (hr : row 0 = wI (n : Nat)) (pl : Pl) : ∃ pl', M_readRow F row pl (wI (R : Nat)) = some (if R < 10 ^ n ∧ oN (fun k => R / 10 ^ (n - 1 - k) % 10) n = 2 ^ n - 1 then 1 else 0, pl') ∧ ∀ k : Nat, k < n → pl' k = wI ((R / 10 ^ (n - 1 - k) % 10 : Nat) : Int) := by
  obtain ⟨m1, m2⟩ := k_mask n hn
  have hd : ∀ i, (fun k => R / 10 ^ (n - 1 - k) % 10) i ≤ 9 := fun i => by show R / 10 ^ (n - 1 - i) % 10 ≤ 9; omega
  obtain ⟨K, hK⟩ : ∃ K : Int32 → Int32 → Pl → Option (Int32 × Pl), K = fun (x10 : Int32) (x11 : Int32) (pl12 : Pl) => if x11 = 0 then (if x10 = ((1 <<< ((wI (n : Nat)) &&& 31)) - 1) then (some (1, pl12)) else (some (0, pl12))) else (some (0, pl12)) := ⟨_, rfl⟩
  obtain ⟨s', e, h1, h2, h3⟩ := lpx (fun i => wI ((n : Int) - 1 - i)) (fun m x (s : Int32 × Int32 × Pl) => M_readRow_L12 K m s.1 s.2.1 x s.2.2) (fun s => K s.1 s.2.1 s.2.2) n (fun i s => s.1 = wI ((oM (fun k => R / 10 ^ (n - 1 - k) % 10) n i : Nat) : Int) ∧ s.2.1 = wI ((R / 10 ^ i : Nat) : Int) ∧ ∀ k : Nat, n - i ≤ k → k < n → s.2.2 k = wI ((R / 10 ^ (n - 1 - k) % 10 : Nat) : Int))
    (fun m i s hi hp => by
      obtain ⟨p1, p2, p3⟩ := hp
      have hb := oM_lt hd n i
      have hq : R / 10 ^ i < 2147483648 := Nat.lt_of_le_of_lt (Nat.div_le_self _ _) hR
      have hii : n - 1 - (n - 1 - i) = i := by omega
      have hd9 : R / 10 ^ i % 10 < 13 := by omega
      have hp2 : 2 ^ (R / 10 ^ i % 10) < 2 ^ 31 := Nat.pow_lt_pow_right (by decide) (by omega)
      have hrem : z_rem (wI ((R / 10 ^ i : Nat) : Int)) (wI 10) = wI ((R / 10 ^ i % 10 : Nat) : Int) := by
        generalize R / 10 ^ i = Q at hq ⊢
        rw [wI_rem (by omega) (by omega) (by omega) (by omega)]
        exact wI_c (by omega)
      have hdv : wI ((R / 10 ^ i : Nat) : Int) / wI 10 = wI ((R / 10 ^ (i + 1) : Nat) : Int) := by
        rw [Nat.pow_succ, ← Nat.div_div_eq_div_mul]
        generalize R / 10 ^ i = Q at hq ⊢
        rw [wI_div (by omega) (by omega) (by omega) (by omega)]
        exact wI_c (by omega)
      refine ⟨(wI ((oM (fun k => R / 10 ^ (n - 1 - k) % 10) n (i + 1) : Nat) : Int), wI ((R / 10 ^ (i + 1) : Nat) : Int), upd s.2.2 (n - 1 - i) (wI ((R / 10 ^ i % 10 : Nat) : Int))), ?_, rfl, rfl, fun k hk1 hk2 => ?_⟩
      · have eo : oM (fun k => R / 10 ^ (n - 1 - k) % 10) n (i + 1) = oM (fun k => R / 10 ^ (n - 1 - k) % 10) n i ||| 2 ^ (R / 10 ^ i % 10) := by
          show _ ||| 2 ^ (R / 10 ^ (n - 1 - (n - 1 - i)) % 10) = _
          rw [hii]
        rw [eo]
        simp only [M_readRow_L12]
        rw [p1, p2, if_neg (by rw [wI_0, wI_lt (by omega) (by omega) (by omega) (by omega)]; omega), wI_10, hrem, hdv, w_one _ hd9, wI_or (by omega) hp2, z_let_e, z_gd_e (wI_in (by omega) (by omega) (by omega)), z_let_e, z_let_e, z_let_e, wI_nat (by omega) (by omega), show ((n : Int) - 1 - i).toNat = n - 1 - i by omega, wI_1, wI_neg, wI_add, show (n : Int) - 1 - i + -1 = (n : Int) - 1 - ((i + 1 : Nat) : Int) by omega]
      · show upd s.2.2 (n - 1 - i) _ k = _
        by_cases hk : k = n - 1 - i
        · rw [hk, upd_s, hii]
        · rw [upd_n hk]
          exact p3 k (by omega) hk2)
    (fun m s _ => by
      simp only [M_readRow_L12]
      exact if_pos (by rw [wI_0, wI_lt (by omega) (by omega) (by omega) (by omega)]; omega)) n 0 F (0, wI (R : Nat), pl) (by omega) (by omega) ⟨rfl, by rw [Nat.pow_zero, Nat.div_one], fun k h1 h2 => by omega⟩
  refine ⟨s'.2.2, ?_, fun k hk => h3 k (by omega) hk⟩
  unfold M_readRow
  have e : M_readRow_L12 K F 0 (wI (R : Nat)) (wI ((n : Int) - 1 - ((0 : Nat) : Int))) pl = K s'.1 s'.2.1 s'.2.2 := e
  rw [show M_n row = wI (n : Nat) from hr, wI_1, wI_sub, z_let_e, ← wI_1, ← hK, show (n : Int) - 1 = (n : Int) - 1 - ((0 : Nat) : Int) by omega, e, hK]
  have hb := oM_lt hd n n
  have hq : R / 10 ^ n < 2147483648 := Nat.lt_of_le_of_lt (Nat.div_le_self _ _) hR
  have hdiv : R / 10 ^ n = 0 ↔ R < 10 ^ n := by
    have hp10 : 0 < 10 ^ n := Nat.pow_pos (by decide)
    rw [Nat.div_eq_zero_iff]
    omega
  show (if s'.2.1 = 0 then (if s'.1 = _ then some ((1 : Int32), s'.2.2) else some (0, s'.2.2)) else some (0, s'.2.2)) = _
  rw [h1, h2, m1, oM_eq]
  rw [oM_eq] at hb
  generalize oN (fun k => R / 10 ^ (n - 1 - k) % 10) n = Q at hb ⊢
  generalize R / 10 ^ n = D at hq hdiv ⊢
  by_cases hD : D = 0
  · rw [if_pos (by rw [hD]; rfl)]
    by_cases hQ : Q = 2 ^ n - 1
    · rw [if_pos (by rw [hQ]), if_pos ⟨hdiv.mp hD, hQ⟩]
    · rw [if_neg (by rw [wI_eq (by omega) (by omega) (by omega) (by omega)]; omega), if_neg (fun h => hQ h.2)]
  · rw [if_neg (by rw [wI_0, wI_eq (by omega) (by omega) (by omega) (by omega)]; omega), if_neg (fun h => hD (hdiv.mpr h.1))]
/-- the odds by a row, of the class -/
theorem c_byRow (hF : 40 ≤ F) (hS : okS S) (hC : CS S now) {s : Nat} (hs : s ≤ 1) {q : Nat → Nat} {R : Int32} (hR : ∀ k : Nat, k < sn S → K_digitAt R (wI k) (wI (sn S)) = wI ((q k : Nat) : Int) ∧ q k < sn S) (hT : cbS S s tr) (hcl : cln fc) : ∃ r fc', K_setTrialRow F now tr (wI s) R = some r ∧ Fc_look F fc r = some fc' ∧ cbS S s r ∧ cln fc' ∧ fc_winsOfA fc' = wJ (oU (stR S s q) (0, 0, 0, sf S) 0) ∧ fc_winsOfB fc' = wJ (oU (stR S s q) (0, 0, 0, sf S) 1) ∧ fc_whole fc' = wJ (oL (stR S s q) (0, 0, 0, sf S)) := by
  obtain ⟨r, e, hT2, hC2⟩ := c_rowS (F := F) (by omega) hS hC hs hR hT
  have hok := okR hS hs (fun k hk => (hR k hk).2)
  obtain ⟨fc', e1, cl, hA, hB, hW⟩ := c_look (F := F) (k := 0) (gl := fun _ => 0) hF hok hC2 (fun _ => Nat.zero_le _) (cbT_CM hT2.1 _ _) (by omega) hcl
  exact ⟨r, fc', e, e1, hT2, cl, hA, hB, hW⟩
theorem c_start3 (hF : 20 ≤ F) (hC : CS S now) (sh : Sh) (s : Nat) : ∃ r, K_takeStart F now sh = some r ∧ cbS S s r ∧ CS S r := by
  obtain ⟨r, e, hT, hk⟩ := c_start2 hF hC sh
  exact ⟨r, e, ⟨hT, fun i hi _ => hk i hi⟩, hT.1, hT.2.1, hT.2.2.1, hT.2.2.2.1, hk⟩
theorem q_oddsOf (hF : 1100 ≤ F) (hp : okP p ∨ p = p00) (hc : cP p now) (hm : mP p row) (hcl : cln fc) (tr : Sh) (to : Fr) (bx : Bx) (mo : Mo) (su : Su) (wy : Wy) (wa : Wa) (od : Od) (pl : Pl) (x y z : Int32) : ∃ r tr' fc' to' bx' mo' su' wy' wa' od' pl', K_oddsOf F now tr fc to x y z = some (r, tr', fc', to') ∧ M_oddsOf F row bx mo su wy wa od pl x y z = some (r, 0, bx', mo', su', wy', wa', od', pl') ∧ cln fc' := by
  obtain ⟨a, rfl, a1, a2⟩ := wI_of x
  obtain ⟨b, rfl, b1, b2⟩ := wI_of y
  obtain ⟨d, rfl, d1, d2⟩ := wI_of z
  rcases hp with hp | rfl
  · have hn5 := hp.1.2.1
    by_cases q1 : 0 ≤ a ∧ a ≤ 1
    · have n1 : ¬ K_isSideTold now (wI a) = 0 := fun h => (t_sd hp hc a1 a2).mp h q1
      have n2 : ¬ M_isThere row (wI a) = 0 := fun h => (t_th hp hm a1 a2).mp h q1
      by_cases q4 : 0 ≤ d ∧ d ≤ 1
      · have n7 : ¬ K_isPart (wI d) = 0 := fun h => (part_z d1 d2).mp h q4
        have n8 : ¬ M_in (wI d).toInt64 0 1 = 0 := fun h => (in_z (lo := 0) (hi := 1) d1 d2 (by omega) (by omega) (by omega) (by omega)).mp h q4
        by_cases hb0 : b < 0
        · refine ⟨-1, tr, fc, to, bx, mo, su, wy, wa, od, pl, ?_, ?_, hcl⟩
          · unfold K_oddsOf
            rw [if_neg n1, if_neg n7]
            have e : K_isRow F (wI b) (sh_shooters now) = some 0 := by
              unfold K_isRow
              exact if_pos (by rw [wI_0, wI_lt (by omega) (by omega) (by omega) (by omega)]; omega)
            rw [e, z_bd_s, if_pos rfl]
          · unfold M_oddsOf
            rw [if_neg n2, if_neg n8]
            exact if_pos (by rw [wI_0, wI_lt (by omega) (by omega) (by omega) (by omega)]; omega)
        · obtain ⟨R, rfl⟩ : ∃ s : Nat, b = s := ⟨b.toNat, by omega⟩
          obtain ⟨s, rfl⟩ : ∃ s : Nat, a = s := ⟨a.toNat, by omega⟩
          have hb1 : ¬ wI (R : Int) < 0 := by rw [wI_0, wI_lt (by omega) (by omega) (by omega) (by omega)]; omega
          have eK := k_isRow (F := F) (R := R) (n := sn p.1) (by omega) (by omega) (by omega)
          obtain ⟨pl', eM, hpl⟩ := r_readRow (F := F) (R := R) (n := sn p.1) (row := row) (by omega) (by omega) (by omega) hm.1 pl
          by_cases hok : R < 10 ^ sn p.1 ∧ oN (fun k => R / 10 ^ (sn p.1 - 1 - k) % 10) (sn p.1) = 2 ^ sn p.1 - 1
          · rw [if_pos hok] at eK eM
            have hall := oN_all hok.2
            obtain ⟨u5, e5, hT, hC5⟩ := c_start3 (F := F) (by omega) hc.1 tr s
            obtain ⟨r6, fc', e6, e7, hT2, cl, hA, hB, hW⟩ := c_byRow (F := F) (q := fun k => R / 10 ^ (sn p.1 - 1 - k) % 10) (R := wI (R : Nat)) (by omega) hp.1 hc.1 (s := s) (by omega) (fun k hk => ⟨k_dig (by omega) hk (by omega), hall k hk⟩) hT hcl
            obtain ⟨bx', mo', su', wy', wa', e8⟩ := r_byRow (q := fun k => R / 10 ^ (sn p.1 - 1 - k) % 10) hF hp.1 hm (s := s) (by omega) (pl := pl') (fun k hk => ⟨hpl k hk, hall k hk⟩) bx mo su wy wa
            obtain ⟨r, fr, e9, e10⟩ := q_tell (F := F) (by omega) (okR hp.1 (show s ≤ 1 by omega) hall) hA hB hW (s := s) (by omega) (wI d)
            refine ⟨r, r6, fc', fr, bx', mo', su', wy', wa', (wJ (oU (stR p.1 s fun k => R / 10 ^ (sn p.1 - 1 - k) % 10) (0, 0, 0, sf p.1) s), wJ (oL (stR p.1 s fun k => R / 10 ^ (sn p.1 - 1 - k) % 10) (0, 0, 0, sf p.1))), pl', ?_, ?_, cl⟩
            · unfold K_oddsOf
              rw [if_neg n1, if_neg n7, hc.1.1, eK, z_bd_s, if_neg (by decide), e5, z_bd_s, e6, z_bd_s, e7, z_bd_s, e9, z_bd_s]
            · unfold M_oddsOf
              rw [if_neg n2, if_neg n8, if_neg hb1, eM, z_bd_s, if_neg (by show ¬ (1 : Int32) = 0; decide), e8, z_bd_s, e10, z_bd_s]
          · rw [if_neg hok] at eK eM
            refine ⟨-1, tr, fc, to, bx, mo, su, wy, wa, od, pl', ?_, ?_, hcl⟩
            · unfold K_oddsOf
              rw [if_neg n1, if_neg n7, hc.1.1, eK, z_bd_s, if_pos rfl]
            · unfold M_oddsOf
              rw [if_neg n2, if_neg n8, if_neg hb1, eM, z_bd_s, if_pos (by show (0 : Int32) = 0; rfl)]
      · refine ⟨-1, tr, fc, to, bx, mo, su, wy, wa, od, pl, ?_, ?_, hcl⟩
        · unfold K_oddsOf
          rw [if_neg n1, if_pos ((part_z d1 d2).mpr q4)]
        · unfold M_oddsOf
          rw [if_neg n2]
          exact if_pos ((in_z (lo := 0) (hi := 1) d1 d2 (by omega) (by omega) (by omega) (by omega)).mpr q4)
    · refine ⟨-1, tr, fc, to, bx, mo, su, wy, wa, od, pl, ?_, ?_, hcl⟩
      · unfold K_oddsOf
        rw [if_pos ((t_sd hp hc a1 a2).mpr q1)]
      · unfold M_oddsOf
        rw [if_pos ((t_th hp hm a1 a2).mpr q1)]
  · refine ⟨-1, tr, fc, to, bx, mo, su, wy, wa, od, pl, ?_, ?_, hcl⟩
    · unfold K_oddsOf
      rw [if_pos (u_sd hc _)]
    · unfold M_oddsOf
      rw [if_pos (u_th hm _)]
/-! best -/
noncomputable def uR (S : St) (s i : Nat) : Int := oU (stR S s (pq (sn S) i)) (0, 0, 0, sf S) s
noncomputable def lR (S : St) (s i : Nat) : Int := oL (stR S s (pq (sn S) i)) (0, 0, 0, sf S)
theorem uR_b (hS : okS S) {s i : Nat} (hs : s ≤ 1) (hi : i < fc5 (sn S)) : 0 ≤ uR S s i ∧ uR S s i ≤ lR S s i ∧ 0 < lR S s i ∧ lR S s i ≤ 3656158440062976 := oU_b (okR hS hs (fun k hk => (row_dg _ (by have := hS.2.1; omega) i hi k hk).2)) _ hs
theorem c_byI (hS : okS S) (hC : CS S now) {s i : Nat} (hs : s ≤ 1) (hi : i < fc5 (sn S)) (hT : cbS S s tr) (hcl : cln fc) : ∃ r fc', K_setTrialRow FF now tr (wI s) (wI ((enc (pm (sn S) i) : Nat) : Int)) = some r ∧ Fc_look FF fc r = some fc' ∧ cbS S s r ∧ cln fc' ∧ Fc_winsOf fc' (wI s) = wJ (uR S s i) ∧ fc_whole fc' = wJ (lR S s i) := by
  have hn5 := hS.2.1
  obtain ⟨r, fc', e1, e2, hT2, cl, hA, hB, hW⟩ := c_byRow (F := FF) (q := pq (sn S) i) (by decide) hS hC hs (fun k hk => row_dg _ (by omega) i hi k hk) hT hcl
  exact ⟨r, fc', e1, e2, hT2, cl, c_wins hA hB hs, hW⟩
theorem r_byI (hS : okS S) (hm : MR S gl k row) {s i : Nat} (hs : s ≤ 1) (hi : i < fc5 (sn S)) {pl : Pl} (hpl : plN (sn S) i pl) (bx : Bx) (mo : Mo) (su : Su) (wy : Wy) (wa : Wa) : ∃ bx' mo' su' wy' wa', M_oddsByRow FF row bx mo su wy wa pl (wI s) = some (bx', mo', su', wy', wa', (wJ (uR S s i), wJ (lR S s i))) :=
  r_byRow (F := FF) (q := pq (sn S) i) (by decide) hS hm hs (plN_q hpl (by have := hS.2.1; omega) hi) bx mo su wy wa
theorem best_all (hp : okP p) (hc : cP p now) (hm : mP p row) {s : Nat} (hs : s ≤ 1) : ∀ (j i n n' : Nat) (x6 x3 m : Int32) (up low : Int64) (tr : Sh) (fc : Fc) (tp : Fr) (bx : Bx) (mo : Mo) (su : Su) (wy : Wy) (wa : Wa) (od : Od) (pl : Pl), i + j = fc5 (sn p.1) → j < n → j < n' → cln fc → cbS p.1 s tr → ((i < fc5 (sn p.1) ∧ m = 1 ∧ plN (sn p.1) i pl) ∨ (i = fc5 (sn p.1) ∧ m = 0)) →
    ((i = 0 ∧ x3 = -1) ∨ (1 ≤ i ∧ x3 = x6 ∧ ¬ x6 = -1 ∧ ∃ U L : Int, tp = (wJ U, wJ L) ∧ up = wJ U ∧ low = wJ L ∧ 0 ≤ U ∧ U < 4611686018427387904 ∧ 0 < L ∧ L < 4611686018427387904)) →
    ∃ r tr' fc' tp' bx' mo' su' wy' wa' od' pl', K_best_L30 FF now (wI s) (wI ((fc5 (sn p.1) : Nat) : Int)) n x6 (wI (i : Nat)) tr fc tp = some (r, tr', fc', tp') ∧ M_best_L29 FF row (wI s) n' x3 up low m bx mo su wy wa od pl = some (r, 0, bx', mo', su', wy', wa', od', pl') ∧ cln fc' := by
  have hn5 := hp.1.2.1
  have hn1 := hp.1.1
  have hf := fc5_k (sn p.1) (by omega)
  intro j
  induction j with
  | zero =>
    intro i n n' x6 x3 m up low tr fc tp bx mo su wy wa od pl hi hn hn' hcl hT hmo h
    obtain ⟨n, rfl⟩ : ∃ k, n = k + 1 := ⟨n - 1, by omega⟩
    obtain ⟨n', rfl⟩ : ∃ k, n' = k + 1 := ⟨n' - 1, by omega⟩
    rcases hmo with hmo | ⟨hmo, hm0⟩
    · omega
    · rcases h with h | ⟨_, h, _⟩
      · omega
      · subst h
        refine ⟨x3, tr, fc, tp, bx, mo, su, wy, wa, od, pl, ?_, ?_, hcl⟩
        · rw [K_best_L30]
          exact if_pos (by rw [wI_le (by omega) (by omega) (by omega) (by omega)]; omega)
        · rw [M_best_L29]
          exact if_pos hm0
  | succ j ih =>
    intro i n n' x6 x3 m up low tr fc tp bx mo su wy wa od pl hi hn hn' hcl hT hmo h
    obtain ⟨n, rfl⟩ : ∃ k, n = k + 1 := ⟨n - 1, by omega⟩
    obtain ⟨n', rfl⟩ : ∃ k, n' = k + 1 := ⟨n' - 1, by omega⟩
    have hil : i < fc5 (sn p.1) := by omega
    rcases hmo with ⟨_, hm1, hpl⟩ | ⟨hmo, _⟩
    · obtain ⟨tr1, fc1, e1, e2, hT1, cl1, hw1, hW1⟩ := c_byI hp.1 hc.1 hs hil hT hcl
      obtain ⟨bx1, mo1, su1, wy1, wa1, e3⟩ := r_byI hp.1 hm hs hil hpl bx mo su wy wa
      have hub := uR_b hp.1 hs hil
      have erow := row_at (sn p.1) (by omega) i hil
      have eb := row_eb (sn p.1) (by omega) i hil
      have edg := dg_at hm.1 (by omega) hil hpl
      obtain ⟨b, pl', enx, hnx⟩ := nx_step hm.1 (by omega) (by omega) hil hpl
      have hmo' : (i + 1 < fc5 (sn p.1) ∧ b = 1 ∧ plN (sn p.1) (i + 1) pl') ∨ (i + 1 = fc5 (sn p.1) ∧ b = 0) := by
        rcases hnx with h | h
        · exact Or.inl h
        · exact Or.inr ⟨by omega, h.2⟩
      have hk1 : wI (i : Int) + 1 = wI ((i + 1 : Nat) : Int) := by rw [wI_1, wI_add]; rfl
      have hkl : ¬ wI ((fc5 (sn p.1) : Nat) : Int) ≤ wI (i : Int) := by rw [wI_le (by omega) (by omega) (by omega) (by omega)]; omega
      have hm0 : ¬ m = 0 := by rw [hm1]; decide
      have hne : ¬ wI ((enc (pm (sn p.1) i) : Nat) : Int) = -1 := by rw [wI_m1, wI_eq (by omega) (by omega) (by omega) (by omega)]; omega
      have hput : Fr_put (wJ (uR p.1 s i)) (wJ (lR p.1 s i)) = (wJ (uR p.1 s i), wJ (lR p.1 s i)) := f_put (by omega) (by omega)
      obtain ⟨r, tr', fc', tp', bx', mo', su', wy', wa', od', plz, f1, f2, f3⟩ := ih (i + 1) n n' (wI ((enc (pm (sn p.1) i) : Nat) : Int)) (wI ((enc (pm (sn p.1) i) : Nat) : Int)) b (wJ (uR p.1 s i)) (wJ (lR p.1 s i)) tr1 fc1 (wJ (uR p.1 s i), wJ (lR p.1 s i)) bx1 mo1 su1 wy1 wa1 (wJ (uR p.1 s i), wJ (lR p.1 s i)) pl' (by omega) (by omega) (by omega) cl1 hT1 hmo' (Or.inr ⟨by omega, rfl, hne, _, _, rfl, rfl, rfl, by omega, by omega, by omega, by omega⟩)
      rcases h with ⟨h0, h⟩ | ⟨h0, h, h9, U0, L0, hx⟩
      · refine ⟨r, tr', fc', tp', bx', mo', su', wy', wa', od', plz, ?_, ?_, f3⟩
        · rw [K_best_L30, if_neg hkl, hc.1.1, erow, z_bd_s, e1, z_bd_s, e2, z_bd_s, z_jn_e, if_pos (by rw [h0]; rfl), hw1, hW1, hput, z_let_e, z_let_e, hk1]
          exact f1
        · rw [M_best_L29, if_neg hm0, e3, z_bd_s, z_jn_e, z_jn_e, if_pos h, edg, z_bd_s, z_let_e, z_let_e, enx]
          dsimp only
          rw [z_bd_s, z_let_e]
          exact f2
      · obtain ⟨h1, h2, h3, h4, h5, h6, h7⟩ := hx
        have hag := f_against (F := FF) (by decide) (a := uR p.1 s i) (b := lR p.1 s i) (c := U0) (d := L0) (by omega) (by omega) (by omega) (by omega) h4 h5 h6 h7
        have hi0 : ¬ wI (i : Int) = 0 := by rw [wI_0, wI_eq (by omega) (by omega) (by omega) (by omega)]; omega
        have hx2 : ¬ x3 = -1 := by rw [h]; exact h9
        by_cases hle : wI (cm4 (uR p.1 s i).toNat (lR p.1 s i).toNat U0.toNat L0.toNat) ≤ 0
        · obtain ⟨r, tr', fc', tp', bx', mo', su', wy', wa', od', plz, f1, f2, f3⟩ := ih (i + 1) n n' x6 x3 b up low tr1 fc1 tp bx1 mo1 su1 wy1 wa1 (wJ (uR p.1 s i), wJ (lR p.1 s i)) pl' (by omega) (by omega) (by omega) cl1 hT1 hmo' (Or.inr ⟨by omega, h, h9, U0, L0, h1, h2, h3, h4, h5, h6, h7⟩)
          refine ⟨r, tr', fc', tp', bx', mo', su', wy', wa', od', plz, ?_, ?_, f3⟩
          · rw [K_best_L30, if_neg hkl, hc.1.1, erow, z_bd_s, e1, z_bd_s, e2, z_bd_s, z_jn_e, if_neg hi0]
            unfold Fc_oddsAgainst
            rw [hw1, hW1, h1]
            refine (z_bd_e ((z_bd_e hag.1).trans rfl)).trans ?_
            rw [if_pos hle, z_let_e, hk1, ← h1]
            exact f1
          · rw [M_best_L29, if_neg hm0, e3, z_bd_s, z_jn_e, z_jn_e, if_neg hx2, h2, h3]
            refine (z_bd_e hag.2).trans ?_
            rw [if_pos hle, enx, ← h2, ← h3]
            dsimp only
            rw [z_bd_s, z_let_e]
            exact f2
        · refine ⟨r, tr', fc', tp', bx', mo', su', wy', wa', od', plz, ?_, ?_, f3⟩
          · rw [K_best_L30, if_neg hkl, hc.1.1, erow, z_bd_s, e1, z_bd_s, e2, z_bd_s, z_jn_e, if_neg hi0]
            unfold Fc_oddsAgainst
            rw [hw1, hW1, h1]
            refine (z_bd_e ((z_bd_e hag.1).trans rfl)).trans ?_
            rw [if_neg hle, hput, z_let_e, z_let_e, hk1]
            exact f1
          · rw [M_best_L29, if_neg hm0, e3, z_bd_s, z_jn_e, z_jn_e, if_neg hx2, h2, h3]
            refine (z_bd_e hag.2).trans ?_
            rw [if_neg hle, edg, z_bd_s, z_let_e, z_let_e, enx]
            dsimp only
            rw [z_bd_s, z_let_e]
            exact f2
    · omega
theorem q_best (hp : okP p ∨ p = p00) (hc : cP p now) (hm : mP p row) (hcl : cln fc) (tr : Sh) (tp : Fr) (bx : Bx) (mo : Mo) (su : Su) (wy : Wy) (wa : Wa) (od : Od) (pl : Pl) (x : Int32) : ∃ r tr' fc' tp' bx' mo' su' wy' wa' od' pl', K_best FF now tr fc tp x = some (r, tr', fc', tp') ∧ M_best FF row bx mo su wy wa od pl x = some (r, 0, bx', mo', su', wy', wa', od', pl') ∧ cln fc' := by
  obtain ⟨a, rfl, a1, a2⟩ := wI_of x
  rcases hp with hp | rfl
  · have hn5 := hp.1.2.1
    by_cases q1 : 0 ≤ a ∧ a ≤ 1
    · have n1 : ¬ K_isSideTold now (wI a) = 0 := fun h => (t_sd hp hc a1 a2).mp h q1
      have n2 : ¬ M_isThere row (wI a) = 0 := fun h => (t_th hp hm a1 a2).mp h q1
      obtain ⟨s, rfl⟩ : ∃ s : Nat, a = s := ⟨a.toNat, by omega⟩
      obtain ⟨u2, e2, hT, hC2⟩ := c_start3 (F := FF) (by decide) hc.1 tr s
      obtain ⟨pl1, e3, hpl⟩ := fst_row (F := FF) (n := sn p.1) (by decide) (by omega) pl
      have hf := fc5_k (sn p.1) (by omega)
      obtain ⟨r, tr', fc', tp', bx', mo', su', wy', wa', od', pl', f1, f2, f3⟩ := best_all hp hc hm (s := s) (by omega) (fc5 (sn p.1)) 0 FF FF (-1) (-1) 1 0 1 u2 fc tp bx mo su wy wa od pl1 (by omega) (by show _ < 2000; omega) (by show _ < 2000; omega) hcl hT (Or.inl ⟨hf.2.1, rfl, hpl⟩) (Or.inl ⟨rfl, rfl⟩)
      refine ⟨r, tr', fc', tp', bx', mo', su', wy', wa', od', pl', ?_, ?_, f3⟩
      · unfold K_best
        rw [if_neg n1, e2, z_bd_s, hc.1.1, hf.1, z_let_e]
        exact f1
      · unfold M_best
        rw [if_neg n2, e3, z_bd_s]
        exact f2
    · refine ⟨-1, tr, fc, tp, bx, mo, su, wy, wa, od, pl, ?_, ?_, hcl⟩
      · unfold K_best
        rw [if_pos ((t_sd hp hc a1 a2).mpr q1)]
      · unfold M_best
        rw [if_pos ((t_th hp hm a1 a2).mpr q1)]
  · refine ⟨-1, tr, fc, tp, bx, mo, su, wy, wa, od, pl, ?_, ?_, hcl⟩
    · unfold K_best
      rw [if_pos (u_sd hc _)]
    · unfold M_best
      rw [if_pos (u_th hm _)]
end ZRO

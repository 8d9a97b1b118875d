/-! ACTS: remembered, undone, kept -/
def iPast (ps : List Po) (pa : Pa) (rg : Nat → Sh) (un : Un) : Prop := ps.length ≤ 20 ∧ (∀ q ∈ ps, okP q) ∧ pa_size pa = wI (ps.length : Nat) ∧ un_nUndo un = wI (ps.length : Nat) ∧ ∃ nx : Nat, nx < 20 ∧ pa_next pa = wI (nx : Nat) ∧ ∀ j q, ps[j]? = some q → cP q (rg ((nx + 19 - j) % 20)) ∧ mP q (fun i => un_undos un (78 * (ps.length - 1 - j) + i))
def iKept (p : Po) (ko : Ko) (k0 k1 : Sh) (kp : Kp) : Prop := (∀ i, i < 2 → ko_isKept ko i = kp_isKept kp i) ∧ (p = p00 → kp_isKept kp 0 = 0 ∧ kp_isKept kp 1 = 0) ∧ (¬ kp_isKept kp 0 = 0 → ∃ q, okP q ∧ cP q k0 ∧ mP q (fun i => kp_kept kp i)) ∧ (¬ kp_isKept kp 1 = 0 → ∃ q, okP q ∧ cP q k1 ∧ mP q (fun i => kp_kept kp (78 + i)))
def re0 (re : Re) : Re := ((re_winsOfA re), (re_winsOfB re), (re_wholes re), (re_bestOfA re), (re_bestOfB re), (re_rows re), 0, (re_pairs re), (re_rowOfA re), (re_rowOfB re))
section ZAC
variable {p : Po} {ps : List Po} {now : Sh} {row : MRow} {F : Nat} {pa : Pa} {rg : Nat → Sh} {un : Un} {re : Re}
theorem mP_ext {q : Po} {r r' : MRow} (hq : okP q) (h : ∀ i, i < 78 → r' i = r i) (hm : mP q r) : mP q r' := by
  obtain ⟨h1, h2, h3, h4, h5, h6, h7⟩ := hm
  have hk := hq.2.2
  exact ⟨(h 0 (by omega)).trans h1, (h 1 (by omega)).trans h2, (h 2 (by omega)).trans h3, (h 3 (by omega)).trans h4, fun i hi => (h _ (by omega)).trans (h5 i hi), fun i hi => (h _ (by omega)).trans (h6 i hi), fun i hi => (h _ (by omega)).trans (h7 i hi)⟩
theorem va_up_s {f : Nat → Sh} {i : Nat} {x : Sh} : va_up f i x i = x := by simp [va_up]
theorem va_up_n {f : Nat → Sh} {i j : Nat} {x : Sh} (h : j ≠ i) : va_up f i x j = f j := by simp [va_up, h]
theorem r_put55 (hF : 100 ≤ F) (row : MRow) (kx : Un → Option Un) {L : Nat} (hL : L < 20) (un : Un) (hu : un_nUndo un = wI (L : Nat)) : ∃ un', M_remember_L55 row kx F 0 un = kx un' ∧ un_nUndo un' = wI (L : Nat) ∧ (∀ t, t < 78 → un_undos un' (78 * L + t) = row t) ∧ (∀ t, t < 78 * L → un_undos un' t = un_undos un t) := by
  obtain ⟨s', e, h⟩ := lp0 (fun n x (s : Un) => M_remember_L55 row kx n x s) kx 78 (fun i s => un_nUndo s = wI (L : Nat) ∧ (∀ t, t < i → un_undos s (78 * L + t) = row t) ∧ (∀ t, t < 78 * L → un_undos s t = un_undos un t))
    (fun n i s hi hp => by
      obtain ⟨q1, q2, q3⟩ := hp
      refine ⟨(upd (un_undos s) (78 * L + i) (row i), un_nUndo s), ?_, q1, fun t ht => ?_, fun t ht => ?_⟩
      · simp only [M_remember_L55]
        rw [if_neg (by rw [wI_78, wI_le (by omega) (by omega) (by omega) (by omega)]; omega), z_gd_e (wI_in (by omega) (by omega) (by omega)), z_let_e, q1, wI_78, wI_mul, wI_add, z_gd_e (wI_in (by omega) (by omega) (by omega)), z_let_e, wI_nat (by omega) (by omega), wI_ix (by omega), show (78 * (L : Int) + i).toNat = 78 * L + i by omega, wI_1, wI_add]
        rfl
      · show upd (un_undos s) (78 * L + i) (row i) (78 * L + t) = _
        by_cases h : t = i
        · rw [h, upd_s]
        · rw [upd_n (by omega)]; exact q2 t (by omega)
      · show upd (un_undos s) (78 * L + i) (row i) t = _
        rw [upd_n (by omega)]
        exact q3 t ht)
    (fun n s _ => by simp only [M_remember_L55]; exact if_pos (by decide)) (n := F) (s := un) (by omega) ⟨hu, fun t h => absurd h (Nat.not_lt_zero t), fun _ _ => rfl⟩
  exact ⟨s', e, h⟩
theorem r_shift (hF : 1600 ≤ F) (kx : Un → Option Un) (un : Un) (hu : un_nUndo un = wI 19) : ∃ un', M_remember_L21 kx F 0 un = kx un' ∧ un_nUndo un' = wI 19 ∧ (∀ t, t < 1482 → un_undos un' t = un_undos un (t + 78)) := by
  obtain ⟨s', e, h1, h2, h3⟩ := lp0 (fun n x (s : Un) => M_remember_L21 kx n x s) kx 1482 (fun i s => un_nUndo s = wI 19 ∧ (∀ t, t < i → un_undos s t = un_undos un (t + 78)) ∧ (∀ t, i ≤ t → un_undos s t = un_undos un t))
    (fun n i s hi hp => by
      obtain ⟨q1, q2, q3⟩ := hp
      refine ⟨(upd (un_undos s) i (un_undos s (i + 78)), un_nUndo s), ?_, q1, fun t ht => ?_, fun t ht => ?_⟩
      · simp only [M_remember_L21]
        rw [q1, wI_78, wI_mul, if_neg (by rw [wI_le (by omega) (by omega) (by omega) (by omega)]; omega), wI_add, z_gd_e (wI_in (by omega) (by omega) (by omega)), z_let_e, z_gd_e (wI_in (by omega) (by omega) (by omega)), z_let_e, wI_ix (by omega), wI_nat (by omega) (by omega), show ((i : Int) + 78).toNat = i + 78 by omega, wI_1, wI_add]
        rfl
      · show upd (un_undos s) i _ t = _
        by_cases h : t = i
        · rw [h, upd_s]
          exact q3 _ (by omega)
        · rw [upd_n h]; exact q2 t (by omega)
      · show upd (un_undos s) i _ t = _
        rw [upd_n (by omega)]
        exact q3 t (by omega))
    (fun n s hp => by
      simp only [M_remember_L21]
      rw [hp.1]
      exact if_pos (by decide)) (n := F) (s := un) (by omega) ⟨hu, fun t h => absurd h (Nat.not_lt_zero t), fun _ _ => rfl⟩
  exact ⟨s', e, h1, h2⟩
theorem q_rem (hF : 1600 ≤ F) (hp : okP p) (hc : cP p now) (hm : mP p row) (h : iPast ps pa rg un) (re : Re) : ∃ pa' rg' un', K_remember F now pa re rg = some (pa', re0 re, rg') ∧ M_remember F row un = some un' ∧ iPast ((p :: ps).take 20) pa' rg' un' := by
  obtain ⟨h1, h2, h3, h4, nx, h5, h6, h7⟩ := h
  -- the class
  obtain ⟨r, er, hCr, hMr⟩ := c_cp (F := F) (by omega) hc.1 hc.2 (rg nx)
  obtain ⟨L', hL'⟩ : ∃ L', L' = if 20 < ps.length + 1 then 20 else ps.length + 1 := ⟨_, rfl⟩
  have hlen : ((p :: ps).take 20).length = L' := by
    rw [List.length_take, List.length_cons, hL']
    split <;> omega
  have ePush : Pa_push F pa now rg = some ((wI (((nx + 1) % 20 : Nat) : Int), wI (L' : Nat)), va_up rg nx r) := by
    unfold Pa_push
    refine (z_jn_c pa (fun K => ?_)).trans ?_
    · rw [z_jn_e, h6, if_neg (by rw [wI_0, wI_lt (by omega) (by omega) (by omega) (by omega)]; omega), if_pos (by rw [wI_20, wI_lt (by omega) (by omega) (by omega) (by omega)]; omega)]
    · show z_gd _ _ = _
      rw [h6, h3, z_gd_e (wI_in (by omega) (by omega) (by omega)), wI_ix (by omega), er, z_bd_s, wI_1, wI_20, wI_add, wI_add, wI_rem (by omega) (by omega) (by omega) (by omega), z_let_e, z_let_e, hL']
      have e1 : ((nx : Int) + 1) % 20 = (((nx + 1) % 20 : Nat) : Int) := by omega
      have e2 : (if wI 20 < wI ((ps.length : Int) + 1) then wI 20 else wI ((ps.length : Int) + 1)) = wI ((if 20 < ps.length + 1 then 20 else ps.length + 1 : Nat) : Int) := by
        simp (disch := omega) only [wI_lt]
        by_cases hh : 20 < ps.length + 1
        · rw [if_pos hh, if_pos (by omega)]; rfl
        · rw [if_neg hh, if_neg (by omega)]; rfl
      rw [e1, e2]
  -- the reference
  obtain ⟨un', eM, hn', hrow, hold⟩ : ∃ un', M_remember F row un = some un' ∧ un_nUndo un' = wI (L' : Nat) ∧ (∀ t, t < 78 → un_undos un' (78 * (L' - 1) + t) = row t) ∧ (∀ j, j + 1 < L' → ∀ t, t < 78 → un_undos un' (78 * (L' - 1 - (j + 1)) + t) = un_undos un (78 * (ps.length - 1 - j) + t)) := by
    by_cases h20 : ps.length = 20
    · obtain ⟨u1, e1, a1, a2⟩ := r_shift hF (fun un25 => M_remember_L55 row (fun (un10 : Un) => z_let ((un_nUndo un10) + 1) (fun x16 : Int32 => some ((un_undos un10), x16))) F 0 un25) ((un_undos un), wI 19) rfl
      obtain ⟨u2, e2, b1, b2, b3⟩ := r_put55 (F := F) (by omega) row (fun (un10 : Un) => z_let ((un_nUndo un10) + 1) (fun x16 : Int32 => some ((un_undos un10), x16))) (L := 19) (by omega) u1 a1
      have hL20 : L' = 20 := by rw [hL', if_pos (by omega)]
      refine ⟨(un_undos u2, wI 20), ?_, by rw [hL20]; rfl, fun t ht => ?_, fun j hj t ht => ?_⟩
      · unfold M_remember
        rw [z_jn_e, h4, h20, if_pos (by decide), show wI ((20 : Nat) : Int) - 1 = wI 19 by decide, z_let_e]
        refine e1.trans (e2.trans ?_)
        rw [b1, z_let_e]
        rfl
      · rw [hL20]
        exact b2 t ht
      · rw [hL20, h20]
        rw [hL20] at hj
        show un_undos u2 (78 * (20 - 1 - (j + 1)) + t) = _
        rw [b3 _ (by omega), a2 _ (by omega)]
        show un_undos un _ = un_undos un _
        congr 1
        omega
    · obtain ⟨u2, e2, b1, b2, b3⟩ := r_put55 (F := F) (by omega) row (fun (un10 : Un) => z_let ((un_nUndo un10) + 1) (fun x16 : Int32 => some ((un_undos un10), x16))) (L := ps.length) (by omega) un h4
      have hLn : L' = ps.length + 1 := by rw [hL', if_neg (by omega)]
      refine ⟨(un_undos u2, wI (L' : Nat)), ?_, rfl, fun t ht => ?_, fun j hj t ht => ?_⟩
      · unfold M_remember
        rw [z_jn_e, if_neg (by rw [h4, wI_20, wI_eq (by omega) (by omega) (by omega) (by omega)]; omega)]
        refine e2.trans ?_
        rw [b1, z_let_e, wI_1, wI_add, hLn]
        rfl
      · rw [hLn, show ps.length + 1 - 1 = ps.length by omega]
        exact b2 t ht
      · rw [hLn] at hj ⊢
        show un_undos u2 _ = _
        rw [show ps.length + 1 - 1 - (j + 1) = ps.length - 1 - j by omega, b3 _ (by omega)]
  refine ⟨(wI (((nx + 1) % 20 : Nat) : Int), wI (L' : Nat)), va_up rg nx r, un', ?_, eM, by rw [hlen, hL']; split <;> omega, ?_, by rw [hlen], by rw [hlen]; exact hn', (nx + 1) % 20, by omega, rfl, ?_⟩
  · unfold K_remember
    rw [ePush, z_bd_s]
    rfl
  · intro q hq
    rcases List.mem_cons.mp (List.mem_of_mem_take hq) with h | h
    · rw [h]; exact hp
    · exact h2 q h
  · intro j q hj
    rw [hlen]
    have hj20 : j < L' := by
      have := (List.getElem?_eq_some_iff.mp hj).1
      rw [hlen] at this
      exact this
    have hL20 : L' ≤ 20 := by rw [hL']; split <;> omega
    rw [List.getElem?_take_of_lt (by omega)] at hj
    cases j with
    | zero =>
      simp only [List.getElem?_cons_zero, Option.some.injEq] at hj
      subst hj
      refine ⟨?_, ?_⟩
      · rw [show ((nx + 1) % 20 + 19 - 0) % 20 = nx by omega, va_up_s]
        exact ⟨hCr, hMr⟩
      · exact mP_ext hp (fun i hi => by show un_undos un' (78 * (L' - 1 - 0) + i) = row i; rw [Nat.sub_zero]; exact hrow i hi) hm
    | succ j =>
      simp only [List.getElem?_cons_succ] at hj
      obtain ⟨g1, g2⟩ := h7 j q hj
      have hjl : j < ps.length := (List.getElem?_eq_some_iff.mp hj).1
      have hok := h2 q (List.mem_of_getElem? hj)
      refine ⟨?_, ?_⟩
      · rw [show ((nx + 1) % 20 + 19 - (j + 1)) % 20 = (nx + 19 - j) % 20 by omega, va_up_n (by omega)]
        exact g1
      · exact mP_ext hok (fun i hi => hold j (by omega) i hi) g2
/-! undone -/
theorem q_undo (hF : 1600 ≤ F) (hp : okP p ∨ p = p00) (hc : cP p now) (hm : mP p row) (h : iPast ps pa rg un) (hre : iRest p.1 re) : ∃ (r : Int32) (now' : Sh) (pa' : Pa) (re' : Re) (row' : MRow) (un' : Un) (p' : Po) (ps' : List Po), K_undo F now pa re rg = some (r, now', pa', re') ∧ M_undo F row un = some (r, 0, row', un') ∧ (okP p' ∨ (p' = p00 ∧ p = p00)) ∧ (okP p → okP p') ∧ cP p' now' ∧ mP p' row' ∧ iPast ps' pa' rg un' ∧ iRest p'.1 re' := by
  rcases hp with hp | rfl
  · cases hps : ps with
    | nil =>
      subst hps
      have h' := h
      obtain ⟨h1, h2, h3, h4, nx, h5, h6, h7⟩ := h
      refine ⟨-3, now, pa, re, row, un, p, [], ?_, ?_, Or.inl hp, fun h => h, hc, hm, h', hre⟩
      · unfold K_undo Pa_popInto
        rw [if_neg (t_now hp hc).1, h3, if_pos (by decide), z_bd_s, if_pos rfl]
      · unfold M_undo
        rw [if_neg (t_row hp hm), h4, if_pos (by decide)]
    | cons q ps2 =>
      subst hps
      obtain ⟨h1, h2, h3, h4, nx, h5, h6, h7⟩ := h
      have hokq := h2 q (List.mem_cons_self)
      obtain ⟨g1, g2⟩ := h7 0 q rfl
      rw [List.length_cons] at h1 h3 h4
      obtain ⟨r, er, hCr, hMr⟩ := c_cp (F := F) (by omega) g1.1 g1.2 now
      have hsz : wI ((ps2.length + 1 : Nat) : Int) - 1 = wI (ps2.length : Nat) := by rw [wI_1, wI_sub]; exact wI_c (by omega)
      have hne : ¬ wI ((ps2.length + 1 : Nat) : Int) = 0 := by rw [wI_0, wI_eq (by omega) (by omega) (by omega) (by omega)]; omega
      have hv2 : (if (pa_next pa) ≤ 0 then (20 - 1 : Int32) else (if 20 < (pa_next pa) then (20 - 1) else ((pa_next pa) - 1))) = wI (((nx + 19) % 20 : Nat) : Int) := by
        rw [h6]
        by_cases h0 : nx = 0
        · rw [h0, if_pos (by decide)]; decide
        · rw [if_neg (by rw [wI_0, wI_le (by omega) (by omega) (by omega) (by omega)]; omega), if_neg (by rw [wI_20, wI_lt (by omega) (by omega) (by omega) (by omega)]; omega), wI_1, wI_sub]
          exact wI_c (by omega)
      obtain ⟨row', eM, hrow⟩ : ∃ row', M_undo_L37 un (wI (ps2.length : Nat)) F 0 row = some (wI (ps2.length : Nat), 0, row', (un_undos un, wI (ps2.length : Nat))) ∧ ∀ t, t < 78 → row' t = un_undos un (78 * ps2.length + t) := by
        obtain ⟨s', e, hh⟩ := lp0 (fun n x (s : MRow) => M_undo_L37 un (wI (ps2.length : Nat)) n x s) (fun s => some (wI (ps2.length : Nat), 0, s, (un_undos un, wI (ps2.length : Nat)))) 78 (fun i s => ∀ t, t < i → s t = un_undos un (78 * ps2.length + t))
          (fun n i s hi hp => by
            refine ⟨upd s i (un_undos un (78 * ps2.length + i)), ?_, fun t ht => ?_⟩
            · simp only [M_undo_L37]
              rw [if_neg (by rw [wI_78, wI_le (by omega) (by omega) (by omega) (by omega)]; omega), wI_78, wI_mul, wI_add, z_gd_e (wI_in (by omega) (by omega) (by omega)), z_let_e, z_gd_e (wI_in (by omega) (by omega) (by omega)), z_let_e, wI_ix (by omega), wI_nat (by omega) (by omega), show (78 * (ps2.length : Int) + i).toNat = 78 * ps2.length + i by omega, wI_1, wI_add]
              rfl
            · by_cases hti : t = i
              · rw [hti, upd_s]
              · rw [upd_n hti]; exact hp t (by omega))
          (fun n s _ => by simp only [M_undo_L37]; exact if_pos (by decide)) (n := F) (s := row) (by omega) (fun t h => absurd h (Nat.not_lt_zero t))
        exact ⟨s', e, hh⟩
      refine ⟨wI (ps2.length : Nat), r, (wI (((nx + 19) % 20 : Nat) : Int), wI (ps2.length : Nat)), re0 re, row', (un_undos un, wI (ps2.length : Nat)), q, ps2, ?_, ?_, Or.inl hokq, fun _ => hokq, ⟨hCr, hMr⟩, ?_, ⟨by omega, fun x hx => h2 x (List.mem_cons_of_mem _ hx), rfl, rfl, (nx + 19) % 20, by omega, rfl, fun j x hj => ?_⟩, Or.inl rfl⟩
      · have er : Sh_copyFrom F now (rg ((nx + 19) % 20)) = some r := by
          rw [show (nx + 19) % 20 = (nx + 19 - 0) % 20 by omega]; exact er
        unfold K_undo Pa_popInto
        rw [if_neg (t_now hp hc).1, h3, if_neg hne, hv2, z_let_e, hsz, z_let_e, z_gd_e (wI_in (by omega) (by omega) (by omega)), wI_ix (by omega), er, z_bd_s, z_bd_s, if_neg (by show ¬ (1 : Int32) = 0; decide)]
        rfl
      · unfold M_undo
        rw [if_neg (t_row hp hm), h4, if_neg hne, hsz, z_let_e]
        exact eM
      · refine mP_ext hokq (fun i hi => ?_) g2
        show row' i = un_undos un (78 * ((q :: ps2).length - 1 - 0) + i)
        rw [hrow i hi, List.length_cons]
        rfl
      · obtain ⟨v1, v2⟩ := h7 (j + 1) x (by rw [List.getElem?_cons_succ]; exact hj)
        have hjl : j < ps2.length := (List.getElem?_eq_some_iff.mp hj).1
        rw [List.length_cons] at v2
        refine ⟨?_, ?_⟩
        · rw [show ((nx + 19) % 20 + 19 - j) % 20 = (nx + 19 - (j + 1)) % 20 by omega]
          exact v1
        · rw [show ps2.length + 1 - 1 - (j + 1) = ps2.length - 1 - j by omega] at v2
          exact v2
  · refine ⟨-2, now, pa, re, row, un, p00, ps, ?_, ?_, Or.inr ⟨rfl, rfl⟩, fun h => h, hc, hm, h, hre⟩
    · unfold K_undo
      rw [if_pos (u_now hc)]
    · unfold M_undo
      rw [if_pos (u_row hm)]
/-! kept -/
theorem q_keep (hF : 1600 ≤ F) (hp : okP p ∨ p = p00) (hc : cP p now) (hm : mP p row) {ko : Ko} {k0 k1 : Sh} {kp : Kp} (h : iKept p ko k0 k1 kp) (x : Int32) : ∃ (r : Int32) (ko' : Ko) (k0' k1' : Sh) (kp' : Kp), K_keep F ko now k0 k1 x = some (r, ko', k0', k1') ∧ M_keep F row kp x = some (r, 0, kp') ∧ iKept p ko' k0' k1' kp' ∧ ko_verdict ko' = ko_verdict ko ∧ ko_hasVerdict ko' = ko_hasVerdict ko := by
  obtain ⟨a, rfl, a1, a2⟩ := wI_of x
  have hz : (M_in (wI a).toInt64 0 1 = 0) ↔ ¬ (0 ≤ a ∧ a ≤ 1) := in_z (lo := 0) (hi := 1) a1 a2 (by omega) (by omega) (by omega) (by omega)
  by_cases q : 0 ≤ a ∧ a ≤ 1
  · have k1n : ¬ wI a < 0 := by rw [wI_0, wI_lt (by omega) (by omega) (by omega) (by omega)]; omega
    have k2n : ¬ 2 ≤ wI a := by rw [wI_2, wI_le (by omega) (by omega) (by omega) (by omega)]; omega
    rcases hp with hp | rfl
    · obtain ⟨s, rfl⟩ : ∃ s : Nat, a = s := ⟨a.toNat, by omega⟩
      obtain ⟨K, hK⟩ : ∃ K : Kp → Option (Int32 × Th × Kp), K = fun (kp9 : Kp) => z_gd (z_in (wI (s : Int)) 2) (some (1, 0, ((kp_kept kp9), (upd (kp_isKept kp9) (wI (s : Int)).toNatClampNeg (vp_nar .boolean 1))))) := ⟨_, rfl⟩
      obtain ⟨kp1, e1, t1, t2, t3⟩ := lp0 (fun n x (t : Kp) => M_keep_L26 row (wI (s : Nat)) K n x t) K 78 (fun i t => kp_isKept t = kp_isKept kp ∧ (∀ j, j < i → kp_kept t (78 * s + j) = row j) ∧ (∀ j, (j < 78 * s ∨ 78 * s + 78 ≤ j) → kp_kept t j = kp_kept kp j))
        (fun n i t hi hp => by
          obtain ⟨q1, q2, q3⟩ := hp
          refine ⟨(upd (kp_kept t) (78 * s + i) (row i), kp_isKept t), ?_, q1, fun j hj => ?_, fun j hj => ?_⟩
          · simp only [M_keep_L26]
            rw [if_neg (by rw [wI_78, wI_le (by omega) (by omega) (by omega) (by omega)]; omega), z_gd_e (wI_in (by omega) (by omega) (by omega)), z_let_e, wI_78, wI_mul, wI_add, z_gd_e (wI_in (by omega) (by omega) (by omega)), z_let_e, wI_nat (by omega) (by omega), wI_ix (by omega), show (78 * (s : Int) + i).toNat = 78 * s + i by omega, wI_1, wI_add]
            rfl
          · show upd (kp_kept t) (78 * s + i) (row i) (78 * s + j) = _
            by_cases hji : j = i
            · rw [hji, upd_s]
            · rw [upd_n (by omega)]; exact q2 j (by omega)
          · show upd (kp_kept t) (78 * s + i) (row i) j = _
            rw [upd_n (by omega)]
            exact q3 j hj)
        (fun n t _ => by simp only [M_keep_L26]; exact if_pos (by decide)) (n := F) (s := kp) (by omega) ⟨rfl, fun t h => absurd h (Nat.not_lt_zero t), fun _ _ => rfl⟩
      have eM : M_keep F row kp (wI (s : Nat)) = some (1, 0, ((kp_kept kp1), (upd (kp_isKept kp1) s 1))) := by
        unfold M_keep
        rw [if_neg (fun h => hz.mp h q), if_neg (t_row hp hm), ← hK]
        refine (show _ = _ from e1).trans ?_
        rw [hK]
        show z_gd _ _ = _
        rw [z_gd_e (wI_in (by omega) (by omega) (by omega)), wI_ix (by omega)]
        rfl
      obtain ⟨h1, h2, h3, h4⟩ := h
      have hs : s = 0 ∨ s = 1 := by omega
      rcases hs with hs | hs
      · subst hs
        obtain ⟨r, er, hCr, hMr⟩ := c_cp (F := F) (by omega) hc.1 hc.2 k0
        refine ⟨1, (upd (ko_isKept ko) 0 1, ko_verdict ko, ko_hasVerdict ko), r, k1, ((kp_kept kp1), (upd (kp_isKept kp1) 0 1)), ?_, eM, ⟨fun i hi => ?_, fun h => absurd hp (by rw [h]; exact fun h => absurd h.1.1 (by decide)), fun _ => ⟨p, hp, ⟨hCr, hMr⟩, mP_ext hp (fun i hi => ?_) hm⟩, fun hk => ?_⟩, rfl, rfl⟩
        · unfold K_keep
          rw [if_neg k1n, if_neg k2n, if_neg (t_now hp hc).1, if_pos (by decide), er, z_bd_s]
          rfl
        · show upd (ko_isKept ko) 0 1 i = upd (kp_isKept kp1) 0 1 i
          rw [t1]
          by_cases hi0 : i = 0
          · rw [hi0, upd_s, upd_s]
          · rw [upd_n hi0, upd_n hi0]; exact h1 i hi
        · have := t2 i hi
          rw [show 78 * 0 + i = i by omega] at this
          exact this
        · have hk1 : ¬ kp_isKept kp 1 = 0 := by
            have hk : ¬ upd (kp_isKept kp1) 0 1 1 = 0 := hk
            rw [t1, upd_n (by omega)] at hk
            exact hk
          obtain ⟨q, hq, hq1, hq2⟩ := h4 hk1
          exact ⟨q, hq, hq1, mP_ext hq (fun i hi => t3 _ (by omega)) hq2⟩
      · subst hs
        obtain ⟨r, er, hCr, hMr⟩ := c_cp (F := F) (by omega) hc.1 hc.2 k1
        refine ⟨1, (upd (ko_isKept ko) 1 1, ko_verdict ko, ko_hasVerdict ko), k0, r, ((kp_kept kp1), (upd (kp_isKept kp1) 1 1)), ?_, eM, ⟨fun i hi => ?_, fun h => absurd hp (by rw [h]; exact fun h => absurd h.1.1 (by decide)), fun hk => ?_, fun _ => ⟨p, hp, ⟨hCr, hMr⟩, mP_ext hp (fun i hi => ?_) hm⟩⟩, rfl, rfl⟩
        · unfold K_keep
          rw [if_neg k1n, if_neg k2n, if_neg (t_now hp hc).1, if_neg (by decide), er, z_bd_s]
          rfl
        · show upd (ko_isKept ko) 1 1 i = upd (kp_isKept kp1) 1 1 i
          rw [t1]
          by_cases hi0 : i = 1
          · rw [hi0, upd_s, upd_s]
          · rw [upd_n hi0, upd_n hi0]; exact h1 i hi
        · have hk0 : ¬ kp_isKept kp 0 = 0 := by
            have hk : ¬ upd (kp_isKept kp1) 1 1 0 = 0 := hk
            rw [t1, upd_n (by omega)] at hk
            exact hk
          obtain ⟨q, hq, hq1, hq2⟩ := h3 hk0
          exact ⟨q, hq, hq1, mP_ext hq (fun i hi => t3 i (by omega)) hq2⟩
        · have := t2 i hi
          rw [show 78 * 1 + i = 78 + i by omega] at this
          exact this
    · refine ⟨0, ko, k0, k1, kp, ?_, ?_, h, rfl, rfl⟩
      · unfold K_keep
        rw [if_neg k1n, if_neg k2n, if_pos (u_now hc)]
      · unfold M_keep
        rw [if_neg (fun h => hz.mp h q), if_pos (u_row hm)]
  · refine ⟨0, ko, k0, k1, kp, ?_, ?_, h, rfl, rfl⟩
    · unfold K_keep
      by_cases h0 : a < 0
      · rw [if_pos (by rw [wI_0, wI_lt (by omega) (by omega) (by omega) (by omega)]; omega)]
      · rw [if_neg (by rw [wI_0, wI_lt (by omega) (by omega) (by omega) (by omega)]; omega), if_pos (by rw [wI_2, wI_le (by omega) (by omega) (by omega) (by omega)]; omega)]
    · unfold M_keep
      rw [if_pos (hz.mpr q)]
theorem q_again (hF : 1600 ≤ F) (hp : okP p ∨ p = p00) (hc : cP p now) (hm : mP p row) {ko : Ko} {k0 k1 : Sh} {kp : Kp} (h : iKept p ko k0 k1 kp) (hps : iPast ps pa rg un) (hre : iRest p.1 re) (x : Int32) : ∃ (r : Int32) (now' : Sh) (pa' : Pa) (re' : Re) (rg' : Nat → Sh) (row' : MRow) (un' : Un) (p' : Po) (ps' : List Po), K_again F ko now pa re k0 k1 rg x = some (r, now', pa', re', rg') ∧ M_again F row un kp x = some (r, 0, row', un') ∧ (okP p' ∨ (p' = p00 ∧ p = p00)) ∧ (okP p → okP p') ∧ cP p' now' ∧ mP p' row' ∧ iPast ps' pa' rg' un' ∧ iRest p'.1 re' := by
  obtain ⟨a, rfl, a1, a2⟩ := wI_of x
  have hz : (M_in (wI a).toInt64 0 1 = 0) ↔ ¬ (0 ≤ a ∧ a ≤ 1) := in_z (lo := 0) (hi := 1) a1 a2 (by omega) (by omega) (by omega) (by omega)
  have same : okP p ∨ (p = p00 ∧ p = p00) := by
    rcases hp with hp | hp
    · exact Or.inl hp
    · exact Or.inr ⟨hp, hp⟩
  by_cases q : 0 ≤ a ∧ a ≤ 1
  · have k1n : ¬ wI a < 0 := by rw [wI_0, wI_lt (by omega) (by omega) (by omega) (by omega)]; omega
    have k2n : ¬ 2 ≤ wI a := by rw [wI_2, wI_le (by omega) (by omega) (by omega) (by omega)]; omega
    obtain ⟨s, rfl⟩ : ∃ s : Nat, a = s := ⟨a.toNat, by omega⟩
    obtain ⟨h1, h2, h3, h4⟩ := h
    by_cases hk : kp_isKept kp s = 0
    · refine ⟨0, now, pa, re, rg, row, un, p, ps, ?_, ?_, same, fun h => h, hc, hm, hps, hre⟩
      · unfold K_again
        rw [if_neg k1n, if_neg k2n, wI_ix (by omega), h1 s (by omega), if_pos hk]
      · unfold M_again
        rw [if_neg (fun h => hz.mp h q), z_gd_e (wI_in (by omega) (by omega) (by omega)), wI_ix (by omega), if_pos hk]
    · have hs : s = 0 ∨ s = 1 := by omega
      have hokp : okP p := by
        rcases hp with hp | hp
        · exact hp
        · have := h2 hp
          rcases hs with hs | hs
          · rw [hs] at hk; exact absurd this.1 hk
          · rw [hs] at hk; exact absurd this.2 hk
      obtain ⟨qq, hq, hq1, hq2⟩ : ∃ qq, okP qq ∧ cP qq (if s = 0 then k0 else k1) ∧ mP qq (fun i => kp_kept kp (78 * s + i)) := by
        rcases hs with hs | hs
        · subst hs
          obtain ⟨qq, e1, e2, e3⟩ := h3 hk
          exact ⟨qq, e1, e2, mP_ext e1 (fun i hi => by show kp_kept kp (78 * 0 + i) = kp_kept kp i; congr 1; omega) e3⟩
        · subst hs
          obtain ⟨qq, e1, e2, e3⟩ := h4 hk
          exact ⟨qq, e1, e2, mP_ext e1 (fun i hi => rfl) e3⟩
      obtain ⟨pa', rg', un', eK, eM, hps'⟩ := q_rem hF hokp hc hm hps re
      obtain ⟨r, er, hCr, hMr⟩ := c_cp (F := F) (by omega) hq1.1 hq1.2 now
      obtain ⟨row', e2, hrow⟩ := lp0 (fun n x (t : MRow) => M_again_L32 kp (wI (s : Nat)) un' n x t) (fun t => some (1, 0, t, un')) 78 (fun i t => ∀ j, j < i → t j = kp_kept kp (78 * s + j))
        (fun n i t hi hp => by
          refine ⟨upd t i (kp_kept kp (78 * s + i)), ?_, fun j hj => ?_⟩
          · simp only [M_again_L32]
            rw [if_neg (by rw [wI_78, wI_le (by omega) (by omega) (by omega) (by omega)]; omega), wI_78, wI_mul, wI_add, z_gd_e (wI_in (by omega) (by omega) (by omega)), z_let_e, z_gd_e (wI_in (by omega) (by omega) (by omega)), z_let_e, wI_ix (by omega), wI_nat (by omega) (by omega), show (78 * (s : Int) + i).toNat = 78 * s + i by omega, wI_1, wI_add]
            rfl
          · by_cases hji : j = i
            · rw [hji, upd_s]
            · rw [upd_n hji]; exact hp j (by omega))
        (fun n t _ => by simp only [M_again_L32]; exact if_pos (by decide)) (n := F) (s := row) (by omega) (fun t h => absurd h (Nat.not_lt_zero t))
      refine ⟨1, r, pa', re0 re, rg', row', un', qq, (p :: ps).take 20, ?_, ?_, Or.inl hq, fun _ => hq, ⟨hCr, hMr⟩, mP_ext hq hrow hq2, hps', Or.inl rfl⟩
      · unfold K_again
        rw [if_neg k1n, if_neg k2n, wI_ix (by omega), h1 s (by omega), if_neg hk, eK, z_bd_s]
        rcases hs with hs | hs
        · subst hs
          rw [if_pos rfl] at er
          rw [if_pos (by decide), er, z_bd_s]
        · subst hs
          rw [if_neg (by decide)] at er
          rw [if_neg (by decide), er, z_bd_s]
      · unfold M_again
        rw [if_neg (fun h => hz.mp h q), z_gd_e (wI_in (by omega) (by omega) (by omega)), wI_ix (by omega), if_neg hk, eM, z_bd_s]
        exact e2
  · refine ⟨0, now, pa, re, rg, row, un, p, ps, ?_, ?_, same, fun h => h, hc, hm, hps, hre⟩
    · unfold K_again
      by_cases h0 : a < 0
      · rw [if_pos (by rw [wI_0, wI_lt (by omega) (by omega) (by omega) (by omega)]; omega)]
      · rw [if_neg (by rw [wI_0, wI_lt (by omega) (by omega) (by omega) (by omega)]; omega), if_pos (by rw [wI_2, wI_le (by omega) (by omega) (by omega) (by omega)]; omega)]
    · unfold M_again
      rw [if_pos (hz.mpr q)]
end ZAC

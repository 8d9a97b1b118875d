/-! THE REFERENCE'S MOMENTS -/
theorem z_bd_e {α β : Type} {x : Option α} {a : α} {f : α → Option β} (h : x = some a) : z_bd x f = f a := by rw [h]; rfl
theorem z_gd_e {β : Type} {c : Bool} {k : Option β} (h : c = true) : z_gd c k = k := by rw [h]; rfl
theorem z_jn_c {α β : Type} {K : α → β} {t : (α → β) → β} (v : α) (h : ∀ k, t k = k v) : z_jn K t = K v := h K
theorem z_b_o01 (p : Prop) : z_b (wI (o01 p)) = true := by rcases o01_b p with h | h <;> rw [h] <;> decide
theorem tn0 : (0 : Int).toNat = 0 := rfl
theorem tn1 : (1 : Int).toNat = 1 := rfl
theorem cs0 : ((0 : Nat) : Int) = 0 := rfl
theorem cs1 : ((1 : Nat) : Int) = 1 := rfl
theorem wI_ix {k : Nat} (h : k < 2147483648) : (wI (k : Int)).toNatClampNeg = k := by rw [wI_nat (by omega) (by omega)]; exact Int.toNat_natCast k
theorem wI_c {a b : Int} (h : a = b) : wI a = wI b := congrArg wI h
theorem wJ_c {a b : Int} (h : a = b) : wJ a = wJ b := congrArg wJ h
/-- a loop that counts -/
theorem lp {σ ρ : Type} (f : Nat → Int32 → σ → ρ) (K : σ → ρ) (N : Nat) (P : Nat → σ → Prop)
    (hs : ∀ n i s, i < N → P i s → ∃ s', f (n + 1) (wI (i : Nat)) s = f n (wI ((i + 1 : Nat) : Int)) s' ∧ P (i + 1) s')
    (he : ∀ n s, P N s → f (n + 1) (wI (N : Nat)) s = K s) :
    ∀ j i n s, i + j = N → j < n → P i s → ∃ s', f n (wI (i : Nat)) s = K s' ∧ P N s' := by
  intro j
  induction j with
  | zero =>
    intro i n s h hn hp
    obtain ⟨n, rfl⟩ : ∃ k, n = k + 1 := ⟨n - 1, by omega⟩
    have : i = N := by omega
    subst this
    exact ⟨s, he n s hp, hp⟩
  | succ j ih =>
    intro i n s h hn hp
    obtain ⟨n, rfl⟩ : ∃ k, n = k + 1 := ⟨n - 1, by omega⟩
    obtain ⟨s', e, hp'⟩ := hs n i s (by omega) hp
    obtain ⟨s'', e2, hp2⟩ := ih (i + 1) n s' (by omega) (by omega) hp'
    exact ⟨s'', e.trans e2, hp2⟩
theorem lp0 {σ ρ : Type} (f : Nat → Int32 → σ → ρ) (K : σ → ρ) (N : Nat) (P : Nat → σ → Prop)
    (hs : ∀ n i s, i < N → P i s → ∃ s', f (n + 1) (wI (i : Nat)) s = f n (wI ((i + 1 : Nat) : Int)) s' ∧ P (i + 1) s')
    (he : ∀ n s, P N s → f (n + 1) (wI (N : Nat)) s = K s) {n : Nat} {s : σ} (hn : N < n) (hp : P 0 s) : ∃ s', f n 0 s = K s' ∧ P N s' := lp f K N P hs he N 0 n s (by omega) hn hp
def RS (S : St) (row : MRow) (bx : Bx) : Prop := row 0 = wI (sn S) ∧ bx_byOrder bx = wI (so S) ∧ bx_byFirst bx = wI (sf S) ∧ (∀ i, i < 4 → row (4 + i) = wI (sv S i)) ∧ (∀ i, i < 10 → bx_skill bx i = wI (sk S i))
def RM (S : St) (m : Mm) (mo : Mo) : Prop := mo_goals mo 0 = wI m.2.1 ∧ mo_goals mo 1 = wI m.2.2.1 ∧ mo_kicked mo 0 = wI ((m.1 + 1 - m.2.2.2) / 2 : Nat) ∧ mo_kicked mo 1 = wI ((m.1 + m.2.2.2) / 2 : Nat) ∧ mo_kicks mo = wI m.1 ∧ mo_leader mo = wI m.2.2.2 ∧ mo_isOver mo = wI (mOv S m)
def okM (m : Mm) : Prop := m.2.1 ≤ (m.1 + 1 - m.2.2.2) / 2 ∧ m.2.2.1 ≤ (m.1 + m.2.2.2) / 2 ∧ m.2.2.2 ≤ 1
theorem okM_ab {m : Mm} (h : okM m) : m.2.1 + m.2.2.1 ≤ m.1 := by obtain ⟨h1, h2, h3⟩ := h; omega
section ZRM
variable {S : St} {row : MRow} {bx : Bx} {mo : Mo} {m : Mm} {F : Nat}
theorem r_turn (h : RM S m mo) (hm : okM m) (hk : m.1 ≤ 62) : M_turnNow mo = wI (mTurn m) := by
  have hl := hm.2.2
  unfold M_turnNow mTurn
  rw [h.2.2.2.2.1, h.2.2.2.2.2.1]
  simp only [wI_0, wI_1, wI_2, wI_3, wI_4, wI_5, wI_6, wI_8, wI_9, wI_10, wI_11, wI_18, wI_20, wI_24, wI_36, wI_60, wI_78, wI_add, wI_sub, wI_mul, wI_neg]
  simp (disch := omega) only [wI_rem, wI_eq]
  by_cases h : m.1 % 2 = 0
  · rw [if_pos (by omega), if_pos h]
  · rw [if_neg (by omega), if_neg h]
    exact wI_c (by omega)
theorem r_chanceOf (hS : okS S) (hR : RS S row bx) {s i : Nat} {d : Int} (hs : s ≤ 1) (hi : i < 5) (h1 : -100 ≤ d) (h2 : d ≤ 100) : M_chanceOf row bx (wI s) (wI i) (wI d) = some (wI (chn S s i d)) := by
  obtain ⟨_, _, _, _, hv, hk⟩ := hS
  have b1 := hv s (by omega)
  have b2 := hv (2 + s) (by omega)
  have b3 := hk (5 * s + i) (by omega)
  have r1 := hR.2.2.2.1 s (by omega)
  have r2 := hR.2.2.2.1 (2 + s) (by omega)
  have r3 := hR.2.2.2.2 (5 * s + i) (by omega)
  have e1 : (5 * (s : Int) + i).toNat = 5 * s + i := by omega
  have e2 : (4 + (s : Int)).toNat = 4 + s := by omega
  have e3 : (6 + (s : Int)).toNat = 4 + (2 + s) := by omega
  unfold M_chanceOf M_held chn hld
  simp only [wI_0, wI_1, wI_2, wI_3, wI_4, wI_5, wI_6, wI_8, wI_9, wI_10, wI_11, wI_18, wI_20, wI_24, wI_36, wI_60, wI_78, wI_add, wI_sub, wI_mul, wI_neg, z_let_e, z_jn_e]
  simp (disch := omega) only [wI_in, wI_nat, wI_le, z_gd_t, e1, e2, e3, r1, r2, r3]
  simp only [wI_add]
  simp (disch := omega) only [wI_le]
  rcases Int.lt_trichotomy d 0 with h | h | h
  · rw [if_neg (show ¬ 0 ≤ d by omega), if_pos h]
    repeat' split
    all_goals first | omega | exact congrArg (fun x => some (wI x)) (by omega)
  · rw [if_pos (show 0 ≤ d by omega), if_pos (show d ≤ 0 by omega), if_neg (show ¬ d < 0 by omega), if_neg (show ¬ 0 < d by omega), Int.add_zero]
    repeat' split
    all_goals first | omega | exact congrArg (fun x => some (wI x)) (by omega)
  · rw [if_pos (show 0 ≤ d by omega), if_neg (show ¬ d ≤ 0 by omega), if_neg (show ¬ d < 0 by omega), if_pos (show 0 < d by omega)]
    repeat' split
    all_goals first | omega | exact congrArg (fun x => some (wI x)) (by omega)
theorem bits5 (n r : Nat) (h : r < 5) : ∃ b : Int32, M_bits (n + 9) (wI r) = some b ∧ z_rem b (wI 2) = wI (if r = 3 ∨ r = 0 then 0 else 1) := by
  have : r = 0 ∨ r = 1 ∨ r = 2 ∨ r = 3 ∨ r = 4 := by omega
  rcases this with h | h | h | h | h <;> subst h
  · exact ⟨0, rfl, by decide⟩
  · exact ⟨1, rfl, by decide⟩
  · exact ⟨1, rfl, by decide⟩
  · exact ⟨2, rfl, by decide⟩
  · exact ⟨1, rfl, by decide⟩
theorem r_leaderOf (hF : 20 ≤ F) (hS : okS S) (hR : RS S row bx) {r p a b : Nat} (h0 : mo_goals mo 0 = wI a) (h1 : mo_goals mo 1 = wI b) (hl : mo_leader mo = wI p) (hr1 : 1 ≤ r) (hr : r < 100) (hp : p ≤ 1) (ha : a ≤ 62) (hb : b ≤ 62) : M_leaderOf F row bx mo (wI r) = some (wI (ldr S r ((a : Int) - b) p)) := by
  obtain ⟨hn1, hn5, ho, hf, _⟩ := hS
  obtain ⟨c1, c2, c3, _⟩ := hR
  unfold M_leaderOf M_n ldr
  rw [c1, c2, c3, h0, h1, hl]
  simp only [wI_0, wI_1, wI_2, wI_3, wI_4, wI_5, wI_6, wI_8, wI_9, wI_10, wI_11, wI_18, wI_20, wI_24, wI_36, wI_60, wI_78, wI_add, wI_sub, wI_mul, wI_neg]
  simp (disch := omega) only [wI_eq, wI_lt, wI_rem, wI_le]
  by_cases a1 : sn S ≤ r
  · rw [if_pos (by omega), if_pos (Or.inr a1)]
  · have a2 : r < 5 := by omega
    obtain ⟨bb, e1, e2⟩ := bits5 (F - 9) r a2
    rw [show F - 9 + 9 = F by omega] at e1
    rw [if_neg (show ¬ (r = 0 ∨ sn S ≤ r) by omega), if_neg (by omega), e1, z_bd_s]
    have e3 : (z_rem bb (wI 2) = wI 0) ↔ r = 3 := by
      rw [e2]
      by_cases h : r = 3
      · rw [if_pos (Or.inl h)]; simp [h]
      · rw [if_neg (by omega), wI_eq (by omega) (by omega) (by omega) (by omega)]; omega
    simp only [e3]
    repeat' split
    all_goals first | omega | exact congrArg (fun x => some (wI x)) (by omega)
theorem r_caught0 {a b n : Nat} {c : Nat} (hn : row 0 = wI n) (h0 : mo_goals mo 0 = wI a) (h1 : mo_goals mo 1 = wI b) (h2 : mo_kicked mo 1 = wI c) (q1 : a ≤ 62) (q2 : b ≤ 62) (q3 : c ≤ 62) (q4 : n ≤ 62) : M_isCaught row mo (wI 0) = some (wI (if (a : Int) - b ≤ n - c then 0 else 1)) := by
  unfold M_isCaught M_n
  simp only [wI_0, wI_1, wI_2, wI_3, wI_4, wI_5, wI_6, wI_8, wI_9, wI_10, wI_11, wI_18, wI_20, wI_24, wI_36, wI_60, wI_78, wI_add, wI_sub, wI_mul, wI_neg, Int.sub_zero]
  simp (disch := omega) only [wI_in, wI_nat, z_gd_t, tn0, tn1, h0, h1, h2, hn]
  simp only [wI_sub]
  simp (disch := omega) only [wI_le]
  split <;> rfl
theorem r_caught1 {a b n : Nat} {c : Nat} (hn : row 0 = wI n) (h0 : mo_goals mo 0 = wI a) (h1 : mo_goals mo 1 = wI b) (h2 : mo_kicked mo 0 = wI c) (q1 : a ≤ 62) (q2 : b ≤ 62) (q3 : c ≤ 62) (q4 : n ≤ 62) : M_isCaught row mo (wI 1) = some (wI (if (b : Int) - a ≤ n - c then 0 else 1)) := by
  unfold M_isCaught M_n
  simp only [wI_0, wI_1, wI_2, wI_3, wI_4, wI_5, wI_6, wI_8, wI_9, wI_10, wI_11, wI_18, wI_20, wI_24, wI_36, wI_60, wI_78, wI_add, wI_sub, wI_mul, wI_neg, Int.sub_self]
  simp (disch := omega) only [wI_in, wI_nat, z_gd_t, tn0, tn1, h0, h1, h2, hn]
  simp only [wI_sub]
  simp (disch := omega) only [wI_le]
  split <;> rfl
theorem r_over {β : Type} (K : Int32 → Option β) (hS : okS S) {k l : Nat} {a b : Nat} (hn : row 0 = wI (sn S)) (h0 : mo_goals mo 0 = wI a) (h1 : mo_goals mo 1 = wI b) (h2 : mo_kicked mo 0 = wI ((k + 1 - l) / 2 : Nat)) (h3 : mo_kicked mo 1 = wI ((k + l) / 2 : Nat)) (hk : k ≤ 62) (hab : a + b ≤ k) (hl : l ≤ 1) :
    (if (2 * M_n row) < wI k then (z_jn (fun _ : Unit => K 0) (fun k19 => if (z_rem (wI k) 2) = 0 then (if (mo_goals mo 0) = (mo_goals mo 1) then (k19 ()) else (K 1)) else (k19 ()))) else (z_bd (M_isCaught row mo 0) (fun r23 : Int32 => z_jn (fun _ : Unit => K 1) (fun k24 => if r23 = 0 then (z_bd (M_isCaught row mo 1) (fun r27 : Int32 => if r27 = 0 then (K 0) else (k24 ()))) else (k24 ()))))) = K (wI (o01 (ovr S k ((a : Int) - b) l))) := by
  have hn5 := hS.2.1
  have hn1 := hS.1
  have key : ovr S k ((a : Int) - b) l ↔ (if k ≤ 2 * sn S then ((sn S : Int) - ((k + l) / 2 : Nat) < (a : Int) - b ∨ (sn S : Int) - ((k + 1 - l) / 2 : Nat) < -((a : Int) - b)) else (k % 2 = 0 ∧ (a : Int) - b ≠ 0)) := Iff.rfl
  unfold M_n
  simp only [wI_0, wI_1, wI_2, wI_3, wI_4, wI_5, wI_6, wI_8, wI_9, wI_10, wI_11, wI_18, wI_20, wI_24, wI_36, wI_60, wI_78, wI_add, wI_sub, wI_mul, wI_neg, hn, h0, h1]
  simp (disch := omega) only [wI_lt, wI_rem, wI_eq]
  by_cases hh : k ≤ 2 * sn S
  · rw [if_pos hh] at key
    rw [if_neg (by omega), r_caught0 hn h0 h1 h3 (by omega) (by omega) (by omega) (by omega), z_bd_s, z_jn_e]
    by_cases q1 : (a : Int) - b ≤ (sn S : Int) - ((k + l) / 2 : Nat)
    · rw [if_pos q1, if_pos rfl, r_caught1 hn h0 h1 h2 (by omega) (by omega) (by omega) (by omega), z_bd_s]
      by_cases q2 : (b : Int) - a ≤ (sn S : Int) - ((k + 1 - l) / 2 : Nat)
      · rw [if_pos q2, if_pos rfl, o01_f (fun h => by have := key.mp h; omega)]
      · rw [if_neg q2, if_neg (by decide), o01_t (key.mpr (by omega))]
    · rw [if_neg q1, if_neg (by decide), o01_t (key.mpr (by omega))]
  · rw [if_neg hh] at key
    rw [if_pos (by omega), z_jn_e]
    by_cases h1 : k % 2 = 0
    · rw [if_pos (by omega)]
      by_cases h2 : (a : Int) = b
      · rw [if_pos h2, o01_f (fun h => by have := key.mp h; omega)]
      · rw [if_neg h2, o01_t (key.mpr ⟨h1, by omega⟩)]
    · rw [if_neg (by omega), o01_f (fun h => by have := key.mp h; omega)]
theorem okM_step (hS : okS S) (hm : okM m) {b : Nat} (hb : b ≤ 1) : okM (mStep S m b) := by
  obtain ⟨h1, h2, h3⟩ := hm
  have hl : (mStep S m b).2.2.2 ≤ 1 := by
    show (if (m.1 + 1) % 2 = 0 then ldr S ((m.1 + 1) / 2) (mD m + sgd (mTurn m) b) m.2.2.2 else m.2.2.2) ≤ 1
    split
    · exact ldr_b hS _ _ _
    · exact h3
  have hl2 : (m.1 + 1) % 2 = 0 ∨ (mStep S m b).2.2.2 = m.2.2.2 := by
    rcases Nat.mod_two_eq_zero_or_one (m.1 + 1) with h | h
    · exact Or.inl h
    · exact Or.inr (if_neg (by omega))
  have hs : (m.1 % 2 = 0 ∧ mTurn m = m.2.2.2) ∨ (m.1 % 2 = 1 ∧ mTurn m = 1 - m.2.2.2) := by
    unfold mTurn
    split <;> omega
  refine ⟨?_, ?_, hl⟩
  · show (if mTurn m = 0 then m.2.1 + b else m.2.1) ≤ (m.1 + 1 + 1 - (mStep S m b).2.2.2) / 2
    split <;> omega
  · show (if mTurn m = 0 then m.2.2.1 else m.2.2.1 + b) ≤ (m.1 + 1 + (mStep S m b).2.2.2) / 2
    split <;> omega
theorem r_go (hF : 20 ≤ F) (hS : okS S) (hR : RS S row bx) (hM : RM S m mo) (hm : okM m) (hk : m.1 ≤ 61) {b : Nat} (hb : b ≤ 1) : ∃ mo', M_go F row bx mo (wI b) = some mo' ∧ RM S (mStep S m b) mo' := by
  have hT := r_turn hM hm (by omega)
  have hok := okM_step hS hm hb
  obtain ⟨g0, g1, c0, c1, kk, ll, oo⟩ := hM
  have hab := okM_ab hm
  have hl := hm.2.2
  obtain ⟨s, hs⟩ : ∃ s, s = mTurn m := ⟨_, rfl⟩
  have hs1 : s ≤ 1 := by rw [hs]; exact mTurn_b hl
  have hsc : (m.1 % 2 = 0 ∧ s = m.2.2.2) ∨ (m.1 % 2 = 1 ∧ s = 1 - m.2.2.2) := by
    rw [hs]
    unfold mTurn
    split <;> omega
  rw [← hs] at hT
  have hix : (wI (s : Int)).toNatClampNeg = s := wI_ix (by omega)
  have hin : z_in (wI (s : Int)) 2 = true := wI_in (by omega) (by omega) (by omega)
  have hx8 : mo_kicks mo + 1 = wI ((m.1 + 1 : Nat) : Int) := by rw [kk, wI_1, wI_add]; rfl
  have hn := hR.1
  obtain ⟨a', ha'⟩ : ∃ a', a' = (mStep S m b).2.1 := ⟨_, rfl⟩
  obtain ⟨b', hb'⟩ : ∃ b', b' = (mStep S m b).2.2.1 := ⟨_, rfl⟩
  have ea : a' = if s = 0 then m.2.1 + b else m.2.1 := by rw [ha', hs]; rfl
  have eb : b' = if s = 0 then m.2.2.1 else m.2.2.1 + b := by rw [hb', hs]; rfl
  have hab' : a' + b' ≤ m.1 + 1 := by rw [ea, eb]; split <;> omega
  have hD : (a' : Int) - b' = mD m + sgd (mTurn m) b := by rw [← mD_step, ha', hb']; rfl
  have e0 : upd (mo_goals mo) s (mo_goals mo s + wI b) 0 = wI a' := by
    rcases Nat.le_one_iff_eq_zero_or_eq_one.mp hs1 with h | h
    · rw [h] at ea ⊢
      rw [upd_s, g0, wI_add, ea]
      rfl
    · rw [h] at ea ⊢
      rw [upd_n (by omega), g0, ea]
      rfl
  have e1 : upd (mo_goals mo) s (mo_goals mo s + wI b) 1 = wI b' := by
    rcases Nat.le_one_iff_eq_zero_or_eq_one.mp hs1 with h | h
    · rw [h] at eb ⊢
      rw [upd_n (by omega), g1, eb]
      rfl
    · rw [h] at eb ⊢
      rw [upd_s, g1, wI_add, eb]
      rfl
  have e2 : upd (mo_kicked mo) s (mo_kicked mo s + 1) 0 = wI ((m.1 + 1 + 1 - m.2.2.2) / 2 : Nat) := by
    rcases Nat.le_one_iff_eq_zero_or_eq_one.mp hs1 with h | h
    · rw [h, upd_s, c0, wI_1, wI_add]
      exact wI_c (by omega)
    · rw [h, upd_n (by omega), c0]
      exact wI_c (by omega)
  have e3 : upd (mo_kicked mo) s (mo_kicked mo s + 1) 1 = wI ((m.1 + 1 + m.2.2.2) / 2 : Nat) := by
    rcases Nat.le_one_iff_eq_zero_or_eq_one.mp hs1 with h | h
    · rw [h, upd_n (by omega), c1]
      exact wI_c (by omega)
    · rw [h, upd_s, c1, wI_1, wI_add]
      exact wI_c (by omega)
  obtain ⟨l', hl'⟩ : ∃ l', l' = (mStep S m b).2.2.2 := ⟨_, rfl⟩
  have el : l' = if (m.1 + 1) % 2 = 0 then ldr S ((m.1 + 1) / 2) ((a' : Int) - b') m.2.2.2 else m.2.2.2 := by rw [hl', hD]; rfl
  have hl1 : l' ≤ 1 := by rw [hl']; exact hok.2.2
  have hov : o01 (ovr S (m.1 + 1) ((a' : Int) - b') m.2.2.2) = mOv S (mStep S m b) := by
    have e : mOv S (mStep S m b) = o01 (ovr S (m.1 + 1) ((a' : Int) - b') l') := by rw [hl', ha', hb']; rfl
    rw [e]
    by_cases h : (m.1 + 1) % 2 = 0
    · exact o01_c ((ovr_even _ _ _ hl h).trans (ovr_even _ _ _ hl1 h).symm)
    · rw [if_neg h] at el
      rw [el]
  refine ⟨(upd (mo_goals mo) s (mo_goals mo s + wI b), upd (mo_kicked mo) s (mo_kicked mo s + 1), wI ((m.1 + 1 : Nat) : Int), wI l', wI (mOv S (mStep S m b))), ?_, ?_⟩
  · unfold M_go
    simp only [z_let_e, hT, hix, hin, z_gd_t, hx8]
    refine (z_jn_c (wI (o01 (ovr S (m.1 + 1) ((a' : Int) - b') m.2.2.2))) (fun K => r_over K hS (mo := (upd (mo_goals mo) s (mo_goals mo s + wI b), upd (mo_kicked mo) s (mo_kicked mo s + 1), wI ((m.1 + 1 : Nat) : Int), mo_leader mo, mo_isOver mo)) hn e0 e1 e2 e3 (by omega) hab' hl)).trans ?_
    rw [hov]
    refine (z_gd_e (by rw [← hov]; exact z_b_o01 _)).trans ?_
    refine z_jn_c (wI l') (fun K => ?_)
    simp only [wI_0, wI_1, wI_2, wI_3, wI_4, wI_5, wI_6, wI_8, wI_9, wI_10, wI_11, wI_18, wI_20, wI_24, wI_36, wI_60, wI_78, wI_add, wI_sub, wI_mul, wI_neg]
    simp (disch := omega) only [wI_rem, wI_eq, wI_div]
    by_cases h : (m.1 + 1) % 2 = 0
    · rw [if_pos (by omega)]
      rw [if_pos h] at el
      have e5 : ((m.1 + 1 : Nat) : Int) / 2 = (((m.1 + 1) / 2 : Nat) : Int) := by omega
      rw [e5]
      refine (z_bd_e (r_leaderOf hF hS hR (mo := (upd (mo_goals mo) s (mo_goals mo s + wI b), upd (mo_kicked mo) s (mo_kicked mo s + 1), wI ((m.1 + 1 : Nat) : Int), mo_leader mo, wI (mOv S (mStep S m b)))) e0 e1 ll (by omega) (by omega) hl (by omega) (by omega))).trans ?_
      rw [el]
    · rw [if_neg (by omega)]
      rw [if_neg h] at el
      rw [ll, el]
  · refine ⟨e0.trans (by rw [ha']), e1.trans (by rw [hb']), e2.trans (wI_c ?_), e3.trans (wI_c ?_), rfl, congrArg (fun x : Nat => wI x) hl', rfl⟩
    · show _ = (((m.1 + 1 + 1 - (mStep S m b).2.2.2) / 2 : Nat) : Int)
      rw [← hl']
      by_cases h : (m.1 + 1) % 2 = 0
      · omega
      · rw [if_neg h] at el
        omega
    · show _ = (((m.1 + 1 + (mStep S m b).2.2.2) / 2 : Nat) : Int)
      rw [← hl']
      by_cases h : (m.1 + 1) % 2 = 0
      · omega
      · rw [if_neg h] at el
        omega
theorem r_shooter (hS : okS S) (hR : RS S row bx) (hM : RM S m mo) (hk : m.1 ≤ 62) : M_shooterNow row mo = some (wI ((m.1 / 2 % sn S : Nat) : Int)) := by
  obtain ⟨hn1, hn5, _⟩ := hS
  unfold M_shooterNow M_n
  rw [hR.1, hM.2.2.2.2.1, z_gd_e (wI_nz (by omega) (by omega))]
  simp only [wI_0, wI_1, wI_2, wI_3, wI_4, wI_5, wI_6, wI_8, wI_9, wI_10, wI_11, wI_18, wI_20, wI_24, wI_36, wI_60, wI_78, wI_add, wI_sub, wI_mul, wI_neg]
  simp (disch := omega) only [wI_div, wI_rem]
  rfl
theorem r_chance (hS : okS S) (hR : RS S row bx) (hM : RM S m mo) (hm : okM m) (hk : m.1 ≤ 62) : M_chanceNow row bx mo = some (wI (mChance S m)) := by
  have hT := r_turn hM hm hk
  have hSh := r_shooter hS hR hM hk
  have hab := okM_ab hm
  have hl := hm.2.2
  have hlt : m.1 / 2 % sn S < sn S := Nat.mod_lt _ (by have := hS.1; omega)
  have hn5 := hS.2.1
  obtain ⟨s, hs⟩ : ∃ s, s = mTurn m := ⟨_, rfl⟩
  have hs1 : s ≤ 1 := by rw [hs]; exact mTurn_b hl
  unfold M_chanceNow mChance
  rw [hT, ← hs]
  simp only [z_let_e]
  rw [hSh, z_bd_s, z_gd_e (wI_in (by omega) (by omega) (by omega)), wI_1, wI_sub, z_gd_e (wI_in (by omega) (by omega) (by omega)), wI_ix (by omega)]
  have e : mo_goals mo s - mo_goals mo (wI (1 - (s : Int))).toNatClampNeg = wI (sgd s (mD m)) := by
    rw [wI_nat (by omega) (by omega)]
    rcases Nat.le_one_iff_eq_zero_or_eq_one.mp hs1 with h | h
    · rw [h]
      show mo_goals mo 0 - mo_goals mo 1 = _
      rw [hM.1, hM.2.1, wI_sub]
      rfl
    · rw [h]
      show mo_goals mo 1 - mo_goals mo 0 = _
      rw [hM.1, hM.2.1, wI_sub]
      exact wI_c (by show _ = -mD m; unfold mD; omega)
  rw [e, r_chanceOf hS hR hs1 (by omega) (by unfold sgd mD; split <;> omega) (by unfold sgd mD; split <;> omega), z_bd_s]
theorem r_ahead (hM : RM S m mo) (hm : okM m) (hk : m.1 ≤ 62) : M_ahead mo = wI (if 0 < mD m then 0 else if mD m < 0 then 1 else -1) := by
  have := okM_ab hm
  unfold M_ahead mD
  rw [hM.1, hM.2.1]
  simp (disch := omega) only [wI_le]
  rcases Int.lt_trichotomy ((m.2.1 : Int) - m.2.2.1) 0 with h | h | h
  · rw [if_pos (by omega), if_neg (by omega), if_neg (by omega), if_pos h]; rfl
  · rw [if_pos (by omega), if_pos (by omega), if_neg (by omega), if_neg (by omega)]; rfl
  · rw [if_neg (by omega), if_pos h]; rfl
end ZRM

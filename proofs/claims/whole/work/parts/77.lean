/-! WAYS OF THE CLASS: cells, what they are worth -/
def cG (c : Nat) : Nat := c / 22
def cD (c : Nat) : Int := ((c / 2 % 11 : Nat) : Int) - 5
def cL (c : Nat) : Nat := c % 2
def cI (g : Nat) (d : Int) (l : Nat) : Nat := (g * 11 + (d + 5).toNat) * 2 + l
theorem cI_b {g l : Nat} {d : Int} (hg : g ≤ 5) (h1 : -5 ≤ d) (h2 : d ≤ 5) (hl : l ≤ 1) : cI g d l < 132 ∧ cG (cI g d l) = g ∧ cD (cI g d l) = d ∧ cL (cI g d l) = l := by
  unfold cG cD cL cI
  omega
theorem cI_e {c : Nat} (hc : c < 132) : c = cI (cG c) (cD c) (cL c) ∧ cG c ≤ 5 ∧ -5 ≤ cD c ∧ cD c ≤ 5 ∧ cL c ≤ 1 := by
  unfold cG cD cL cI
  omega
def sj (h : Nat → Int64) : Nat → Int64
  | 0 => 0
  | n + 1 => sj h n + h n
theorem sj_ge {w T : Nat → Int64} {i : Nat} {x : Int64} : ∀ n, n ≤ i → sj (fun c => vp_updL w i x c * T c) n = sj (fun c => w c * T c) n
  | 0, _ => rfl
  | n + 1, h => by
    show sj (fun c => vp_updL w i x c * T c) n + vp_updL w i x n * T n = sj (fun c => w c * T c) n + w n * T n
    rw [sj_ge n (by omega), updL_n (by omega)]
theorem sj_upd {w T : Nat → Int64} {i : Nat} {x : Int64} : ∀ n, i < n → sj (fun c => vp_updL w i (w i + x) c * T c) n = sj (fun c => w c * T c) n + x * T i
  | 0, h => absurd h (Nat.not_lt_zero _)
  | n + 1, h => by
    show sj (fun c => vp_updL w i (w i + x) c * T c) n + vp_updL w i (w i + x) n * T n = sj (fun c => w c * T c) n + w n * T n + x * T i
    rcases Nat.lt_or_ge i n with h1 | h1
    · rw [sj_upd n h1, updL_n (by omega), Int64.add_assoc, Int64.add_assoc, Int64.add_comm (x * T i)]
    · have : i = n := by omega
      subst this
      rw [sj_ge i (by omega), updL_s, Int64.add_mul, Int64.add_assoc]
theorem sj_zero {h : Nat → Int64} : ∀ n, (∀ c, c < n → h c = 0) → sj h n = 0
  | 0, _ => rfl
  | n + 1, hz => by
    show sj h n + h n = 0
    rw [sj_zero n (fun c hc => hz c (by omega)), hz n (by omega)]
    rfl
abbrev Ac : Type := (Nat → Int64) → (Nat → Int64) → Int64 → Int64 → Int64 → Int64
def acF (a : Ac) (fc : Fc) : Int64 := a (fc_endWays fc) (fc_scoreWays fc) (fc_wonByA fc) (fc_wonByB fc) (fc_level fc)
def scU (gr : Nat) (s : Nat → Int64) (ix : Nat) (x : Int64) : Nat → Int64 := if gr = 0 then s else vp_updL s ix (s ix + x)
def obS (S : St) (gr : Nat) (f : Ob) (a : Ac) : Prop :=
  (∀ e s x y z (k g : Nat) (d : Int) (l : Nat) (ix : Nat) (q : Int64), ovr S k d l → (gr = 1 → (ix : Int) = 6 * g + (g - d)) → a (vp_updL e k (e k + q)) (scU gr s ix q) (x + (if d ≤ 0 then 0 else q)) (y + (if 0 ≤ d then 0 else q)) z = a e s x y z + q * wJ (f k g d l)) ∧
  (∀ e s x y z (k g : Nat) (d : Int) (l : Nat) (ix : Nat) (q : Int64), ¬ ovr S k d l → (gr = 1 → (ix : Int) = 6 * g + (g - d)) → a e (scU gr s ix q) x y (z + q) = a e s x y z + q * wJ (f k g d l))
theorem j_t {x q : Int64} {p : Prop} (h : p) : x + q = x + q * wJ (o01 p) := by rw [o01_t h, ← wJ_1, Int64.mul_one]
theorem j_f {x q : Int64} {p : Prop} (h : ¬ p) : x = x + q * wJ (o01 p) := by rw [o01_f h, ← wJ_0, Int64.mul_zero, Int64.add_zero]
theorem j_f0 {x q : Int64} {p : Prop} (h : ¬ p) : x + 0 = x + q * wJ (o01 p) := by rw [Int64.add_zero]; exact j_f h
theorem j_u {w : Nat → Int64} {i t : Nat} {q : Int64} {p : Prop} (h : p ↔ t = i) : vp_updL w i (w i + q) t = w t + q * wJ (o01 p) := by
  by_cases e : t = i
  · subst e
    rw [updL_s]
    exact j_t (h.mpr rfl)
  · rw [updL_n e]
    exact j_f (fun hp => e (h.mp hp))
theorem ob_A (S : St) (gr : Nat) : obS S gr (fWA S) (fun _ _ x _ _ => x) := by
  refine ⟨fun e s x y z k g d l ix q ho hi => ?_, fun e s x y z k g d l ix q ho hi => j_f (fun h => ho h.1)⟩
  show x + (if d ≤ 0 then 0 else q) = x + q * wJ (o01 (ovr S k d l ∧ 0 < d))
  by_cases h : d ≤ 0
  · rw [if_pos h]; exact j_f0 (fun h' => by have := h'.2; omega)
  · rw [if_neg h]; exact j_t ⟨ho, by omega⟩
theorem ob_B (S : St) (gr : Nat) : obS S gr (fWB S) (fun _ _ _ y _ => y) := by
  refine ⟨fun e s x y z k g d l ix q ho hi => ?_, fun e s x y z k g d l ix q ho hi => j_f (fun h => ho h.1)⟩
  show y + (if 0 ≤ d then 0 else q) = y + q * wJ (o01 (ovr S k d l ∧ d < 0))
  by_cases h : 0 ≤ d
  · rw [if_pos h]; exact j_f0 (fun h' => by have := h'.2; omega)
  · rw [if_neg h]; exact j_t ⟨ho, by omega⟩
theorem ob_L (S : St) (gr : Nat) : obS S gr (fLV S) (fun _ _ _ _ z => z) :=
  ⟨fun e s x y z k g d l ix q ho hi => j_f (fun h => h ho), fun e s x y z k g d l ix q ho hi => j_t ho⟩
theorem ob_E (S : St) (gr t : Nat) : obS S gr (fE S t) (fun e _ _ _ _ => e t) :=
  ⟨fun e s x y z k g d l ix q ho hi => j_u ⟨fun h => h.2.symm, fun h => ⟨ho, h.symm⟩⟩, fun e s x y z k g d l ix q ho hi => j_f (fun h => ho h.1)⟩
theorem ob_S (S : St) (t : Nat) : obS S 1 (fSc t) (fun _ s _ _ _ => s t) :=
  ⟨fun e s x y z k g d l ix q ho hi => j_u (by have := hi rfl; omega), fun e s x y z k g d l ix q ho hi => j_u (by have := hi rfl; omega)⟩
theorem c_add {w : Nat → Int64} {n i : Nat} (hn : n ≤ 1000) (hi : i < n) (x : Int64) : Fc_add w n (wI (i : Int)) x = vp_updL w i (w i + x) := by
  unfold Fc_add
  rw [if_neg (by rw [wI_0, wI_lt (by omega) (by omega) (by omega) (by omega)]; omega), show Int32.ofNat n = wI (n : Int) from (wI_nI n).symm, if_neg (by rw [wI_le (by omega) (by omega) (by omega) (by omega)]; omega), z_let_e, wI_ix (by omega)]
theorem k_sixes : ∀ t, t < 11 → K_sixes (wI (t : Nat)) = wJ (6 ^ t) := by decide +kernel
noncomputable def fB (S : St) (gr : Nat) (f : Ob) (k : Nat) (w : Nat → Int64) : Int64 := sj (fun c => w c * wJ (TW S gr f (2 * sn S - k) k (cG c) (cD c) (cL c))) 132
section ZCW
variable {S : St} {sh : Sh} {fc : Fc}
theorem c_score {gr : Nat} (hgr : gr ≤ 1) (hG : fc_grow fc = wI gr) {g : Nat} {d : Int} (hg : g ≤ 5) (hgd : gr = 1 → 0 ≤ (g : Int) - d ∧ (g : Int) - d ≤ 5) (x : Int64) : Fc_addScore fc (wI g) (wI d) x = ((fc_endWays fc), scU gr (fc_scoreWays fc) (6 * (g : Int) + (g - d)).toNat x, (fc_ways fc), (fc_waysBehind fc), (fc_grow fc), (fc_last fc), (fc_wonByA fc), (fc_wonByB fc), (fc_level fc), (fc_endlessA fc), (fc_endlessB fc), (fc_endless fc), (fc_winsOfA fc), (fc_winsOfB fc), (fc_whole fc)) := by
  unfold Fc_addScore scU
  rw [hG]
  by_cases h : gr = 0
  · rw [if_pos h, if_pos (by rw [h]; decide)]
    rw [← hG]
  · have h1 : gr = 1 := by omega
    obtain ⟨q1, q2⟩ := hgd h1
    rw [if_neg h, if_neg (by rw [h1]; decide), z_let_e]
    have e : (wI (g : Int) * 6 + wI (g : Int)) - wI d = wI (((6 * (g : Int) + (g - d)).toNat : Nat) : Int) := by
      rw [wI_6, wI_mul, wI_add, wI_sub]
      exact wI_c (by omega)
    rw [e, c_add (by decide) (by omega)]
theorem nld_b (hS : okS S) (k : Nat) (d : Int) {l : Nat} (hl : l ≤ 1) : nld S k d l ≤ 1 := by
  unfold nld
  split
  · exact ldr_b hS _ _ _
  · exact hl
theorem nld_o (hS : okS S) {k : Nat} {d : Int} {l : Nat} (hl : l ≤ 1) : ovr S k d (nld S k d l) ↔ ovr S k d l := by
  by_cases h : k % 2 = 0
  · exact (ovr_even _ _ _ (nld_b hS k d hl) h).trans (ovr_even _ _ _ hl h).symm
  · rw [show nld S k d l = l from if_neg h]
theorem c_arrive (hS : okS S) (hC : CS S sh) {gr : Nat} (hgr : gr ≤ 1) (hG : fc_grow fc = wI gr) (hL : fc_last fc = wI ((2 * sn S : Nat) : Int)) {k g l : Nat} {d : Int} (hk : k ≤ 2 * sn S) (hl : l ≤ 1) (hd1 : -6 ≤ d) (hd2 : d ≤ 6) (hg : g ≤ 5) (hgd : gr = 1 → 0 ≤ (g : Int) - d ∧ (g : Int) - d ≤ 5) (many : Int64) :
    ∃ fc', Fc_arrive fc sh (wI k) (wI g) (wI d) (wI l) many = fc' ∧ fc_ways fc' = fc_ways fc ∧ fc_grow fc' = fc_grow fc ∧ fc_last fc' = fc_last fc ∧
      (∀ f a, obS S gr f a → acF a fc' + fB S gr f k (fc_waysBehind fc') = acF a fc + fB S gr f k (fc_waysBehind fc) + many * wJ (TW S gr f (2 * sn S - k) k g d (nld S k d l))) ∧
      (∀ c, c < 132 → fc_waysBehind fc' c ≠ 0 → fc_waysBehind fc c ≠ 0 ∨ (¬ ovr S k d l ∧ k < 2 * sn S ∧ cG c = g ∧ cD c = d ∧ cL c = nld S k d l)) := by
  have hn5 := hS.2.1
  have hov := c_isOverAt hS hC (k := k) (l := l) (d := d) (by omega) hl (by omega) (by omega)
  have hnl := nld_b hS k d hl
  have hnlo := nld_o hS (k := k) (d := d) hl
  have hix : gr = 1 → (((6 * (g : Int) + (g - d)).toNat : Nat) : Int) = 6 * g + (g - d) := fun h => by have := hgd h; omega
  by_cases ho : ovr S k d l
  · have e6 : K_sixes (fc_last fc - wI k) = wJ (6 ^ (2 * sn S - k)) := by
      rw [hL, wI_sub, show ((2 * sn S : Nat) : Int) - k = ((2 * sn S - k : Nat) : Int) by omega]
      exact k_sixes _ (by omega)
    have ed1 : (if wI d ≤ 0 then (0 : Int64) else many * wJ (6 ^ (2 * sn S - k))) = if d ≤ 0 then 0 else many * wJ (6 ^ (2 * sn S - k)) := by
      rw [wI_0]
      simp (disch := omega) only [wI_le]
    have ed2 : (if 0 ≤ wI d then (0 : Int64) else many * wJ (6 ^ (2 * sn S - k))) = if 0 ≤ d then 0 else many * wJ (6 ^ (2 * sn S - k)) := by
      rw [wI_0]
      simp (disch := omega) only [wI_le]
    refine ⟨(vp_updL (fc_endWays fc) k (fc_endWays fc k + many * wJ (6 ^ (2 * sn S - k))), scU gr (fc_scoreWays fc) (6 * (g : Int) + (g - d)).toNat (many * wJ (6 ^ (2 * sn S - k))), (fc_ways fc), (fc_waysBehind fc), (fc_grow fc), (fc_last fc), (fc_wonByA fc + (if d ≤ 0 then 0 else many * wJ (6 ^ (2 * sn S - k)))), (fc_wonByB fc + (if 0 ≤ d then 0 else many * wJ (6 ^ (2 * sn S - k)))), (fc_level fc), (fc_endlessA fc), (fc_endlessB fc), (fc_endless fc), (fc_winsOfA fc), (fc_winsOfB fc), (fc_whole fc)), ?_, rfl, rfl, rfl, fun f a hob => ?_, fun c _ h => Or.inl h⟩
    · unfold Fc_arrive
      rw [if_neg (by rw [hov, o01_t ho]; decide), e6]
      simp only [z_let_e]
      rw [c_add (by decide) (by omega), ed1, ed2]
      exact c_score (fc := (vp_updL (fc_endWays fc) k (fc_endWays fc k + many * wJ (6 ^ (2 * sn S - k))), (fc_scoreWays fc), (fc_ways fc), (fc_waysBehind fc), (fc_grow fc), (fc_last fc), (fc_wonByA fc + (if d ≤ 0 then 0 else many * wJ (6 ^ (2 * sn S - k)))), (fc_wonByB fc + (if 0 ≤ d then 0 else many * wJ (6 ^ (2 * sn S - k)))), (fc_level fc), (fc_endlessA fc), (fc_endlessB fc), (fc_endless fc), (fc_winsOfA fc), (fc_winsOfB fc), (fc_whole fc))) hgr hG hg hgd _
    · have h1 := hob.1 (fc_endWays fc) (fc_scoreWays fc) (fc_wonByA fc) (fc_wonByB fc) (fc_level fc) k g d (nld S k d l) (6 * (g : Int) + (g - d)).toNat (many * wJ (6 ^ (2 * sn S - k))) (hnlo.mpr ho) hix
      rw [TW_o (hnlo.mpr ho), ← wJ_mul, ← Int64.mul_assoc]
      refine (congrArg (fun z => z + fB S gr f k (fc_waysBehind fc)) h1).trans ?_
      show acF a fc + _ + fB S gr f k (fc_waysBehind fc) = _
      rw [Int64.add_assoc, Int64.add_assoc, Int64.add_comm (many * _ * _)]
  · by_cases hk2 : k < 2 * sn S
    · have hD : -5 ≤ d ∧ d ≤ 5 := by
        refine Classical.byContradiction (fun hc => ho ?_)
        unfold ovr
        rw [if_pos hk]
        omega
      have hb := cI_b hg hD.1 hD.2 hnl
      have hld : (if z_rem (wI (k : Int)) 2 = 0 then Sh_leaderOf sh (wI (k : Int) / 2) (wI d) (wI (l : Int)) else wI (l : Int)) = wI (nld S k d l) := by
        rw [wI_2, wI_rem (by omega) (by omega) (by omega) (by omega), wI_div (by omega) (by omega) (by omega) (by omega), show (k : Int) / 2 = ((k / 2 : Nat) : Int) by omega, c_leaderOf hS hC (by omega) hl (by omega) (by omega), wI_0]
        unfold nld
        by_cases h : k % 2 = 0
        · rw [if_pos h, if_pos (by rw [wI_eq (by omega) (by omega) (by omega) (by omega)]; omega)]
        · rw [if_neg h, if_neg (by rw [wI_eq (by omega) (by omega) (by omega) (by omega)]; omega)]
      have eat : Fc_at (wI (g : Int)) (wI d) (wI (nld S k d l : Int)) = wI ((cI g d (nld S k d l) : Nat) : Int) := by
        unfold Fc_at
        simp only [wI_0, wI_1, wI_2, wI_3, wI_4, wI_5, wI_6, wI_8, wI_9, wI_10, wI_11, wI_18, wI_20, wI_24, wI_36, wI_60, wI_78, wI_add, wI_sub, wI_mul, wI_neg]
        exact wI_c (by unfold cI; omega)
      refine ⟨((fc_endWays fc), (fc_scoreWays fc), (fc_ways fc), vp_updL (fc_waysBehind fc) (cI g d (nld S k d l)) (fc_waysBehind fc (cI g d (nld S k d l)) + many), (fc_grow fc), (fc_last fc), (fc_wonByA fc), (fc_wonByB fc), (fc_level fc), (fc_endlessA fc), (fc_endlessB fc), (fc_endless fc), (fc_winsOfA fc), (fc_winsOfB fc), (fc_whole fc)), ?_, rfl, rfl, rfl, fun f a hob => ?_, fun c hc h => ?_⟩
      · unfold Fc_arrive
        rw [if_pos (by rw [hov, o01_f ho]; rfl), if_pos (by rw [hL, wI_lt (by omega) (by omega) (by omega) (by omega)]; omega)]
        simp only [z_let_e]
        rw [hld, eat, c_add (by decide) hb.1]
      · show acF a fc + fB S gr f k (vp_updL (fc_waysBehind fc) (cI g d (nld S k d l)) (fc_waysBehind fc (cI g d (nld S k d l)) + many)) = _
        unfold fB
        rw [sj_upd 132 hb.1, hb.2.1, hb.2.2.1, hb.2.2.2, Int64.add_assoc]
      · by_cases hc2 : c = cI g d (nld S k d l)
        · subst hc2
          exact Or.inr ⟨ho, hk2, hb.2⟩
        · refine Or.inl ?_
          have : vp_updL (fc_waysBehind fc) (cI g d (nld S k d l)) (fc_waysBehind fc (cI g d (nld S k d l)) + many) c ≠ 0 := h
          rw [updL_n hc2] at this
          exact this
    · have hk3 : k = 2 * sn S := by omega
      refine ⟨((fc_endWays fc), scU gr (fc_scoreWays fc) (6 * (g : Int) + (g - d)).toNat many, (fc_ways fc), (fc_waysBehind fc), (fc_grow fc), (fc_last fc), (fc_wonByA fc), (fc_wonByB fc), (fc_level fc + many), (fc_endlessA fc), (fc_endlessB fc), (fc_endless fc), (fc_winsOfA fc), (fc_winsOfB fc), (fc_whole fc)), ?_, rfl, rfl, rfl, fun f a hob => ?_, fun c _ h => Or.inl h⟩
      · unfold Fc_arrive
        rw [if_pos (by rw [hov, o01_f ho]; rfl), if_neg (by rw [hL, wI_lt (by omega) (by omega) (by omega) (by omega)]; omega)]
        simp only [z_let_e]
        exact c_score (fc := ((fc_endWays fc), (fc_scoreWays fc), (fc_ways fc), (fc_waysBehind fc), (fc_grow fc), (fc_last fc), (fc_wonByA fc), (fc_wonByB fc), (fc_level fc + many), (fc_endlessA fc), (fc_endlessB fc), (fc_endless fc), (fc_winsOfA fc), (fc_winsOfB fc), (fc_whole fc))) hgr hG hg hgd _
      · have h2 := hob.2 (fc_endWays fc) (fc_scoreWays fc) (fc_wonByA fc) (fc_wonByB fc) (fc_level fc) k g d (nld S k d l) (6 * (g : Int) + (g - d)).toNat many (fun h => ho (hnlo.mp h)) hix
        rw [show 2 * sn S - k = 0 by omega]
        refine (congrArg (fun z => z + fB S gr f k (fc_waysBehind fc)) h2).trans ?_
        show acF a fc + _ + fB S gr f k (fc_waysBehind fc) = acF a fc + fB S gr f k (fc_waysBehind fc) + many * wJ (f k g d (nld S k d l))
        rw [Int64.add_assoc, Int64.add_assoc, Int64.add_comm (many * _)]
end ZCW

/-! what the Statement gives of the start -/
def gvL : List Cond := flatC (Jvm.Cond.and given_1 narrow_1)
def gTm (i : Nat) : Term := .string (strRefs.getD i ("", 0, "", 0)).1 (strRefs.getD i ("", 0, "", 0)).2.1
theorem gv_mem {w : Cond} (i : Nat) (h : gvL[i]? = some w) : w ∈ gvL := List.mem_of_getElem? h
def iExL : List Nat := [52, 57, 63, 75, 83, 96, 110, 125, 137, 152]
def iCoL : List Nat := [53, 58, 64, 76, 84, 97, 111, 126, 138, 153]
def iArL : List Nat := [54, 59, 65, 77, 85, 98, 112, 127, 139, 154]
def iLeL : List Nat := [55, 60, 66, 78, 86, 99, 113, 128, 140, 155]
def iElL : List (List Nat) := [[56], [61], [67, 68, 69, 70, 71, 72], [79], [87, 88, 89, 90, 91], [100, 101, 102, 103, 104], [114, 115, 116, 117, 118], [129], [141, 142, 143], [156, 157, 158, 159, 160, 161, 162, 163, 164, 165, 166, 167]]
def iNeL : List (List Nat) := [[0, 62, 73, 80, 92, 105, 119, 130, 144, 168], [0, 0, 74, 81, 93, 106, 120, 131, 145, 169], [0, 0, 0, 82, 94, 107, 121, 132, 146, 170], [0, 0, 0, 0, 95, 108, 122, 133, 147, 171], [0, 0, 0, 0, 0, 109, 123, 134, 148, 172], [0, 0, 0, 0, 0, 0, 124, 135, 149, 173], [0, 0, 0, 0, 0, 0, 0, 136, 150, 174], [0, 0, 0, 0, 0, 0, 0, 0, 151, 175], [0, 0, 0, 0, 0, 0, 0, 0, 0, 176], [0, 0, 0, 0, 0, 0, 0, 0, 0, 0]]
def iEqL : List Nat := [182, 198, 220, 243, 266, 290]
theorem gv_ex : ∀ i, i < 10 → gvL[iExL.getD i 0]? = some (.exactly (gTm i) "java/lang/String") := by decide +kernel
theorem gv_co : ∀ i, i < 10 → gvL[iCoL.getD i 0]? = some (.eq (.field (gTm i) "java/lang/String" "coder" "B") (.int 0)) := by decide +kernel
theorem gv_ar : ∀ i, i < 10 → gvL[iArL.getD i 0]? = some (.arrayOf (.field (gTm i) "java/lang/String" "value" "[B") .byte) := by decide +kernel
theorem gv_le : ∀ i, i < 10 → gvL[iLeL.getD i 0]? = some (.eq (.length (.field (gTm i) "java/lang/String" "value" "[B")) (.int (Int32.ofNat (strLen.getD i 0)))) := by decide +kernel
theorem gv_el : ∀ i, i < 10 → ∀ j, j < strLen.getD i 0 → gvL[(iElL.getD i []).getD j 0]? = some (.eq (.elem (.field (gTm i) "java/lang/String" "value" "[B") (.int (Int32.ofNat j))) (.int ((strByt.getD i []).getD j 0))) := by decide +kernel
theorem gv_ne : ∀ i, i < 10 → ∀ j, j < 10 → i < j → gvL[(iNeL.getD i []).getD j 0]? = some (.not (.eq (gTm i) (gTm j))) := by decide +kernel
theorem gv_eq : ∀ i, i < 6 → gvL[iEqL.getD i 0]? = some (.eq (gTm (strRefs.getD (10 + i) ("", 0, "", 0)).2.2.2) (gTm (10 + i))) := by decide +kernel
theorem gv_sr : ∀ x ∈ strRefs, Cond.stringRef x.1 x.2.1 x.2.2.1 ∈ lw_tbl := by decide +kernel
theorem gv_lay : ∀ w ∈ ([.laysStatic "KickOdds" "FACTORIALS" "[I", .laysStatic "KickOdds" "TENS" "[I", .laysStatic "KickOdds" "SIXES" "[J", .laysStatic "java/lang/String" "COMPACT_STRINGS" "Z", .laysStatic "jdk/internal/util/Preconditions" "SIOOBE_FORMATTER" "Ljava/util/function/BiFunction;", .laysStatic Bundle.tN "UNASSIGNED_STACK" Bundle.steD, .laysStatic Bundle.tN "SUPPRESSED_SENTINEL" Bundle.listD, .initialized "KickOdds", .initialized "java/lang/String", .initialized "jdk/internal/util/Preconditions", .initialized Bundle.tN, .arrayOver (.object "KickOdds$Shootout")] : List Cond), w ∈ lw_tbl := by decide +kernel
theorem gv_nw : ∀ w ∈ NWL, w ∈ lw_tbl := by decide +kernel
theorem gv_bad : ∀ w ∈ badL, w ∈ lw_tbl := by decide +kernel
theorem va_eqTT {args : Array Value} {s : State} {t u : Term} {a : Nat} (h : (Cond.eq t u).before args s = true) (ht : t.eval args s none [] s = some (.ref a)) : u.eval args s none [] s = some (.ref a) := by
  cases hv : u.eval args s none [] s with
  | none => simp [Cond.before, Cond.holds, Cond.value, ht, hv] at h
  | some w =>
    simp only [Cond.before, Cond.holds, Cond.value, ht, hv] at h
    cases w <;> simp_all
def gArr (n d : String) : Term := .static "KickOdds" n d
theorem gv_fac1 : gvL[33]? = some (.arrayOf (gArr "FACTORIALS" "[I") .int) := by decide +kernel
theorem gv_fac2 : gvL[34]? = some (.eq (.length (gArr "FACTORIALS" "[I")) (.int (Int32.ofNat 6))) := by decide +kernel
theorem gv_fac3 : ∀ j, j < 6 → gvL[([35, 36, 37, 38, 39, 40] : List Nat).getD j 0]? = some (.eq (.elem (gArr "FACTORIALS" "[I") (.int (Int32.ofNat j))) (.int (facL.getD j 0))) := by decide +kernel
theorem gv_ten1 : gvL[24]? = some (.arrayOf (gArr "TENS" "[I") .int) := by decide +kernel
theorem gv_ten2 : gvL[25]? = some (.eq (.length (gArr "TENS" "[I")) (.int (Int32.ofNat 6))) := by decide +kernel
theorem gv_ten3 : ∀ j, j < 6 → gvL[([26, 27, 28, 29, 30, 31] : List Nat).getD j 0]? = some (.eq (.elem (gArr "TENS" "[I") (.int (Int32.ofNat j))) (.int (tenL.getD j 0))) := by decide +kernel
theorem gv_six1 : gvL[10]? = some (.arrayOf (gArr "SIXES" "[J") .long) := by decide +kernel
theorem gv_six2 : gvL[11]? = some (.eq (.length (gArr "SIXES" "[J")) (.int (Int32.ofNat 11))) := by decide +kernel
theorem gv_six3 : ∀ j, j < 11 → gvL[([12, 13, 14, 15, 16, 17, 18, 19, 20, 21, 22] : List Nat).getD j 0]? = some (.eq (.elem (gArr "SIXES" "[J") (.int (Int32.ofNat j))) (.long (sixL.getD j 0))) := by decide +kernel
theorem gv_cs : gvL[4]? = some (.eq (.static "java/lang/String" "COMPACT_STRINGS" "Z") (.int 1)) := by decide +kernel
theorem gv_sf : gvL[5]? = some (.isRef (.static "jdk/internal/util/Preconditions" "SIOOBE_FORMATTER" "Ljava/util/function/BiFunction;")) := by decide +kernel
theorem gv_us : gvL[41]? = some (.isRef (.static Bundle.tN "UNASSIGNED_STACK" Bundle.steD)) := by decide +kernel
theorem gv_ss : gvL[42]? = some (.isRef (.static Bundle.tN "SUPPRESSED_SENTINEL" Bundle.listD)) := by decide +kernel
def gCs (f t x : Nat) (adK adV : Nat → Nat) (i : Nat) : Nat := if i = 0 then f else if i = 1 then t else if i = 2 then x else if i < 30 then adK (i - 10) else adV (i - 30)
theorem start_CX {s : State} {args : Array Value} {A : Nat → Prop} (hA : ∀ a : Nat, a < s.heap.size → ¬ A a) (hts : ∀ w ∈ lw_tbl, w.before args s = true) (hg : ∀ w ∈ gvL, w.before args s = true) : ∃ cs : Nat → Nat, CX cs A s s.heap := by
  have ly := fun w h => hts w (gv_lay w h)
  have iK : (Cond.initialized "KickOdds").before args s = true := ly _ (List.mem_of_getElem? (i := 7) rfl)
  obtain ⟨f, hf, hf2⟩ := va_Tof (args := args) (s := s) (tm := gArr "FACTORIALS" "[I") (ty := .int) (N := 6) (f := fun j => .int (facL.getD j 0)) (A := A) (by decide) (hg _ (gv_mem _ gv_fac1)) (va_eqt (hg _ (gv_mem _ gv_fac2))) (fun j hj => va_eqt (hg _ (gv_mem _ (gv_fac3 j hj)))) hA
  obtain ⟨t, ht, ht2⟩ := va_Tof (args := args) (s := s) (tm := gArr "TENS" "[I") (ty := .int) (N := 6) (f := fun j => .int (tenL.getD j 0)) (A := A) (by decide) (hg _ (gv_mem _ gv_ten1)) (va_eqt (hg _ (gv_mem _ gv_ten2))) (fun j hj => va_eqt (hg _ (gv_mem _ (gv_ten3 j hj)))) hA
  obtain ⟨x, hx, hx2⟩ := va_Tof (args := args) (s := s) (tm := gArr "SIXES" "[J") (ty := .long) (N := 11) (f := fun j => .long (sixL.getD j 0)) (A := A) (by decide) (hg _ (gv_mem _ gv_six1)) (va_eqt (hg _ (gv_mem _ gv_six2))) (fun j hj => va_eqtl (hg _ (gv_mem _ (gv_six3 j hj)))) hA
  obtain ⟨adK, adV, hS, hK⟩ := vk_Sof (args := args) (s := s) (N := 10) (tm := gTm) (len := strLen) (byt := strByt) (A := A) (by decide) (fun i hi => hg _ (gv_mem _ (gv_ex i hi))) (fun i hi => hg _ (gv_mem _ (gv_co i hi))) (fun i hi => hg _ (gv_mem _ (gv_ar i hi))) (fun i hi => hg _ (gv_mem _ (gv_le i hi))) (fun i hi j hj => hg _ (gv_mem _ (gv_el i hi j hj))) (fun i j hi hj hne => by
    rcases Nat.lt_or_gt_of_ne hne with h | h
    · exact Or.inl (hg _ (gv_mem _ (gv_ne i hi j hj h)))
    · exact Or.inr (hg _ (gv_mem _ (gv_ne j hj i hi h)))) hA
  refine ⟨gCs f t x adK adV, ⟨va_Zof (ly _ (List.mem_of_getElem? (i := 0) rfl)) iK hf hA, hf2⟩, ⟨va_Zof (ly _ (List.mem_of_getElem? (i := 1) rfl)) iK ht hA, ht2⟩, ⟨va_Zof (ly _ (List.mem_of_getElem? (i := 2) rfl)) iK hx hA, hx2⟩, ?_, va_Zof (ly _ (List.mem_of_getElem? (i := 3) rfl)) (ly _ (List.mem_of_getElem? (i := 8) rfl)) (va_eqt (hg _ (gv_mem _ gv_cs))) hA, va_Zqof (ly _ (List.mem_of_getElem? (i := 4) rfl)) (ly _ (List.mem_of_getElem? (i := 9) rfl)) (hg _ (gv_mem _ gv_sf)) hA, ?_⟩
  · have eK : ∀ i, i < 10 → gCs f t x adK adV (10 + i) = adK i := fun i hi => by
      unfold gCs
      rw [if_neg (by omega), if_neg (by omega), if_neg (by omega), if_pos (by omega)]
      congr 1
      omega
    have eV : ∀ i, i < 10 → gCs f t x adK adV (30 + i) = adV i := fun i hi => by
      unfold gCs
      rw [if_neg (by omega), if_neg (by omega), if_neg (by omega), if_neg (by omega)]
      congr 1
      omega
    exact ⟨fun i hi => by dsimp only; rw [eK i hi, eV i hi]; exact hS.1 i hi, fun i j hi hj h => hS.2 i j hi hj (by dsimp only at h; rw [eK i hi, eK j hj] at h; exact h)⟩
  · have hT : ∀ i, i < 16 → (gTm i).eval args s none [] s = some (.ref (adK (strRefs.getD i ("", 0, "", 0)).2.2.2)) := by
      intro i hi
      by_cases h : i < 10
      · have e : (strRefs.getD i ("", 0, "", 0)).2.2.2 = i := by
          have : ∀ z, z < 10 → (strRefs.getD z ("", 0, "", 0)).2.2.2 = z := by decide
          exact this i h
        rw [e]
        exact hK i h
      · have h6 : i - 10 < 6 := by omega
        have hq := hg _ (gv_mem _ (gv_eq (i - 10) h6))
        rw [show 10 + (i - 10) = i by omega] at hq
        have hb : (strRefs.getD i ("", 0, "", 0)).2.2.2 < 10 := by
          have : ∀ z, z < 16 → (strRefs.getD z ("", 0, "", 0)).2.2.2 < 10 := by decide
          exact this i hi
        exact va_eqTT hq (hK _ hb)
    intro y hy
    obtain ⟨i, hi, he⟩ := List.getElem_of_mem hy
    have hi16 : i < 16 := hi
    have hg1 : strRefs.getD i ("", 0, "", 0) = y := by
      rw [List.getD_eq_getElem?_getD, List.getElem?_eq_getElem hi, he]
      rfl
    have h1 := hT i hi16
    unfold gTm at h1
    rw [hg1] at h1
    have hb : y.2.2.2 < 10 := by
      have : ∀ z ∈ strRefs, z.2.2.2 < 10 := by decide
      exact this y hy
    have eK : gCs f t x adK adV (10 + y.2.2.2) = adK y.2.2.2 := by
      unfold gCs
      rw [if_neg (by omega), if_neg (by omega), if_neg (by omega), if_pos (by omega)]
      congr 1
      omega
    rw [eK]
    exact vk_R.of (hts _ (gv_sr y hy)) h1
theorem start_XF {s : State} {args : Array Value} {A : Nat → Prop} (hA : ∀ a : Nat, a < s.heap.size → ¬ A a) (hts : ∀ w ∈ lw_tbl, w.before args s = true) (hg : ∀ w ∈ gvL, w.before args s = true) : XF A s s.heap := by
  have ly := fun w h => hts w (gv_lay w h)
  have iT : (Cond.initialized Bundle.tN).before args s = true := ly _ (List.mem_of_getElem? (i := 10) rfl)
  exact ⟨fun w hw => va_Nw.of (badL_tab w hw) (hts w (gv_bad w hw)), vx_Zqof (ly _ (List.mem_of_getElem? (i := 5) rfl)) iT (hg _ (gv_mem _ gv_us)) hA, vx_Zqof (ly _ (List.mem_of_getElem? (i := 6) rfl)) iT (hg _ (gv_mem _ gv_ss)) hA⟩
theorem NWL_tab : ∀ w ∈ NWL, w.onTables = true := by decide +kernel
theorem start_ac {s : State} {args : Array Value} {ty : FieldType} (h : (Cond.arrayClass ty).before args s = true) (hty : ∀ C, ty ≠ .object C) : ∃ cA : ClassId, ArrOfT s cA ty ∧ va_RA s cA ty := by
  obtain ⟨c, k, comp, h1, h2, h3⟩ := Cond.arrayClass_spec h
  refine ⟨c, fun n z => ⟨(fun k h => by cases h), k, h2, comp, h3⟩, ?_⟩
  cases ty <;> first | exact h1 | exact absurd rfl (hty _)
theorem start_ao {s : State} {args : Array Value} {C : String} (h : (Cond.arrayOver (.object C)).before args s = true) : ∃ cA : ClassId, ArrOfT s cA (.object C) ∧ va_RA s cA (.object C) := by
  obtain ⟨comp, c, k, h1, h2, h3, h4, h5⟩ := Cond.arrayOver_spec h
  exact ⟨c, fun n z => ⟨(fun k h => by cases h), k, h3, comp, h4⟩, k, comp, h3, h4, h1, h5⟩
theorem start_KX {s : State} {args : Array Value} (hts : ∀ w ∈ lw_tbl, w.before args s = true) (htw : ∀ w ∈ WW, w.before args s = true) : ∃ (D : va_G) (ac : Nat → Nat), KX D ac s := by
  obtain ⟨c0, i0, k0⟩ := u_known (C := RX0) (T := TX0) (N := 15) (n := 15) htw WW_wsX00 (htw _ mA_RX0)
  obtain ⟨c1, i1, k1⟩ := u_known (C := RX1) (T := TX1) (N := 2) (n := 2) htw WW_wsX10 (htw _ mA_RX1)
  obtain ⟨c2, i2, k2⟩ := u_known (C := RX2) (T := TX2) (N := 3) (n := 3) htw WW_wsX20 (htw _ mA_RX2)
  obtain ⟨c3, i3, k3⟩ := u_known (C := RX3) (T := TX3) (N := 10) (n := 10) htw WW_wsX30 (htw _ mA_RX3)
  obtain ⟨c4, i4, k4⟩ := u_known (C := RX4) (T := TX4) (N := 10) (n := 10) htw WW_wsX40 (htw _ mA_RX4)
  obtain ⟨c5, i5, k5⟩ := u_known (C := RX5) (T := TX5) (N := 6) (n := 6) htw WW_wsX50 (htw _ mA_RX5)
  obtain ⟨c6, i6, k6⟩ := u_known (C := RX6) (T := TX6) (N := 2) (n := 2) htw WW_wsX60 (htw _ mA_RX6)
  obtain ⟨c7, i7, k7⟩ := u_known (C := RX7) (T := TX7) (N := 13) (n := 13) htw WW_wsX70 (htw _ mA_RX7)
  obtain ⟨c8, i8, k8⟩ := u_known (C := RX8) (T := TX8) (N := 41) (n := 41) htw WW_wsX80 (htw _ mA_RX8)
  obtain ⟨a0, p0⟩ := start_ac (htw _ mY__int) (fun C h => by cases h)
  obtain ⟨a1, p1⟩ := start_ac (htw _ mY__long) (fun C h => by cases h)
  obtain ⟨a2, p2⟩ := start_ac (htw _ mY__char) (fun C h => by cases h)
  obtain ⟨a3, p3⟩ := start_ac (htw _ mY__byte) (fun C h => by cases h)
  obtain ⟨a4, p4⟩ := start_ac (htw _ mY__boolean) (fun C h => by cases h)
  obtain ⟨a5, p5⟩ := start_ao (hts _ (gv_lay _ (List.mem_of_getElem? (i := 11) rfl)))
  refine ⟨(fun k => [c0, c1, c2, c3, c4, c5, c6, c7, c8].getD k 0, fun k => [i0, i1, i2, i3, i4, i5, i6, i7, i8].getD k (fun _ => 0)), fun k => [a0, a1, a2, a3, a4, a5].getD k 0, ⟨?_, ?_⟩, fun w hw => va_Nw.of (NWL_tab w hw) (hts w (gv_nw w hw))⟩
  · intro k q hq
    match k, hq with
    | 0, hq => cases hq; exact k0
    | 1, hq => cases hq; exact k1
    | 2, hq => cases hq; exact k2
    | 3, hq => cases hq; exact k3
    | 4, hq => cases hq; exact k4
    | 5, hq => cases hq; exact k5
    | 6, hq => cases hq; exact k6
    | 7, hq => cases hq; exact k7
    | 8, hq => cases hq; exact k8
    | k + 9, hq => simp [vwCl] at hq
  · intro k q hq
    match k, hq with
    | 0, hq => cases hq; exact p0
    | 1, hq => cases hq; exact p1
    | 2, hq => cases hq; exact p2
    | 3, hq => cases hq; exact p3
    | 4, hq => cases hq; exact p4
    | 5, hq => cases hq; exact p5
    | k + 6, hq => simp [tyK] at hq

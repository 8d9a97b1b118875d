theorem hd_yX3_begin : hdY yX3_begin 1 := by decide +kernel
def Re_begin_L12 : Nat → Int32 → Re → Option (Re)
  | 0, _, _ => none
  | n5 + 1, x2, re3 => if 24 ≤ x2 then (some re3) else (z_gd (z_in x2 24) (z_gd (z_in x2 24) (z_let (x2 + 1) (fun x10 : Int32 => Re_begin_L12 n5 x10 ((re_winsOfA re3), (re_winsOfB re3), (re_wholes re3), (upd (re_bestOfA re3) x2.toNatClampNeg (-1)), (upd (re_bestOfB re3) x2.toNatClampNeg (-1)), (re_rows re3), (re_known re3), (re_pairs re3), (re_rowOfA re3), (re_rowOfB re3))))))
def Re_begin (F : Nat) (re : Re) (a1 : Int32) : Option (Re) := z_let (if 24 < a1 then 24 else a1) (fun x1 : Int32 => Re_begin_L12  F 0 ((re_winsOfA re), (re_winsOfB re), (re_wholes re), (re_bestOfA re), (re_bestOfB re), x1, (re_known re), (re_pairs re), (re_rowOfA re), (re_rowOfB re)))
set_option maxHeartbeats 4000000 in
set_option maxRecDepth 100000 in
theorem ctX3_begin (l : Launch) (D : va_G) (ac cs : Nat → Nat) (q : Nat → Nat) (sz : Nat) (re : Re) (a1 : Int32) (F : Nat) (res : Re) (hf : Re_begin F re a1 = some res) : Met l yX3_begin (cWW yX3_begin cX3_begin 3 none) { frames := 1, cells := 0, slots := 0, locals := 21 } (zM D ac cs [.ref (q 0), .int a1] (reW ac q re) sz) (va_Qv (fun _ : Unit => True) (fun _ => zB D (va_A (reW ac q re) sz) (reW ac q res)) (va_A (reW ac q re) sz)) 0 0 (va_A (reW ac q re) sz) := by
  refine Met.ofW (cc := cX3_begin) (maxL := 3) (ret := none) (by decide) rfl ?_
  intro p e s m args below meth c s₁ B hml hv
  obtain ⟨rfl, hsz, hP, hKX, hD0, hC⟩ := hv
  have hx := B.exec
  have hb := B.bytes
  have hr := B.returns
  have hts := atoms_spec (ws := cWW yX3_begin cX3_begin 3 none) B.pre
  have htw : ∀ w ∈ WW, w.before _ s = true := fun w h => hts w (List.mem_cons_of_mem _ h)
  have hown : s.vm.findClass RX3 = some m.cls := findClass_of_methodNamed B.named
  have hlocks := B.notSynchronized
  clear hts B
  subst hsz
  have hD := hD0.self (sz := s.heap.size)
  generalize hAe : va_A (reW ac q re) s.heap.size = A at hD hC ⊢
  have hA : ∀ q : Nat, s.heap.size ≤ q → A q := fun q h => by rw [← hAe]; exact Or.inr h
  have hS : va_S A s.heap s.heap [] := va_S.rf
  clear hD0 hAe
  have hP : va_P D vwCl (reW ac q re) s.heap := hP
  have hl := lv_entry ([.ref (q 0), .int a1]) (n := 3) (Nat.le_of_ble_eq_true rfl)
  rw [lg_entry_eq]
  generalize (lg_sl ([.ref (q 0), .int a1]) ++ List.replicate (3 - (lg_sl ([.ref (q 0), .int a1])).length) Slot.unset).toArray = ls at hl ⊢
  have hl : lv_has ls 3 [(0, .ref (q 0)), (1, .int a1)] := hl
  unfold Re_begin at hf
  show W p l e ({ frames := 1, cells := 0, slots := 0, locals := 21 } : Room) s m _ below meth c s.heap [] 0 0 _ (F0 m 0 ls [])
  refine lv_aload_n hx hb dX3_begin_0 rfl (lv_at hl 0 rfl) ?_
  refine lv_iload_n hx hb dX3_begin_1 rfl (lv_at hl 1 rfl) ?_
  refine lv_bipush (v := 24) hx hb dX3_begin_2 rfl ?_
  refine va_mmin hx hb (hml.trans hl.1.symm) hown (htw _ mM_RX3_28) (htw _ mT_Lib_Math_min_name) (htw _ mN_java_lang_Math) (htw _ mC_Lib_Math_min_name) (Nat.le_of_ble_eq_true rfl) (Nat.le_of_ble_eq_true rfl) (Nat.zero_le _) (Nat.zero_le _) dX3_begin_4 ?_
  refine lv_topi (fun x1 hx1 => ?_)
  have hf := z_let_u hx1 hf
  refine va_put (D := D) (ci := 3) (v := .int x1) (ty := tyX3 5) (C := RX3) (T := TX3) (N := 10) hx hb htw WW_wsX30 tyX3 tyX3_ok nmX3 hown hKX.1 hP hD hS 0 rfl rfl 5 (Nat.le_of_ble_eq_true rfl) (htw _ mF_RX3_34) (fun _ h9 => h9) rfl (tyX3_ok 5 (Nat.le_of_ble_eq_true rfl)) rfl rfl (Nat.le_of_ble_eq_true rfl) dX3_begin_7 (fun H locs hP hD hS => ?_)
  have hP : va_P D vwCl (reW ac q ((re_winsOfA re), (re_winsOfB re), (re_wholes re), (re_bestOfA re), (re_bestOfB re), x1, (re_known re), (re_pairs re), (re_rowOfA re), (re_rowOfB re))) H := hP
  have hD : va_D A (reW ac q ((re_winsOfA re), (re_winsOfB re), (re_wholes re), (re_bestOfA re), (re_bestOfB re), x1, (re_known re), (re_pairs re), (re_rowOfA re), (re_rowOfB re))) := hD
  refine lv_iconst (v := 0) hx hb dX3_begin_10 rfl ?_
  refine lv_istore_n (lv' := [(2, .int 0), (0, .ref (q 0)), (1, .int a1)]) hx hb dX3_begin_11 rfl hl (Nat.le_of_ble_eq_true rfl) rfl (fun ls hl => ?_)
  have hL4 : ∀ (n5 : Nat) (x2 : Int32) (re3 : Re), Re_begin_L12 n5 x2 re3 = some res → ∀ (H : Heap) (locs : List Loc) (ls : Array Slot), va_P D vwCl (reW ac q re3) H → va_D A (reW ac q re3) → va_S A s.heap H locs → lv_has ls 3 [(0, .ref (q 0)), (2, .int x2)] → W p l e ({ frames := 1, cells := 0, slots := 0, locals := 21 } : Room) s m (([.ref (q 0), .int a1] : List Value).toArray) below meth c H locs 0 0 (MQ below (va_Qv (fun _ : Unit => True) (fun _ => zB D A (reW ac q res)) A) ([.ref (q 0), .int a1] : List Value).toArray s 0 0 A) (F0 m 12 ls []) := by
    intro n5
    induction n5 with
    | zero => intro x2 re3 hf; rw [Re_begin_L12] at hf; cases hf
    | succ n5 ih6 =>
      intro x2 re3 hf H locs ls hP hD hS hl
      rw [Re_begin_L12] at hf
      refine lv_iload_n hx hb dX3_begin_12 rfl (lv_at hl 1 rfl) ?_
      refine lv_bipush (v := 24) hx hb dX3_begin_13 rfl ?_
      refine lv_icmp_ge (tgt := 38) hx hb dX3_begin_15 (by decide) (fun c7 => ?_) (fun c7 => ?_)
      · have hf := z_p c7 hf
        obtain rfl := Option.some.inj hf
        exact zr_Mv hx hb hr hlocks hP hD hS dX3_begin_38
      · have hf := z_n c7 hf
        refine lv_aload_n hx hb dX3_begin_18 rfl (lv_at hl 0 rfl) ?_
        refine va_get (D := D) (ci := 3) (v := .ref (q 4)) (C := RX3) (T := TX3) (N := 10) hx hb htw WW_wsX30 hown hKX.1 hP 0 rfl rfl 3 (Nat.le_of_ble_eq_true rfl) (htw _ mF_RX3_21) (fun _ h9 => h9) rfl dX3_begin_19 ?_
        refine lv_iload_n hx hb dX3_begin_22 rfl (lv_at hl 1 rfl) ?_
        refine lv_iconst (v := (-1)) hx hb dX3_begin_23 rfl ?_
        obtain ⟨g8, hf⟩ := z_gd_u hf
        refine va_iast hx hb hKX.1 hP hD hS 4 0 rfl rfl (z_in_u g8) dX3_begin_24 (fun H locs hP hD hS => ?_)
        have hP : va_P D vwCl (reW ac q ((re_winsOfA re3), (re_winsOfB re3), (re_wholes re3), (upd (re_bestOfA re3) x2.toNatClampNeg (-1)), (re_bestOfB re3), (re_rows re3), (re_known re3), (re_pairs re3), (re_rowOfA re3), (re_rowOfB re3))) H := hP
        have hD : va_D A (reW ac q ((re_winsOfA re3), (re_winsOfB re3), (re_wholes re3), (upd (re_bestOfA re3) x2.toNatClampNeg (-1)), (re_bestOfB re3), (re_rows re3), (re_known re3), (re_pairs re3), (re_rowOfA re3), (re_rowOfB re3))) := hD
        refine lv_aload_n hx hb dX3_begin_25 rfl (lv_at hl 0 rfl) ?_
        refine va_get (D := D) (ci := 3) (v := .ref (q 5)) (C := RX3) (T := TX3) (N := 10) hx hb htw WW_wsX30 hown hKX.1 hP 0 rfl rfl 4 (Nat.le_of_ble_eq_true rfl) (htw _ mF_RX3_25) (fun _ h9 => h9) rfl dX3_begin_26 ?_
        refine lv_iload_n hx hb dX3_begin_29 rfl (lv_at hl 1 rfl) ?_
        refine lv_iconst (v := (-1)) hx hb dX3_begin_30 rfl ?_
        obtain ⟨g9, hf⟩ := z_gd_u hf
        refine va_iast hx hb hKX.1 hP hD hS 5 0 rfl rfl (z_in_u g9) dX3_begin_31 (fun H locs hP hD hS => ?_)
        have hP : va_P D vwCl (reW ac q ((re_winsOfA re3), (re_winsOfB re3), (re_wholes re3), (upd (re_bestOfA re3) x2.toNatClampNeg (-1)), (upd (re_bestOfB re3) x2.toNatClampNeg (-1)), (re_rows re3), (re_known re3), (re_pairs re3), (re_rowOfA re3), (re_rowOfB re3))) H := hP
        have hD : va_D A (reW ac q ((re_winsOfA re3), (re_winsOfB re3), (re_wholes re3), (upd (re_bestOfA re3) x2.toNatClampNeg (-1)), (upd (re_bestOfB re3) x2.toNatClampNeg (-1)), (re_rows re3), (re_known re3), (re_pairs re3), (re_rowOfA re3), (re_rowOfB re3))) := hD
        obtain ⟨x10, hx10⟩ : ∃ y : Int32, y = (x2 + 1) := ⟨_, rfl⟩
        have hf := z_let_u hx10 hf
        refine lv_iinc (v := x10) (lv' := [(2, .int x10), (0, .ref (q 0))]) hx hb dX3_begin_32 hl (k := 1) rfl (by rw [hx10]; rfl) (Nat.le_of_ble_eq_true rfl) rfl (fun ls hl => ?_)
        refine lv_goto (tgt := 12) hx hb dX3_begin_35 (by decide) ?_
        exact ih6 x10 ((re_winsOfA re3), (re_winsOfB re3), (re_wholes re3), (upd (re_bestOfA re3) x2.toNatClampNeg (-1)), (upd (re_bestOfB re3) x2.toNatClampNeg (-1)), (re_rows re3), (re_known re3), (re_pairs re3), (re_rowOfA re3), (re_rowOfB re3)) hf _ _ ls  hP hD hS (lv_sub hl [1, 0] rfl)
  refine hL4  F 0 ((re_winsOfA re), (re_winsOfB re), (re_wholes re), (re_bestOfA re), (re_bestOfB re), x1, (re_known re), (re_pairs re), (re_rowOfA re), (re_rowOfB re)) hf _ _ ls  hP hD hS (lv_sub hl [1, 0] rfl)

theorem hd_yX3_compareOdds : hdY yX3_compareOdds 3 := by decide +kernel
def Re_compareOdds (F : Nat) (re : Re) (w : Nat → Int64) (a2 : Int32) (a3 : Int32) : Option (Int32) := if a2 < 0 then (some 0) else (if 576 ≤ a2 then (some 0) else (if a3 < 0 then (some 0) else (if a3 < 576 then (z_gd (z_in a3 576) (z_gd (z_in a3 576) (z_bd (Fr_compareFractions F (w a2.toNatClampNeg) ((re_wholes re) a2.toNatClampNeg) (w a3.toNatClampNeg) ((re_wholes re) a3.toNatClampNeg)) (fun r7 : Int32 => some r7)))) else (some 0))))
set_option maxHeartbeats 4000000 in
set_option maxRecDepth 100000 in
theorem ctX3_compareOdds (l : Launch) (D : va_G) (ac cs : Nat → Nat) (q : Nat → Nat) (qa : Nat) (re : Re) (w : Nat → Int64) (a2 : Int32) (a3 : Int32) (F : Nat) (res : Int32) (hf : Re_compareOdds F re w a2 a3 = some res) : Met l yX3_compareOdds (cWW yX3_compareOdds cX3_compareOdds 4 (some .int)) { frames := 1, cells := 0, slots := 0, locals := 45 } (zR D ac cs [.ref (q 0), .ref (qa), .int a2, .int a3] (reW ac q re ++ (ajW ac qa 576 w))) (vp_Si (fun r => r = res)) 0 0 (fun _ => False) := by
  refine Met.ofW (cc := cX3_compareOdds) (maxL := 4) (ret := (some .int)) (by decide) rfl ?_
  intro p e s m args below meth c s₁ B hml hv
  obtain ⟨rfl, hP, hKX, hC⟩ := hv
  have hx := B.exec
  have hb := B.bytes
  have hr := B.returns
  have hts := atoms_spec (ws := cWW yX3_compareOdds cX3_compareOdds 4 (some .int)) B.pre
  have htw : ∀ w ∈ WW, w.before _ s = true := fun w h => hts w (List.mem_cons_of_mem _ h)
  have hown : s.vm.findClass RX3 = some m.cls := findClass_of_methodNamed B.named
  have hlocks := B.notSynchronized
  clear hts B
  have hS : va_S (fun _ => False) s.heap s.heap [] := va_S.rf
  have hl := lv_entry ([.ref (q 0), .ref (qa), .int a2, .int a3]) (n := 4) (Nat.le_of_ble_eq_true rfl)
  rw [lg_entry_eq]
  generalize (lg_sl ([.ref (q 0), .ref (qa), .int a2, .int a3]) ++ List.replicate (4 - (lg_sl ([.ref (q 0), .ref (qa), .int a2, .int a3])).length) Slot.unset).toArray = ls at hl ⊢
  have hl : lv_has ls 4 [(0, .ref (q 0)), (1, .ref (qa)), (2, .int a2), (3, .int a3)] := hl
  unfold Re_compareOdds at hf
  show W p l e ({ frames := 1, cells := 0, slots := 0, locals := 45 } : Room) s m _ below meth c s.heap [] 0 0 _ (F0 m 0 ls [])
  refine lv_iload_n hx hb dX3_compareOdds_0 rfl (lv_at hl 2 rfl) ?_
  refine lv_if_lt (tgt := 20) hx hb dX3_compareOdds_1 (by decide) (fun c1 => ?_) (fun c1 => ?_)
  · have hf := z_p c1 hf
    refine lv_iconst (v := 0) hx hb dX3_compareOdds_20 rfl ?_
    exact zr_Ri hx hb hr hlocks (Option.some.inj hf) dX3_compareOdds_21
  · have hf := z_n c1 hf
    refine lv_iload_n hx hb dX3_compareOdds_4 rfl (lv_at hl 2 rfl) ?_
    refine lv_aload_n hx hb dX3_compareOdds_5 rfl (lv_at hl 1 rfl) ?_
    refine va_alen hx hb hKX.1 hP 6 1 rfl rfl (v := 576) rfl dX3_compareOdds_6 ?_
    refine lv_icmp_ge (tgt := 20) hx hb dX3_compareOdds_7 (by decide) (fun c2 => ?_) (fun c2 => ?_)
    · have hf := z_p c2 hf
      refine lv_iconst (v := 0) hx hb dX3_compareOdds_20 rfl ?_
      exact zr_Ri hx hb hr hlocks (Option.some.inj hf) dX3_compareOdds_21
    · have hf := z_n c2 hf
      refine lv_iload_n hx hb dX3_compareOdds_10 rfl (lv_at hl 3 rfl) ?_
      refine lv_if_lt (tgt := 20) hx hb dX3_compareOdds_11 (by decide) (fun c3 => ?_) (fun c3 => ?_)
      · have hf := z_p c3 hf
        refine lv_iconst (v := 0) hx hb dX3_compareOdds_20 rfl ?_
        exact zr_Ri hx hb hr hlocks (Option.some.inj hf) dX3_compareOdds_21
      · have hf := z_n c3 hf
        refine lv_iload_n hx hb dX3_compareOdds_14 rfl (lv_at hl 3 rfl) ?_
        refine lv_aload_n hx hb dX3_compareOdds_15 rfl (lv_at hl 1 rfl) ?_
        refine va_alen hx hb hKX.1 hP 6 1 rfl rfl (v := 576) rfl dX3_compareOdds_16 ?_
        refine lv_icmp_lt (tgt := 22) hx hb dX3_compareOdds_17 (by decide) (fun c4 => ?_) (fun c4 => ?_)
        · have hf := z_p c4 hf
          refine lv_aload_n hx hb dX3_compareOdds_22 rfl (lv_at hl 1 rfl) ?_
          refine lv_iload_n hx hb dX3_compareOdds_23 rfl (lv_at hl 2 rfl) ?_
          refine va_lald hx hb hKX.1 hP 6 1 rfl rfl (z_in_c rfl (Nat.le_of_ble_eq_true rfl) c1 c2) dX3_compareOdds_24 ?_
          refine lv_aload_n hx hb dX3_compareOdds_25 rfl (lv_at hl 0 rfl) ?_
          refine va_get (D := D) (ci := 3) (v := .ref (q 3)) (C := RX3) (T := TX3) (N := 10) hx hb htw WW_wsX30 hown hKX.1 hP 0 rfl rfl 2 (Nat.le_of_ble_eq_true rfl) (htw _ mF_RX3_18) (fun _ h9 => h9) rfl dX3_compareOdds_26 ?_
          refine lv_iload_n hx hb dX3_compareOdds_29 rfl (lv_at hl 2 rfl) ?_
          refine va_lald hx hb hKX.1 hP 3 1 rfl rfl (z_in_c rfl (Nat.le_of_ble_eq_true rfl) c1 c2) dX3_compareOdds_30 ?_
          refine lv_aload_n hx hb dX3_compareOdds_31 rfl (lv_at hl 1 rfl) ?_
          refine lv_iload_n hx hb dX3_compareOdds_32 rfl (lv_at hl 3 rfl) ?_
          obtain ⟨g5, hf⟩ := z_gd_u hf
          refine va_lald hx hb hKX.1 hP 6 1 rfl rfl (z_in_u g5) dX3_compareOdds_33 ?_
          refine lv_aload_n hx hb dX3_compareOdds_34 rfl (lv_at hl 0 rfl) ?_
          refine va_get (D := D) (ci := 3) (v := .ref (q 3)) (C := RX3) (T := TX3) (N := 10) hx hb htw WW_wsX30 hown hKX.1 hP 0 rfl rfl 2 (Nat.le_of_ble_eq_true rfl) (htw _ mF_RX3_18) (fun _ h9 => h9) rfl dX3_compareOdds_35 ?_
          refine lv_iload_n hx hb dX3_compareOdds_38 rfl (lv_at hl 3 rfl) ?_
          obtain ⟨g6, hf⟩ := z_gd_u hf
          refine va_lald hx hb hKX.1 hP 3 1 rfl rfl (z_in_u g6) dX3_compareOdds_39 ?_
          obtain ⟨r7, hr7, hf⟩ := z_bd_u hf
          refine zc_RSi (As := [.long (w a2.toNatClampNeg), .long ((re_wholes re) a2.toNatClampNeg), .long (w a3.toNatClampNeg), .long ((re_wholes re) a3.toNatClampNeg)]) (rest := []) hx hb hml hown htw (ctX1_compareFractions l D ac cs   (w a2.toNatClampNeg) ((re_wholes re) a2.toNatClampNeg) (w a3.toNatClampNeg) ((re_wholes re) a3.toNatClampNeg)   F _ hr7) (g_S mM_RX3_52 mT_yX1_compareFractions mN_RX1 mC_yX1_compareFractions) (hd_yX1_compareFractions) ⟨rfl, rfl⟩ ⟨(Nat.le_of_ble_eq_true rfl), (Nat.le_of_ble_eq_true rfl)⟩ hKX hC hS zP0 rfl hl.1 rfl (Nat.le_of_ble_eq_true rfl) ⟨Nat.zero_le _, Nat.zero_le _⟩ dX3_compareOdds_40 ?_
          exact zr_Ri hx hb hr hlocks (Option.some.inj hf) dX3_compareOdds_43
        · have hf := z_n c4 hf
          refine lv_iconst (v := 0) hx hb dX3_compareOdds_20 rfl ?_
          exact zr_Ri hx hb hr hlocks (Option.some.inj hf) dX3_compareOdds_21

theorem hd_yX3_take : hdY yX3_take 3 := by decide +kernel
def Re_take (F : Nat) (re : Re) (fc : Fc) (a1 : Int32) (a2 : Int32) : Option (Re) := if a1 < 0 then (some re) else (if (re_rows re) ≤ a1 then (some re) else (if a2 < 0 then (some re) else (if a2 < (re_rows re) then (z_let ((a1 * 24) + a2) (fun x5 : Int32 => z_let (fc_winsOfA fc) (fun x6 : Int64 => z_gd (z_in x5 576) (z_let (fc_winsOfB fc) (fun x8 : Int64 => z_gd (z_in x5 576) (z_let (fc_whole fc) (fun x10 : Int64 => z_gd (z_in x5 576) (z_gd (z_in a2 24) (z_jn (fun re13 : Re => z_gd (z_in a1 24) (z_jn (fun _ : Unit => z_gd (z_in a1 24) (some ((re_winsOfA re13), (re_winsOfB re13), (re_wholes re13), (re_bestOfA re13), (upd (re_bestOfB re13) a1.toNatClampNeg x5), (re_rows re13), (re_known re13), (re_pairs re13), (re_rowOfA re13), (re_rowOfB re13)))) (fun k17 => if ((re_bestOfB re13) a1.toNatClampNeg) < 0 then (k17 ()) else (z_gd (z_in a1 24) (z_bd (Re_compareOdds F re13 (re_winsOfB re13) x5 ((re_bestOfB re13) a1.toNatClampNeg)) (fun r22 : Int32 => if r22 ≤ 0 then (some re13) else (k17 ()))))))) (fun k14 => z_jn (fun _ : Unit => z_gd (z_in a2 24) (k14 ((vp_updL (re_winsOfA re) x5.toNatClampNeg x6), (vp_updL (re_winsOfB re) x5.toNatClampNeg x8), (vp_updL (re_wholes re) x5.toNatClampNeg x10), (upd (re_bestOfA re) a2.toNatClampNeg x5), (re_bestOfB re), (re_rows re), (re_known re), (re_pairs re), (re_rowOfA re), (re_rowOfB re)))) (fun k24 => if ((re_bestOfA re) a2.toNatClampNeg) < 0 then (k24 ()) else (z_gd (z_in a2 24) (z_bd (Re_compareOdds F ((vp_updL (re_winsOfA re) x5.toNatClampNeg x6), (vp_updL (re_winsOfB re) x5.toNatClampNeg x8), (vp_updL (re_wholes re) x5.toNatClampNeg x10), (re_bestOfA re), (re_bestOfB re), (re_rows re), (re_known re), (re_pairs re), (re_rowOfA re), (re_rowOfB re)) (vp_updL (re_winsOfA re) x5.toNatClampNeg x6) x5 ((re_bestOfA re) a2.toNatClampNeg)) (fun r29 : Int32 => if r29 ≤ 0 then (k14 ((vp_updL (re_winsOfA re) x5.toNatClampNeg x6), (vp_updL (re_winsOfB re) x5.toNatClampNeg x8), (vp_updL (re_wholes re) x5.toNatClampNeg x10), (re_bestOfA re), (re_bestOfB re), (re_rows re), (re_known re), (re_pairs re), (re_rowOfA re), (re_rowOfB re))) else (k24 ()))))))))))))))) else (some re))))
set_option maxHeartbeats 4000000 in
set_option maxRecDepth 100000 in
theorem ctX3_take (l : Launch) (D : va_G) (ac cs : Nat → Nat) (q : Nat → Nat) (qf : Nat → Nat) (w1 w2 : Nat) (sz : Nat) (re : Re) (fc : Fc) (a1 : Int32) (a2 : Int32) (F : Nat) (res : Re) (hf : Re_take F re fc a1 a2 = some res) : Met l yX3_take (cWW yX3_take cX3_take 5 none) { frames := 2, cells := 0, slots := 0, locals := 68 } (zM D ac cs [.ref (q 0), .int a1, .int a2, .ref (qf 0)] (reW ac q re ++ (fcW ac qf w1 w2 fc)) sz) (va_Qv (fun _ : Unit => True) (fun _ => zB D (va_A (reW ac q re ++ (fcW ac qf w1 w2 fc)) sz) (reW ac q res ++ (fcW ac qf w1 w2 fc))) (va_A (reW ac q re ++ (fcW ac qf w1 w2 fc)) sz)) 0 0 (va_A (reW ac q re ++ (fcW ac qf w1 w2 fc)) sz) := by
  refine Met.ofW (cc := cX3_take) (maxL := 5) (ret := none) (by decide) rfl ?_
  intro p e s m args below meth c s₁ B hml hv
  obtain ⟨rfl, hsz, hP, hKX, hD0, hC⟩ := hv
  have hx := B.exec
  have hb := B.bytes
  have hr := B.returns
  have hts := atoms_spec (ws := cWW yX3_take cX3_take 5 none) B.pre
  have htw : ∀ w ∈ WW, w.before _ s = true := fun w h => hts w (List.mem_cons_of_mem _ h)
  have hown : s.vm.findClass RX3 = some m.cls := findClass_of_methodNamed B.named
  have hlocks := B.notSynchronized
  clear hts B
  subst hsz
  have hD := hD0.self (sz := s.heap.size)
  generalize hAe : va_A (reW ac q re ++ (fcW ac qf w1 w2 fc)) s.heap.size = A at hD hC ⊢
  have hA : ∀ q : Nat, s.heap.size ≤ q → A q := fun q h => by rw [← hAe]; exact Or.inr h
  have hS : va_S A s.heap s.heap [] := va_S.rf
  clear hD0 hAe
  have hP : va_P D vwCl (reW ac q re ++ (fcW ac qf w1 w2 fc)) s.heap := hP
  have hl := lv_entry ([.ref (q 0), .int a1, .int a2, .ref (qf 0)]) (n := 5) (Nat.le_of_ble_eq_true rfl)
  rw [lg_entry_eq]
  generalize (lg_sl ([.ref (q 0), .int a1, .int a2, .ref (qf 0)]) ++ List.replicate (5 - (lg_sl ([.ref (q 0), .int a1, .int a2, .ref (qf 0)])).length) Slot.unset).toArray = ls at hl ⊢
  have hl : lv_has ls 5 [(0, .ref (q 0)), (1, .int a1), (2, .int a2), (3, .ref (qf 0))] := hl
  unfold Re_take at hf
  show W p l e ({ frames := 2, cells := 0, slots := 0, locals := 68 } : Room) s m _ below meth c s.heap [] 0 0 _ (F0 m 0 ls [])
  refine lv_iload_n hx hb dX3_take_0 rfl (lv_at hl 1 rfl) ?_
  refine lv_if_lt (tgt := 24) hx hb dX3_take_1 (by decide) (fun c1 => ?_) (fun c1 => ?_)
  · have hf := z_p c1 hf
    obtain rfl := Option.some.inj hf
    exact zr_Mv hx hb hr hlocks hP hD hS dX3_take_24
  · have hf := z_n c1 hf
    refine lv_iload_n hx hb dX3_take_4 rfl (lv_at hl 1 rfl) ?_
    refine lv_aload_n hx hb dX3_take_5 rfl (lv_at hl 0 rfl) ?_
    refine va_get (D := D) (ci := 3) (v := .int (re_rows re)) (C := RX3) (T := TX3) (N := 10) hx hb htw WW_wsX30 hown hKX.1 hP 0 rfl rfl 5 (Nat.le_of_ble_eq_true rfl) (htw _ mF_RX3_34) (fun _ h9 => h9) rfl dX3_take_6 ?_
    refine lv_icmp_ge (tgt := 24) hx hb dX3_take_9 (by decide) (fun c2 => ?_) (fun c2 => ?_)
    · have hf := z_p c2 hf
      obtain rfl := Option.some.inj hf
      exact zr_Mv hx hb hr hlocks hP hD hS dX3_take_24
    · have hf := z_n c2 hf
      refine lv_iload_n hx hb dX3_take_12 rfl (lv_at hl 2 rfl) ?_
      refine lv_if_lt (tgt := 24) hx hb dX3_take_13 (by decide) (fun c3 => ?_) (fun c3 => ?_)
      · have hf := z_p c3 hf
        obtain rfl := Option.some.inj hf
        exact zr_Mv hx hb hr hlocks hP hD hS dX3_take_24
      · have hf := z_n c3 hf
        refine lv_iload_n hx hb dX3_take_16 rfl (lv_at hl 2 rfl) ?_
        refine lv_aload_n hx hb dX3_take_17 rfl (lv_at hl 0 rfl) ?_
        refine va_get (D := D) (ci := 3) (v := .int (re_rows re)) (C := RX3) (T := TX3) (N := 10) hx hb htw WW_wsX30 hown hKX.1 hP 0 rfl rfl 5 (Nat.le_of_ble_eq_true rfl) (htw _ mF_RX3_34) (fun _ h9 => h9) rfl dX3_take_18 ?_
        refine lv_icmp_lt (tgt := 25) hx hb dX3_take_21 (by decide) (fun c4 => ?_) (fun c4 => ?_)
        · have hf := z_p c4 hf
          refine lv_iload_n hx hb dX3_take_25 rfl (lv_at hl 1 rfl) ?_
          refine lv_bipush (v := 24) hx hb dX3_take_26 rfl ?_
          refine lv_imul hx hb dX3_take_28 ?_
          refine lv_iload_n hx hb dX3_take_29 rfl (lv_at hl 2 rfl) ?_
          refine lv_iadd hx hb dX3_take_30 ?_
          refine lv_topi (fun x5 hx5 => ?_)
          have hf := z_let_u hx5 hf
          refine lv_istore (lv' := [(4, .int x5), (0, .ref (q 0)), (1, .int a1), (2, .int a2), (3, .ref (qf 0))]) hx hb dX3_take_31 hl (Nat.le_of_ble_eq_true rfl) rfl (fun ls hl => ?_)
          refine lv_aload_n hx hb dX3_take_33 rfl (lv_at hl 1 rfl) ?_
          refine va_get (D := D) (ci := 3) (v := .ref (q 1)) (C := RX3) (T := TX3) (N := 10) hx hb htw WW_wsX30 hown hKX.1 hP 0 rfl rfl 0 (Nat.le_of_ble_eq_true rfl) (htw _ mF_RX3_9) (fun _ h9 => h9) rfl dX3_take_34 ?_
          refine lv_iload hx hb dX3_take_37 (lv_at hl 0 rfl) ?_
          refine lv_aload_n hx hb dX3_take_39 rfl (lv_at hl 4 rfl) ?_
          refine va_getN (D := D) (ci := 0) (v := .long (fc_winsOfA fc)) (C := RX0) (T := TX0) (N := 15) hx hb htw WW_wsX00 hown hKX.1 hP 6 rfl rfl 12 (Nat.le_of_ble_eq_true rfl) (va_Nw.use rfl (hKX.2 _ (List.mem_of_getElem? (i := 16) rfl))) (fun _ h9 => h9) rfl dX3_take_40 ?_
          refine lv_topl (fun x6 hx6 => ?_)
          have hf := z_let_u hx6 hf
          obtain ⟨g7, hf⟩ := z_gd_u hf
          refine va_last hx hb hKX.1 hP hD hS 1 1 rfl rfl (z_in_u g7) dX3_take_43 (fun H locs hP hD hS => ?_)
          have hP : va_P D vwCl (reW ac q ((vp_updL (re_winsOfA re) x5.toNatClampNeg x6), (re_winsOfB re), (re_wholes re), (re_bestOfA re), (re_bestOfB re), (re_rows re), (re_known re), (re_pairs re), (re_rowOfA re), (re_rowOfB re)) ++ (fcW ac qf w1 w2 fc)) H := hP
          have hD : va_D A (reW ac q ((vp_updL (re_winsOfA re) x5.toNatClampNeg x6), (re_winsOfB re), (re_wholes re), (re_bestOfA re), (re_bestOfB re), (re_rows re), (re_known re), (re_pairs re), (re_rowOfA re), (re_rowOfB re)) ++ (fcW ac qf w1 w2 fc)) := hD
          refine lv_aload_n hx hb dX3_take_44 rfl (lv_at hl 1 rfl) ?_
          refine va_get (D := D) (ci := 3) (v := .ref (q 2)) (C := RX3) (T := TX3) (N := 10) hx hb htw WW_wsX30 hown hKX.1 hP 0 rfl rfl 1 (Nat.le_of_ble_eq_true rfl) (htw _ mF_RX3_15) (fun _ h9 => h9) rfl dX3_take_45 ?_
          refine lv_iload hx hb dX3_take_48 (lv_at hl 0 rfl) ?_
          refine lv_aload_n hx hb dX3_take_50 rfl (lv_at hl 4 rfl) ?_
          refine va_getN (D := D) (ci := 0) (v := .long (fc_winsOfB fc)) (C := RX0) (T := TX0) (N := 15) hx hb htw WW_wsX00 hown hKX.1 hP 6 rfl rfl 13 (Nat.le_of_ble_eq_true rfl) (va_Nw.use rfl (hKX.2 _ (List.mem_of_getElem? (i := 17) rfl))) (fun _ h9 => h9) rfl dX3_take_51 ?_
          refine lv_topl (fun x8 hx8 => ?_)
          have hf := z_let_u hx8 hf
          obtain ⟨g9, hf⟩ := z_gd_u hf
          refine va_last hx hb hKX.1 hP hD hS 2 1 rfl rfl (z_in_u g9) dX3_take_54 (fun H locs hP hD hS => ?_)
          have hP : va_P D vwCl (reW ac q ((vp_updL (re_winsOfA re) x5.toNatClampNeg x6), (vp_updL (re_winsOfB re) x5.toNatClampNeg x8), (re_wholes re), (re_bestOfA re), (re_bestOfB re), (re_rows re), (re_known re), (re_pairs re), (re_rowOfA re), (re_rowOfB re)) ++ (fcW ac qf w1 w2 fc)) H := hP
          have hD : va_D A (reW ac q ((vp_updL (re_winsOfA re) x5.toNatClampNeg x6), (vp_updL (re_winsOfB re) x5.toNatClampNeg x8), (re_wholes re), (re_bestOfA re), (re_bestOfB re), (re_rows re), (re_known re), (re_pairs re), (re_rowOfA re), (re_rowOfB re)) ++ (fcW ac qf w1 w2 fc)) := hD
          refine lv_aload_n hx hb dX3_take_55 rfl (lv_at hl 1 rfl) ?_
          refine va_get (D := D) (ci := 3) (v := .ref (q 3)) (C := RX3) (T := TX3) (N := 10) hx hb htw WW_wsX30 hown hKX.1 hP 0 rfl rfl 2 (Nat.le_of_ble_eq_true rfl) (htw _ mF_RX3_18) (fun _ h9 => h9) rfl dX3_take_56 ?_
          refine lv_iload hx hb dX3_take_59 (lv_at hl 0 rfl) ?_
          refine lv_aload_n hx hb dX3_take_61 rfl (lv_at hl 4 rfl) ?_
          refine va_getN (D := D) (ci := 0) (v := .long (fc_whole fc)) (C := RX0) (T := TX0) (N := 15) hx hb htw WW_wsX00 hown hKX.1 hP 6 rfl rfl 14 (Nat.le_of_ble_eq_true rfl) (va_Nw.use rfl (hKX.2 _ (List.mem_of_getElem? (i := 18) rfl))) (fun _ h9 => h9) rfl dX3_take_62 ?_
          refine lv_topl (fun x10 hx10 => ?_)
          have hf := z_let_u hx10 hf
          obtain ⟨g11, hf⟩ := z_gd_u hf
          refine va_last hx hb hKX.1 hP hD hS 3 1 rfl rfl (z_in_u g11) dX3_take_65 (fun H locs hP hD hS => ?_)
          have hP : va_P D vwCl (reW ac q ((vp_updL (re_winsOfA re) x5.toNatClampNeg x6), (vp_updL (re_winsOfB re) x5.toNatClampNeg x8), (vp_updL (re_wholes re) x5.toNatClampNeg x10), (re_bestOfA re), (re_bestOfB re), (re_rows re), (re_known re), (re_pairs re), (re_rowOfA re), (re_rowOfB re)) ++ (fcW ac qf w1 w2 fc)) H := hP
          have hD : va_D A (reW ac q ((vp_updL (re_winsOfA re) x5.toNatClampNeg x6), (vp_updL (re_winsOfB re) x5.toNatClampNeg x8), (vp_updL (re_wholes re) x5.toNatClampNeg x10), (re_bestOfA re), (re_bestOfB re), (re_rows re), (re_known re), (re_pairs re), (re_rowOfA re), (re_rowOfB re)) ++ (fcW ac qf w1 w2 fc)) := hD
          refine lv_aload_n hx hb dX3_take_66 rfl (lv_at hl 1 rfl) ?_
          refine va_get (D := D) (ci := 3) (v := .ref (q 4)) (C := RX3) (T := TX3) (N := 10) hx hb htw WW_wsX30 hown hKX.1 hP 0 rfl rfl 3 (Nat.le_of_ble_eq_true rfl) (htw _ mF_RX3_21) (fun _ h9 => h9) rfl dX3_take_67 ?_
          refine lv_iload_n hx hb dX3_take_70 rfl (lv_at hl 3 rfl) ?_
          obtain ⟨g12, hf⟩ := z_gd_u hf
          refine va_iald hx hb hKX.1 hP 4 0 rfl rfl (z_in_u g12) dX3_take_71 ?_
          obtain ⟨k14, hk14, hf⟩ := z_jn_u hf
          have hj15 : ∀ (re13 : Re), k14 re13 = some res → ∀ (H : Heap) (locs : List Loc) (ls : Array Slot), va_P D vwCl (reW ac q re13 ++ (fcW ac qf w1 w2 fc)) H → va_D A (reW ac q re13 ++ (fcW ac qf w1 w2 fc)) → va_S A s.heap H locs → lv_has ls 5 [(0, .ref (q 0)), (1, .int a1), (4, .int x5)] → W p l e ({ frames := 2, cells := 0, slots := 0, locals := 68 } : Room) s m (([.ref (q 0), .int a1, .int a2, .ref (qf 0)] : List Value).toArray) below meth c H locs 0 0 (MQ below (va_Qv (fun _ : Unit => True) (fun _ => zB D A (reW ac q res ++ (fcW ac qf w1 w2 fc))) A) ([.ref (q 0), .int a1, .int a2, .ref (qf 0)] : List Value).toArray s 0 0 A) (F0 m 102 ls []) := by
            intro re13 hf H locs ls hP hD hS hl
            have hf := hk14 _ hf
            refine lv_aload_n hx hb dX3_take_102 rfl (lv_at hl 0 rfl) ?_
            refine va_get (D := D) (ci := 3) (v := .ref (q 5)) (C := RX3) (T := TX3) (N := 10) hx hb htw WW_wsX30 hown hKX.1 hP 0 rfl rfl 4 (Nat.le_of_ble_eq_true rfl) (htw _ mF_RX3_25) (fun _ h9 => h9) rfl dX3_take_103 ?_
            refine lv_iload_n hx hb dX3_take_106 rfl (lv_at hl 1 rfl) ?_
            obtain ⟨g16, hf⟩ := z_gd_u hf
            refine va_iald hx hb hKX.1 hP 5 0 rfl rfl (z_in_u g16) dX3_take_107 ?_
            obtain ⟨k17, hk17, hf⟩ := z_jn_u hf
            have hj18 : k17 () = some res → ∀ (H : Heap) (locs : List Loc) (ls : Array Slot), va_P D vwCl (reW ac q re13 ++ (fcW ac qf w1 w2 fc)) H → va_D A (reW ac q re13 ++ (fcW ac qf w1 w2 fc)) → va_S A s.heap H locs → lv_has ls 5 [(0, .ref (q 0)), (1, .int a1), (4, .int x5)] → W p l e ({ frames := 2, cells := 0, slots := 0, locals := 68 } : Room) s m (([.ref (q 0), .int a1, .int a2, .ref (qf 0)] : List Value).toArray) below meth c H locs 0 0 (MQ below (va_Qv (fun _ : Unit => True) (fun _ => zB D A (reW ac q res ++ (fcW ac qf w1 w2 fc))) A) ([.ref (q 0), .int a1, .int a2, .ref (qf 0)] : List Value).toArray s 0 0 A) (F0 m 130 ls []) := by
              intro hf H locs ls hP hD hS hl
              have hf := hk17 _ hf
              refine lv_aload_n hx hb dX3_take_130 rfl (lv_at hl 0 rfl) ?_
              refine va_get (D := D) (ci := 3) (v := .ref (q 5)) (C := RX3) (T := TX3) (N := 10) hx hb htw WW_wsX30 hown hKX.1 hP 0 rfl rfl 4 (Nat.le_of_ble_eq_true rfl) (htw _ mF_RX3_25) (fun _ h9 => h9) rfl dX3_take_131 ?_
              refine lv_iload_n hx hb dX3_take_134 rfl (lv_at hl 1 rfl) ?_
              refine lv_iload hx hb dX3_take_135 (lv_at hl 2 rfl) ?_
              obtain ⟨g19, hf⟩ := z_gd_u hf
              refine va_iast hx hb hKX.1 hP hD hS 5 0 rfl rfl (z_in_u g19) dX3_take_137 (fun H locs hP hD hS => ?_)
              have hP : va_P D vwCl (reW ac q ((re_winsOfA re13), (re_winsOfB re13), (re_wholes re13), (re_bestOfA re13), (upd (re_bestOfB re13) a1.toNatClampNeg x5), (re_rows re13), (re_known re13), (re_pairs re13), (re_rowOfA re13), (re_rowOfB re13)) ++ (fcW ac qf w1 w2 fc)) H := hP
              have hD : va_D A (reW ac q ((re_winsOfA re13), (re_winsOfB re13), (re_wholes re13), (re_bestOfA re13), (upd (re_bestOfB re13) a1.toNatClampNeg x5), (re_rows re13), (re_known re13), (re_pairs re13), (re_rowOfA re13), (re_rowOfB re13)) ++ (fcW ac qf w1 w2 fc)) := hD
              obtain rfl := Option.some.inj hf
              exact zr_Mv hx hb hr hlocks hP hD hS dX3_take_138
            refine lv_if_lt (tgt := 130) hx hb dX3_take_108 (by decide) (fun c20 => ?_) (fun c20 => ?_)
            · have hf := z_p c20 hf
              exact hj18  hf _ _ ls  hP hD hS (lv_sub hl [0, 1, 2] rfl)
            · have hf := z_n c20 hf
              refine lv_aload_n hx hb dX3_take_111 rfl (lv_at hl 0 rfl) ?_
              refine lv_aload_n hx hb dX3_take_112 rfl (lv_at hl 0 rfl) ?_
              refine va_get (D := D) (ci := 3) (v := .ref (q 2)) (C := RX3) (T := TX3) (N := 10) hx hb htw WW_wsX30 hown hKX.1 hP 0 rfl rfl 1 (Nat.le_of_ble_eq_true rfl) (htw _ mF_RX3_15) (fun _ h9 => h9) rfl dX3_take_113 ?_
              refine lv_iload hx hb dX3_take_116 (lv_at hl 2 rfl) ?_
              refine lv_aload_n hx hb dX3_take_118 rfl (lv_at hl 0 rfl) ?_
              refine va_get (D := D) (ci := 3) (v := .ref (q 5)) (C := RX3) (T := TX3) (N := 10) hx hb htw WW_wsX30 hown hKX.1 hP 0 rfl rfl 4 (Nat.le_of_ble_eq_true rfl) (htw _ mF_RX3_25) (fun _ h9 => h9) rfl dX3_take_119 ?_
              refine lv_iload_n hx hb dX3_take_122 rfl (lv_at hl 1 rfl) ?_
              obtain ⟨g21, hf⟩ := z_gd_u hf
              refine va_iald hx hb hKX.1 hP 5 0 rfl rfl (z_in_u g21) dX3_take_123 ?_
              obtain ⟨r22, hr22, hf⟩ := z_bd_u hf
              refine zc_RVi (As := [.ref (q 2), .int x5, .int ((re_bestOfB re13) a1.toNatClampNeg)]) (rest := []) hx hb hml hown htw (ctX3_compareOdds l D ac cs q (q 2) re13 (re_winsOfB re13) x5 ((re_bestOfB re13) a1.toNatClampNeg)   F _ hr22) (g_V mM_RX3_48 mI_yX3_compareOdds mS_RX3_yX3_compareOdds_yX3_compareOdds mN_RX3 mC_yX3_compareOdds) rfl (hd_yX3_compareOdds) ⟨rfl, rfl⟩ ⟨(Nat.le_of_ble_eq_true rfl), (Nat.le_of_ble_eq_true rfl)⟩ hKX hC hS (hP.sub [0, 1, 2, 3, 4, 5, 2] rfl) 3 rfl rfl rfl hl.1 rfl (Nat.le_of_ble_eq_true rfl) ⟨Nat.zero_le _, Nat.zero_le _⟩ dX3_take_124 ?_
              refine lv_if_le (tgt := 138) hx hb dX3_take_127 (by decide) (fun c23 => ?_) (fun c23 => ?_)
              · have hf := z_p c23 hf
                obtain rfl := Option.some.inj hf
                exact zr_Mv hx hb hr hlocks hP hD hS dX3_take_138
              · have hf := z_n c23 hf
                exact hj18  hf _ _ ls  hP hD hS (lv_sub hl [0, 1, 2] rfl)
          obtain ⟨k24, hk24, hf⟩ := z_jn_u hf
          have hj25 : k24 () = some res → ∀ (H : Heap) (locs : List Loc) (ls : Array Slot), va_P D vwCl (reW ac q ((vp_updL (re_winsOfA re) x5.toNatClampNeg x6), (vp_updL (re_winsOfB re) x5.toNatClampNeg x8), (vp_updL (re_wholes re) x5.toNatClampNeg x10), (re_bestOfA re), (re_bestOfB re), (re_rows re), (re_known re), (re_pairs re), (re_rowOfA re), (re_rowOfB re)) ++ (fcW ac qf w1 w2 fc)) H → va_D A (reW ac q ((vp_updL (re_winsOfA re) x5.toNatClampNeg x6), (vp_updL (re_winsOfB re) x5.toNatClampNeg x8), (vp_updL (re_wholes re) x5.toNatClampNeg x10), (re_bestOfA re), (re_bestOfB re), (re_rows re), (re_known re), (re_pairs re), (re_rowOfA re), (re_rowOfB re)) ++ (fcW ac qf w1 w2 fc)) → va_S A s.heap H locs → lv_has ls 5 [(0, .ref (q 0)), (1, .int a1), (2, .int a2), (4, .int x5)] → W p l e ({ frames := 2, cells := 0, slots := 0, locals := 68 } : Room) s m (([.ref (q 0), .int a1, .int a2, .ref (qf 0)] : List Value).toArray) below meth c H locs 0 0 (MQ below (va_Qv (fun _ : Unit => True) (fun _ => zB D A (reW ac q res ++ (fcW ac qf w1 w2 fc))) A) ([.ref (q 0), .int a1, .int a2, .ref (qf 0)] : List Value).toArray s 0 0 A) (F0 m 94 ls []) := by
            intro hf H locs ls hP hD hS hl
            have hf := hk24 _ hf
            refine lv_aload_n hx hb dX3_take_94 rfl (lv_at hl 0 rfl) ?_
            refine va_get (D := D) (ci := 3) (v := .ref (q 4)) (C := RX3) (T := TX3) (N := 10) hx hb htw WW_wsX30 hown hKX.1 hP 0 rfl rfl 3 (Nat.le_of_ble_eq_true rfl) (htw _ mF_RX3_21) (fun _ h9 => h9) rfl dX3_take_95 ?_
            refine lv_iload_n hx hb dX3_take_98 rfl (lv_at hl 2 rfl) ?_
            refine lv_iload hx hb dX3_take_99 (lv_at hl 3 rfl) ?_
            obtain ⟨g26, hf⟩ := z_gd_u hf
            refine va_iast hx hb hKX.1 hP hD hS 4 0 rfl rfl (z_in_u g26) dX3_take_101 (fun H locs hP hD hS => ?_)
            have hP : va_P D vwCl (reW ac q ((vp_updL (re_winsOfA re) x5.toNatClampNeg x6), (vp_updL (re_winsOfB re) x5.toNatClampNeg x8), (vp_updL (re_wholes re) x5.toNatClampNeg x10), (upd (re_bestOfA re) a2.toNatClampNeg x5), (re_bestOfB re), (re_rows re), (re_known re), (re_pairs re), (re_rowOfA re), (re_rowOfB re)) ++ (fcW ac qf w1 w2 fc)) H := hP
            have hD : va_D A (reW ac q ((vp_updL (re_winsOfA re) x5.toNatClampNeg x6), (vp_updL (re_winsOfB re) x5.toNatClampNeg x8), (vp_updL (re_wholes re) x5.toNatClampNeg x10), (upd (re_bestOfA re) a2.toNatClampNeg x5), (re_bestOfB re), (re_rows re), (re_known re), (re_pairs re), (re_rowOfA re), (re_rowOfB re)) ++ (fcW ac qf w1 w2 fc)) := hD
            exact hj15 ((vp_updL (re_winsOfA re) x5.toNatClampNeg x6), (vp_updL (re_winsOfB re) x5.toNatClampNeg x8), (vp_updL (re_wholes re) x5.toNatClampNeg x10), (upd (re_bestOfA re) a2.toNatClampNeg x5), (re_bestOfB re), (re_rows re), (re_known re), (re_pairs re), (re_rowOfA re), (re_rowOfB re)) hf _ _ ls  hP hD hS (lv_sub hl [0, 1, 3] rfl)
          refine lv_if_lt (tgt := 94) hx hb dX3_take_72 (by decide) (fun c27 => ?_) (fun c27 => ?_)
          · have hf := z_p c27 hf
            exact hj25  hf _ _ ls  hP hD hS (lv_sub hl [1, 2, 3, 0] rfl)
          · have hf := z_n c27 hf
            refine lv_aload_n hx hb dX3_take_75 rfl (lv_at hl 1 rfl) ?_
            refine lv_aload_n hx hb dX3_take_76 rfl (lv_at hl 1 rfl) ?_
            refine va_get (D := D) (ci := 3) (v := .ref (q 1)) (C := RX3) (T := TX3) (N := 10) hx hb htw WW_wsX30 hown hKX.1 hP 0 rfl rfl 0 (Nat.le_of_ble_eq_true rfl) (htw _ mF_RX3_9) (fun _ h9 => h9) rfl dX3_take_77 ?_
            refine lv_iload hx hb dX3_take_80 (lv_at hl 0 rfl) ?_
            refine lv_aload_n hx hb dX3_take_82 rfl (lv_at hl 1 rfl) ?_
            refine va_get (D := D) (ci := 3) (v := .ref (q 4)) (C := RX3) (T := TX3) (N := 10) hx hb htw WW_wsX30 hown hKX.1 hP 0 rfl rfl 3 (Nat.le_of_ble_eq_true rfl) (htw _ mF_RX3_21) (fun _ h9 => h9) rfl dX3_take_83 ?_
            refine lv_iload_n hx hb dX3_take_86 rfl (lv_at hl 3 rfl) ?_
            obtain ⟨g28, hf⟩ := z_gd_u hf
            refine va_iald hx hb hKX.1 hP 4 0 rfl rfl (z_in_u g28) dX3_take_87 ?_
            obtain ⟨r29, hr29, hf⟩ := z_bd_u hf
            refine zc_RVi (As := [.ref (q 1), .int x5, .int ((re_bestOfA re) a2.toNatClampNeg)]) (rest := []) hx hb hml hown htw (ctX3_compareOdds l D ac cs q (q 1) ((vp_updL (re_winsOfA re) x5.toNatClampNeg x6), (vp_updL (re_winsOfB re) x5.toNatClampNeg x8), (vp_updL (re_wholes re) x5.toNatClampNeg x10), (re_bestOfA re), (re_bestOfB re), (re_rows re), (re_known re), (re_pairs re), (re_rowOfA re), (re_rowOfB re)) (vp_updL (re_winsOfA re) x5.toNatClampNeg x6) x5 ((re_bestOfA re) a2.toNatClampNeg)   F _ hr29) (g_V mM_RX3_48 mI_yX3_compareOdds mS_RX3_yX3_compareOdds_yX3_compareOdds mN_RX3 mC_yX3_compareOdds) rfl (hd_yX3_compareOdds) ⟨rfl, rfl⟩ ⟨(Nat.le_of_ble_eq_true rfl), (Nat.le_of_ble_eq_true rfl)⟩ hKX hC hS (hP.sub [0, 1, 2, 3, 4, 5, 1] rfl) 3 rfl rfl rfl hl.1 rfl (Nat.le_of_ble_eq_true rfl) ⟨Nat.zero_le _, Nat.zero_le _⟩ dX3_take_88 ?_
            refine lv_if_le (tgt := 102) hx hb dX3_take_91 (by decide) (fun c30 => ?_) (fun c30 => ?_)
            · have hf := z_p c30 hf
              exact hj15 ((vp_updL (re_winsOfA re) x5.toNatClampNeg x6), (vp_updL (re_winsOfB re) x5.toNatClampNeg x8), (vp_updL (re_wholes re) x5.toNatClampNeg x10), (re_bestOfA re), (re_bestOfB re), (re_rows re), (re_known re), (re_pairs re), (re_rowOfA re), (re_rowOfB re)) hf _ _ ls  hP hD hS (lv_sub hl [1, 2, 0] rfl)
            · have hf := z_n c30 hf
              exact hj25  hf _ _ ls  hP hD hS (lv_sub hl [1, 2, 3, 0] rfl)
        · have hf := z_n c4 hf
          obtain rfl := Option.some.inj hf
          exact zr_Mv hx hb hr hlocks hP hD hS dX3_take_24

theorem hd_yX3_firstPair : hdY yX3_firstPair 0 := by decide +kernel
def Re_firstPair_L19 (F : Nat) (x2 : Int32) (kx14 : Int32 → Re → Option (Int32 × Re)) : Nat → Int32 → Int32 → Re → Option (Int32 × Re)
  | 0, _, _, _ => none
  | n12 + 1, x8, x9, re10 => if (re_rows re10) ≤ x9 then (kx14 x8 re10) else (z_let ((x2 * 24) + x9) (fun x18 : Int32 => z_gd (z_in x9 24) (z_bd (Re_compareOdds F re10 (re_winsOfA re10) x18 ((re_bestOfA re10) x9.toNatClampNeg)) (fun r20 : Int32 => if r20 = 0 then (z_gd (z_in x2 24) (z_bd (Re_compareOdds F re10 (re_winsOfB re10) x18 ((re_bestOfB re10) x2.toNatClampNeg)) (fun r24 : Int32 => if r24 = 0 then (z_let (if (re_pairs re10) = 0 then x18 else x8) (fun v27 : Int32 => z_let ((re_pairs re10) + 1) (fun x31 : Int32 => z_let (x9 + 1) (fun x32 : Int32 => Re_firstPair_L19 F x2 kx14 n12 v27 x32 ((re_winsOfA re10), (re_winsOfB re10), (re_wholes re10), (re_bestOfA re10), (re_bestOfB re10), (re_rows re10), (re_known re10), x31, (re_rowOfA re10), (re_rowOfB re10)))))) else (z_let (x9 + 1) (fun x26 : Int32 => Re_firstPair_L19 F x2 kx14 n12 x8 x26 re10))))) else (z_let (x9 + 1) (fun x22 : Int32 => Re_firstPair_L19 F x2 kx14 n12 x8 x22 re10))))))
def Re_firstPair_L9 (F : Nat) : Nat → Int32 → Int32 → Re → Option (Int32 × Re)
  | 0, _, _, _ => none
  | n5 + 1, x1, x2, re3 => if (re_rows re3) ≤ x2 then (some (x1, re3)) else (Re_firstPair_L19 F x2 (fun (x15 : Int32) (re16 : Re) => z_let (x2 + 1) (fun x33 : Int32 => Re_firstPair_L9 F n5 x15 x33 re16)) F x1 0 re3)
def Re_firstPair (F : Nat) (re : Re) : Option (Int32 × Re) := Re_firstPair_L9 F F 0 0 ((re_winsOfA re), (re_winsOfB re), (re_wholes re), (re_bestOfA re), (re_bestOfB re), (re_rows re), (re_known re), 0, (re_rowOfA re), (re_rowOfB re))
set_option maxHeartbeats 4000000 in
set_option maxRecDepth 100000 in
theorem ctX3_firstPair (l : Launch) (D : va_G) (ac cs : Nat → Nat) (q : Nat → Nat) (sz : Nat) (re : Re) (F : Nat) (res : Int32 × Re) (hf : Re_firstPair F re = some res) : Met l yX3_firstPair (cWW yX3_firstPair cX3_firstPair 5 (some .int)) { frames := 2, cells := 0, slots := 0, locals := 68 } (zM D ac cs [.ref (q 0)] (reW ac q re) sz) (va_Qi (fun r (_ : Unit) => r = res.1) (fun _ => zB D (va_A (reW ac q re) sz) (reW ac q res.2)) (va_A (reW ac q re) sz)) 0 0 (va_A (reW ac q re) sz) := by
  refine Met.ofW (cc := cX3_firstPair) (maxL := 5) (ret := (some .int)) (by decide) rfl ?_
  intro p e s m args below meth c s₁ B hml hv
  obtain ⟨rfl, hsz, hP, hKX, hD0, hC⟩ := hv
  have hx := B.exec
  have hb := B.bytes
  have hr := B.returns
  have hts := atoms_spec (ws := cWW yX3_firstPair cX3_firstPair 5 (some .int)) B.pre
  have htw : ∀ w ∈ WW, w.before _ s = true := fun w h => hts w (List.mem_cons_of_mem _ h)
  have hown : s.vm.findClass RX3 = some m.cls := findClass_of_methodNamed B.named
  have hlocks := B.notSynchronized
  clear hts B
  subst hsz
  have hD := hD0.self (sz := s.heap.size)
  generalize hAe : va_A (reW ac q re) s.heap.size = A at hD hC ⊢
  have hA : ∀ q : Nat, s.heap.size ≤ q → A q := fun q h => by rw [← hAe]; exact Or.inr h
  have hS : va_S A s.heap s.heap [] := va_S.rf
  clear hD0 hAe
  have hP : va_P D vwCl (reW ac q re) s.heap := hP
  have hl := lv_entry ([.ref (q 0)]) (n := 5) (Nat.le_of_ble_eq_true rfl)
  rw [lg_entry_eq]
  generalize (lg_sl ([.ref (q 0)]) ++ List.replicate (5 - (lg_sl ([.ref (q 0)])).length) Slot.unset).toArray = ls at hl ⊢
  have hl : lv_has ls 5 [(0, .ref (q 0))] := hl
  unfold Re_firstPair at hf
  show W p l e ({ frames := 2, cells := 0, slots := 0, locals := 68 } : Room) s m _ below meth c s.heap [] 0 0 _ (F0 m 0 ls [])
  refine lv_aload_n hx hb dX3_firstPair_0 rfl (lv_at hl 0 rfl) ?_
  refine lv_iconst (v := 0) hx hb dX3_firstPair_1 rfl ?_
  refine va_put (D := D) (ci := 3) (v := .int 0) (ty := tyX3 7) (C := RX3) (T := TX3) (N := 10) hx hb htw WW_wsX30 tyX3 tyX3_ok nmX3 hown hKX.1 hP hD hS 0 rfl rfl 7 (Nat.le_of_ble_eq_true rfl) (htw _ mF_RX3_58) (fun _ h9 => h9) rfl (tyX3_ok 7 (Nat.le_of_ble_eq_true rfl)) rfl rfl (Nat.le_of_ble_eq_true rfl) dX3_firstPair_2 (fun H locs hP hD hS => ?_)
  have hP : va_P D vwCl (reW ac q ((re_winsOfA re), (re_winsOfB re), (re_wholes re), (re_bestOfA re), (re_bestOfB re), (re_rows re), (re_known re), 0, (re_rowOfA re), (re_rowOfB re))) H := hP
  have hD : va_D A (reW ac q ((re_winsOfA re), (re_winsOfB re), (re_wholes re), (re_bestOfA re), (re_bestOfB re), (re_rows re), (re_known re), 0, (re_rowOfA re), (re_rowOfB re))) := hD
  refine lv_iconst (v := 0) hx hb dX3_firstPair_5 rfl ?_
  refine lv_istore_n (lv' := [(1, .int 0), (0, .ref (q 0))]) hx hb dX3_firstPair_6 rfl hl (Nat.le_of_ble_eq_true rfl) rfl (fun ls hl => ?_)
  refine lv_iconst (v := 0) hx hb dX3_firstPair_7 rfl ?_
  refine lv_istore_n (lv' := [(2, .int 0), (1, .int 0), (0, .ref (q 0))]) hx hb dX3_firstPair_8 rfl hl (Nat.le_of_ble_eq_true rfl) rfl (fun ls hl => ?_)
  have hL4 : ∀ (n5 : Nat) (x1 : Int32) (x2 : Int32) (re3 : Re), Re_firstPair_L9 F n5 x1 x2 re3 = some res → ∀ (H : Heap) (locs : List Loc) (ls : Array Slot), va_P D vwCl (reW ac q re3) H → va_D A (reW ac q re3) → va_S A s.heap H locs → lv_has ls 5 [(0, .ref (q 0)), (1, .int x1), (2, .int x2)] → W p l e ({ frames := 2, cells := 0, slots := 0, locals := 68 } : Room) s m (([.ref (q 0)] : List Value).toArray) below meth c H locs 0 0 (MQ below (va_Qi (fun r (_ : Unit) => r = res.1) (fun _ => zB D A (reW ac q res.2)) A) ([.ref (q 0)] : List Value).toArray s 0 0 A) (F0 m 9 ls []) := by
    intro n5
    induction n5 with
    | zero => intro x1 x2 re3 hf; rw [Re_firstPair_L9] at hf; cases hf
    | succ n5 ih6 =>
      intro x1 x2 re3 hf H locs ls hP hD hS hl
      rw [Re_firstPair_L9] at hf
      refine lv_iload_n hx hb dX3_firstPair_9 rfl (lv_at hl 2 rfl) ?_
      refine lv_aload_n hx hb dX3_firstPair_10 rfl (lv_at hl 0 rfl) ?_
      refine va_get (D := D) (ci := 3) (v := .int (re_rows re3)) (C := RX3) (T := TX3) (N := 10) hx hb htw WW_wsX30 hown hKX.1 hP 0 rfl rfl 5 (Nat.le_of_ble_eq_true rfl) (htw _ mF_RX3_34) (fun _ h9 => h9) rfl dX3_firstPair_11 ?_
      refine lv_icmp_ge (tgt := 109) hx hb dX3_firstPair_14 (by decide) (fun c7 => ?_) (fun c7 => ?_)
      · have hf := z_p c7 hf
        refine lv_iload_n hx hb dX3_firstPair_109 rfl (lv_at hl 1 rfl) ?_
        obtain rfl := Option.some.inj hf
        exact zr_Mi hx hb hr hlocks hP hD hS dX3_firstPair_110
      · have hf := z_n c7 hf
        refine lv_iconst (v := 0) hx hb dX3_firstPair_17 rfl ?_
        refine lv_istore_n (lv' := [(3, .int 0), (0, .ref (q 0)), (1, .int x1), (2, .int x2)]) hx hb dX3_firstPair_18 rfl hl (Nat.le_of_ble_eq_true rfl) rfl (fun ls hl => ?_)
        have hL11 : ∀ (kx14 : Int32 → Re → Option (Int32 × Re)) (hkx14 : ∀ (x15 : Int32) (re16 : Re), kx14 x15 re16 = some res → ∀ (H : Heap) (locs : List Loc) (ls : Array Slot), va_P D vwCl (reW ac q re16) H → va_D A (reW ac q re16) → va_S A s.heap H locs → lv_has ls 5 [(0, .ref (q 0)), (1, .int x15), (2, .int x2)] → W p l e ({ frames := 2, cells := 0, slots := 0, locals := 68 } : Room) s m (([.ref (q 0)] : List Value).toArray) below meth c H locs 0 0 (MQ below (va_Qi (fun r (_ : Unit) => r = res.1) (fun _ => zB D A (reW ac q res.2)) A) ([.ref (q 0)] : List Value).toArray s 0 0 A) (F0 m 103 ls [])) (n12 : Nat) (x8 : Int32) (x9 : Int32) (re10 : Re), Re_firstPair_L19 F x2 kx14 n12 x8 x9 re10 = some res → ∀ (H : Heap) (locs : List Loc) (ls : Array Slot), va_P D vwCl (reW ac q re10) H → va_D A (reW ac q re10) → va_S A s.heap H locs → lv_has ls 5 [(0, .ref (q 0)), (1, .int x8), (2, .int x2), (3, .int x9)] → W p l e ({ frames := 2, cells := 0, slots := 0, locals := 68 } : Room) s m (([.ref (q 0)] : List Value).toArray) below meth c H locs 0 0 (MQ below (va_Qi (fun r (_ : Unit) => r = res.1) (fun _ => zB D A (reW ac q res.2)) A) ([.ref (q 0)] : List Value).toArray s 0 0 A) (F0 m 19 ls []) := by
          intro kx14 hkx14 n12
          induction n12 with
          | zero => intro x8 x9 re10 hf; rw [Re_firstPair_L19] at hf; cases hf
          | succ n12 ih13 =>
            intro x8 x9 re10 hf H locs ls hP hD hS hl
            rw [Re_firstPair_L19] at hf
            refine lv_iload_n hx hb dX3_firstPair_19 rfl (lv_at hl 3 rfl) ?_
            refine lv_aload_n hx hb dX3_firstPair_20 rfl (lv_at hl 0 rfl) ?_
            refine va_get (D := D) (ci := 3) (v := .int (re_rows re10)) (C := RX3) (T := TX3) (N := 10) hx hb htw WW_wsX30 hown hKX.1 hP 0 rfl rfl 5 (Nat.le_of_ble_eq_true rfl) (htw _ mF_RX3_34) (fun _ h9 => h9) rfl dX3_firstPair_21 ?_
            refine lv_icmp_ge (tgt := 103) hx hb dX3_firstPair_24 (by decide) (fun c17 => ?_) (fun c17 => ?_)
            · have hf := z_p c17 hf
              exact hkx14 x8 re10 hf _ _ ls  hP hD hS (lv_sub hl [0, 1, 2] rfl)
            · have hf := z_n c17 hf
              refine lv_iload_n hx hb dX3_firstPair_27 rfl (lv_at hl 2 rfl) ?_
              refine lv_bipush (v := 24) hx hb dX3_firstPair_28 rfl ?_
              refine lv_imul hx hb dX3_firstPair_30 ?_
              refine lv_iload_n hx hb dX3_firstPair_31 rfl (lv_at hl 3 rfl) ?_
              refine lv_iadd hx hb dX3_firstPair_32 ?_
              refine lv_topi (fun x18 hx18 => ?_)
              have hf := z_let_u hx18 hf
              refine lv_istore (lv' := [(4, .int x18), (0, .ref (q 0)), (1, .int x8), (2, .int x2), (3, .int x9)]) hx hb dX3_firstPair_33 hl (Nat.le_of_ble_eq_true rfl) rfl (fun ls hl => ?_)
              refine lv_aload_n hx hb dX3_firstPair_35 rfl (lv_at hl 1 rfl) ?_
              refine lv_aload_n hx hb dX3_firstPair_36 rfl (lv_at hl 1 rfl) ?_
              refine va_get (D := D) (ci := 3) (v := .ref (q 1)) (C := RX3) (T := TX3) (N := 10) hx hb htw WW_wsX30 hown hKX.1 hP 0 rfl rfl 0 (Nat.le_of_ble_eq_true rfl) (htw _ mF_RX3_9) (fun _ h9 => h9) rfl dX3_firstPair_37 ?_
              refine lv_iload hx hb dX3_firstPair_40 (lv_at hl 0 rfl) ?_
              refine lv_aload_n hx hb dX3_firstPair_42 rfl (lv_at hl 1 rfl) ?_
              refine va_get (D := D) (ci := 3) (v := .ref (q 4)) (C := RX3) (T := TX3) (N := 10) hx hb htw WW_wsX30 hown hKX.1 hP 0 rfl rfl 3 (Nat.le_of_ble_eq_true rfl) (htw _ mF_RX3_21) (fun _ h9 => h9) rfl dX3_firstPair_43 ?_
              refine lv_iload_n hx hb dX3_firstPair_46 rfl (lv_at hl 4 rfl) ?_
              obtain ⟨g19, hf⟩ := z_gd_u hf
              refine va_iald hx hb hKX.1 hP 4 0 rfl rfl (z_in_u g19) dX3_firstPair_47 ?_
              obtain ⟨r20, hr20, hf⟩ := z_bd_u hf
              refine zc_RVi (As := [.ref (q 1), .int x18, .int ((re_bestOfA re10) x9.toNatClampNeg)]) (rest := []) hx hb hml hown htw (ctX3_compareOdds l D ac cs q (q 1) re10 (re_winsOfA re10) x18 ((re_bestOfA re10) x9.toNatClampNeg)   F _ hr20) (g_V mM_RX3_48 mI_yX3_compareOdds mS_RX3_yX3_compareOdds_yX3_compareOdds mN_RX3 mC_yX3_compareOdds) rfl (hd_yX3_compareOdds) ⟨rfl, rfl⟩ ⟨(Nat.le_of_ble_eq_true rfl), (Nat.le_of_ble_eq_true rfl)⟩ hKX hC hS (hP.sub [0, 1, 2, 3, 4, 5, 1] rfl) 3 rfl rfl rfl hl.1 rfl (Nat.le_of_ble_eq_true rfl) ⟨Nat.zero_le _, Nat.zero_le _⟩ dX3_firstPair_48 ?_
              refine lv_if_ne (tgt := 97) hx hb dX3_firstPair_51 (by decide) (fun c21 => ?_) (fun c21 => ?_)
              · have hf := z_n c21 hf
                obtain ⟨x22, hx22⟩ : ∃ y : Int32, y = (x9 + 1) := ⟨_, rfl⟩
                have hf := z_let_u hx22 hf
                refine lv_iinc (v := x22) (lv' := [(3, .int x22), (4, .int x18), (0, .ref (q 0)), (1, .int x8), (2, .int x2)]) hx hb dX3_firstPair_97 hl (k := 4) rfl (by rw [hx22]; rfl) (Nat.le_of_ble_eq_true rfl) rfl (fun ls hl => ?_)
                refine lv_goto (tgt := 19) hx hb dX3_firstPair_100 (by decide) ?_
                exact ih13 x8 x22 re10 hf _ _ ls  hP hD hS (lv_sub hl [2, 3, 4, 0] rfl)
              · have hf := z_p c21 hf
                refine lv_aload_n hx hb dX3_firstPair_54 rfl (lv_at hl 1 rfl) ?_
                refine lv_aload_n hx hb dX3_firstPair_55 rfl (lv_at hl 1 rfl) ?_
                refine va_get (D := D) (ci := 3) (v := .ref (q 2)) (C := RX3) (T := TX3) (N := 10) hx hb htw WW_wsX30 hown hKX.1 hP 0 rfl rfl 1 (Nat.le_of_ble_eq_true rfl) (htw _ mF_RX3_15) (fun _ h9 => h9) rfl dX3_firstPair_56 ?_
                refine lv_iload hx hb dX3_firstPair_59 (lv_at hl 0 rfl) ?_
                refine lv_aload_n hx hb dX3_firstPair_61 rfl (lv_at hl 1 rfl) ?_
                refine va_get (D := D) (ci := 3) (v := .ref (q 5)) (C := RX3) (T := TX3) (N := 10) hx hb htw WW_wsX30 hown hKX.1 hP 0 rfl rfl 4 (Nat.le_of_ble_eq_true rfl) (htw _ mF_RX3_25) (fun _ h9 => h9) rfl dX3_firstPair_62 ?_
                refine lv_iload_n hx hb dX3_firstPair_65 rfl (lv_at hl 3 rfl) ?_
                obtain ⟨g23, hf⟩ := z_gd_u hf
                refine va_iald hx hb hKX.1 hP 5 0 rfl rfl (z_in_u g23) dX3_firstPair_66 ?_
                obtain ⟨r24, hr24, hf⟩ := z_bd_u hf
                refine zc_RVi (As := [.ref (q 2), .int x18, .int ((re_bestOfB re10) x2.toNatClampNeg)]) (rest := []) hx hb hml hown htw (ctX3_compareOdds l D ac cs q (q 2) re10 (re_winsOfB re10) x18 ((re_bestOfB re10) x2.toNatClampNeg)   F _ hr24) (g_V mM_RX3_48 mI_yX3_compareOdds mS_RX3_yX3_compareOdds_yX3_compareOdds mN_RX3 mC_yX3_compareOdds) rfl (hd_yX3_compareOdds) ⟨rfl, rfl⟩ ⟨(Nat.le_of_ble_eq_true rfl), (Nat.le_of_ble_eq_true rfl)⟩ hKX hC hS (hP.sub [0, 1, 2, 3, 4, 5, 2] rfl) 3 rfl rfl rfl hl.1 rfl (Nat.le_of_ble_eq_true rfl) ⟨Nat.zero_le _, Nat.zero_le _⟩ dX3_firstPair_67 ?_
                refine lv_if_ne (tgt := 97) hx hb dX3_firstPair_70 (by decide) (fun c25 => ?_) (fun c25 => ?_)
                · have hf := z_n c25 hf
                  obtain ⟨x26, hx26⟩ : ∃ y : Int32, y = (x9 + 1) := ⟨_, rfl⟩
                  have hf := z_let_u hx26 hf
                  refine lv_iinc (v := x26) (lv' := [(3, .int x26), (4, .int x18), (0, .ref (q 0)), (1, .int x8), (2, .int x2)]) hx hb dX3_firstPair_97 hl (k := 4) rfl (by rw [hx26]; rfl) (Nat.le_of_ble_eq_true rfl) rfl (fun ls hl => ?_)
                  refine lv_goto (tgt := 19) hx hb dX3_firstPair_100 (by decide) ?_
                  exact ih13 x8 x26 re10 hf _ _ ls  hP hD hS (lv_sub hl [2, 3, 4, 0] rfl)
                · have hf := z_p c25 hf
                  refine lv_aload_n hx hb dX3_firstPair_73 rfl (lv_at hl 1 rfl) ?_
                  refine va_get (D := D) (ci := 3) (v := .int (re_pairs re10)) (C := RX3) (T := TX3) (N := 10) hx hb htw WW_wsX30 hown hKX.1 hP 0 rfl rfl 7 (Nat.le_of_ble_eq_true rfl) (htw _ mF_RX3_58) (fun _ h9 => h9) rfl dX3_firstPair_74 ?_
                  have hj29 : ∀ (v27 : Int32), v27 = (if (re_pairs re10) = 0 then x18 else x8) → ∀ (H : Heap) (locs : List Loc) (ls : Array Slot), va_P D vwCl (reW ac q re10) H → va_D A (reW ac q re10) → va_S A s.heap H locs → lv_has ls 5 [(0, .ref (q 0)), (2, .int x2), (3, .int x9)] → W p l e ({ frames := 2, cells := 0, slots := 0, locals := 68 } : Room) s m (([.ref (q 0)] : List Value).toArray) below meth c H locs 0 0 (MQ below (va_Qi (fun r (_ : Unit) => r = res.1) (fun _ => zB D A (reW ac q res.2)) A) ([.ref (q 0)] : List Value).toArray s 0 0 A) (F0 m 86 ls [.int v27]) := by
                    intro v27 hv27 H locs ls hP hD hS hl
                    have hf := z_let_u hv27 hf
                    refine lv_istore_n (lv' := [(1, .int v27), (0, .ref (q 0)), (2, .int x2), (3, .int x9)]) hx hb dX3_firstPair_86 rfl hl (Nat.le_of_ble_eq_true rfl) rfl (fun ls hl => ?_)
                    refine lv_aload_n hx hb dX3_firstPair_87 rfl (lv_at hl 1 rfl) ?_
                    refine lv_dup hx hb dX3_firstPair_88 rfl ?_
                    refine va_get (D := D) (ci := 3) (v := .int (re_pairs re10)) (C := RX3) (T := TX3) (N := 10) hx hb htw WW_wsX30 hown hKX.1 hP 0 rfl rfl 7 (Nat.le_of_ble_eq_true rfl) (htw _ mF_RX3_58) (fun _ h9 => h9) rfl dX3_firstPair_89 ?_
                    refine lv_iconst (v := 1) hx hb dX3_firstPair_92 rfl ?_
                    refine lv_iadd hx hb dX3_firstPair_93 ?_
                    refine lv_topi (fun x31 hx31 => ?_)
                    have hf := z_let_u hx31 hf
                    refine va_put (D := D) (ci := 3) (v := .int x31) (ty := tyX3 7) (C := RX3) (T := TX3) (N := 10) hx hb htw WW_wsX30 tyX3 tyX3_ok nmX3 hown hKX.1 hP hD hS 0 rfl rfl 7 (Nat.le_of_ble_eq_true rfl) (htw _ mF_RX3_58) (fun _ h9 => h9) rfl (tyX3_ok 7 (Nat.le_of_ble_eq_true rfl)) rfl rfl (Nat.le_of_ble_eq_true rfl) dX3_firstPair_94 (fun H locs hP hD hS => ?_)
                    have hP : va_P D vwCl (reW ac q ((re_winsOfA re10), (re_winsOfB re10), (re_wholes re10), (re_bestOfA re10), (re_bestOfB re10), (re_rows re10), (re_known re10), x31, (re_rowOfA re10), (re_rowOfB re10))) H := hP
                    have hD : va_D A (reW ac q ((re_winsOfA re10), (re_winsOfB re10), (re_wholes re10), (re_bestOfA re10), (re_bestOfB re10), (re_rows re10), (re_known re10), x31, (re_rowOfA re10), (re_rowOfB re10))) := hD
                    obtain ⟨x32, hx32⟩ : ∃ y : Int32, y = (x9 + 1) := ⟨_, rfl⟩
                    have hf := z_let_u hx32 hf
                    refine lv_iinc (v := x32) (lv' := [(3, .int x32), (1, .int v27), (0, .ref (q 0)), (2, .int x2)]) hx hb dX3_firstPair_97 hl (k := 3) rfl (by rw [hx32]; rfl) (Nat.le_of_ble_eq_true rfl) rfl (fun ls hl => ?_)
                    refine lv_goto (tgt := 19) hx hb dX3_firstPair_100 (by decide) ?_
                    exact ih13 v27 x32 ((re_winsOfA re10), (re_winsOfB re10), (re_wholes re10), (re_bestOfA re10), (re_bestOfB re10), (re_rows re10), (re_known re10), x31, (re_rowOfA re10), (re_rowOfB re10)) hf _ _ ls  hP hD hS (lv_sub hl [2, 1, 3, 0] rfl)
                  refine lv_if_ne (tgt := 85) hx hb dX3_firstPair_77 (by decide) (fun c30 => ?_) (fun c30 => ?_)
                  · skip
                    refine lv_iload_n hx hb dX3_firstPair_85 rfl (lv_at hl 2 rfl) ?_
                    exact hj29 x8 (if_neg c30).symm _ _ ls hP hD hS (lv_sub hl [1, 3, 4] rfl)
                  · skip
                    refine lv_iload hx hb dX3_firstPair_80 (lv_at hl 0 rfl) ?_
                    refine lv_goto (tgt := 86) hx hb dX3_firstPair_82 (by decide) ?_
                    exact hj29 x18 (if_pos c30).symm _ _ ls hP hD hS (lv_sub hl [1, 3, 4] rfl)
        refine hL11 _ ?_ F x1 0 re3 hf _ _ ls  hP hD hS (lv_sub hl [1, 2, 3, 0] rfl)
        intro x15 re16 hf H locs ls hP hD hS hl
        obtain ⟨x33, hx33⟩ : ∃ y : Int32, y = (x2 + 1) := ⟨_, rfl⟩
        have hf := z_let_u hx33 hf
        refine lv_iinc (v := x33) (lv' := [(2, .int x33), (0, .ref (q 0)), (1, .int x15)]) hx hb dX3_firstPair_103 hl (k := 2) rfl (by rw [hx33]; rfl) (Nat.le_of_ble_eq_true rfl) rfl (fun ls hl => ?_)
        refine lv_goto (tgt := 9) hx hb dX3_firstPair_106 (by decide) ?_
        exact ih6 x15 x33 re16 hf _ _ ls  hP hD hS (lv_sub hl [1, 2, 0] rfl)
  refine hL4  F 0 0 ((re_winsOfA re), (re_winsOfB re), (re_wholes re), (re_bestOfA re), (re_bestOfB re), (re_rows re), (re_known re), 0, (re_rowOfA re), (re_rowOfB re)) hf _ _ ls  hP hD hS (lv_sub hl [2, 1, 0] rfl)

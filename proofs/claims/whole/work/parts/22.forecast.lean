theorem hd_yX0_winsOf : hdY yX0_winsOf 1 := by decide +kernel
def Fc_winsOf (fc : Fc) (a1 : Int32) : Int64 := if a1 = 0 then (fc_winsOfA fc) else (fc_winsOfB fc)
set_option maxHeartbeats 4000000 in
set_option maxRecDepth 100000 in
theorem ctX0_winsOf (l : Launch) (D : va_G) (ac cs : Nat → Nat) (q : Nat → Nat) (w1 w2 : Nat) (fc : Fc) (a1 : Int32) (res : Int64) (hf : Fc_winsOf fc a1 = res) : Met l yX0_winsOf (cWW yX0_winsOf cX0_winsOf 2 (some .long)) { frames := 0, cells := 0, slots := 0, locals := 0 } (zR D ac cs [.ref (q 0), .int a1] (fcW ac q w1 w2 fc)) (vp_Sl (fun r => r = res)) 0 0 (fun _ => False) := by
  refine Met.ofW (cc := cX0_winsOf) (maxL := 2) (ret := (some .long)) (by decide) rfl ?_
  intro p e s m args below meth c s₁ B hml hv
  obtain ⟨rfl, hP, hKX, hC⟩ := hv
  have hx := B.exec
  have hb := B.bytes
  have hr := B.returns
  have hts := atoms_spec (ws := cWW yX0_winsOf cX0_winsOf 2 (some .long)) B.pre
  have htw : ∀ w ∈ WW, w.before _ s = true := fun w h => hts w (List.mem_cons_of_mem _ h)
  have hown : s.vm.findClass RX0 = some m.cls := findClass_of_methodNamed B.named
  have hlocks := B.notSynchronized
  clear hts B
  have hS : va_S (fun _ => False) s.heap s.heap [] := va_S.rf
  have hl := lv_entry ([.ref (q 0), .int a1]) (n := 2) (Nat.le_of_ble_eq_true rfl)
  rw [lg_entry_eq]
  generalize (lg_sl ([.ref (q 0), .int a1]) ++ List.replicate (2 - (lg_sl ([.ref (q 0), .int a1])).length) Slot.unset).toArray = ls at hl ⊢
  have hl : lv_has ls 2 [(0, .ref (q 0)), (1, .int a1)] := hl
  unfold Fc_winsOf at hf
  show W p l e ({ frames := 0, cells := 0, slots := 0, locals := 0 } : Room) s m _ below meth c s.heap [] 0 0 _ (F0 m 0 ls [])
  refine lv_iload_n hx hb dX0_winsOf_0 rfl (lv_at hl 1 rfl) ?_
  refine lv_if_ne (tgt := 11) hx hb dX0_winsOf_1 (by decide) (fun c1 => ?_) (fun c1 => ?_)
  · have hf := z_n c1 hf
    refine lv_aload_n hx hb dX0_winsOf_11 rfl (lv_at hl 0 rfl) ?_
    refine va_get (D := D) (ci := 0) (v := .long (fc_winsOfB fc)) (C := RX0) (T := TX0) (N := 15) hx hb htw WW_wsX00 hown hKX.1 hP 0 rfl rfl 13 (Nat.le_of_ble_eq_true rfl) (htw _ mF_RX0_31) (fun _ h9 => h9) rfl dX0_winsOf_12 ?_
    exact zr_Rl hx hb hr hlocks hf dX0_winsOf_15
  · have hf := z_p c1 hf
    refine lv_aload_n hx hb dX0_winsOf_4 rfl (lv_at hl 0 rfl) ?_
    refine va_get (D := D) (ci := 0) (v := .long (fc_winsOfA fc)) (C := RX0) (T := TX0) (N := 15) hx hb htw WW_wsX00 hown hKX.1 hP 0 rfl rfl 12 (Nat.le_of_ble_eq_true rfl) (htw _ mF_RX0_28) (fun _ h9 => h9) rfl dX0_winsOf_5 ?_
    refine lv_goto (tgt := 15) hx hb dX0_winsOf_8 (by decide) ?_
    exact zr_Rl hx hb hr hlocks hf dX0_winsOf_15

theorem hd_yX0_gap : hdY yX0_gap 0 := by decide +kernel
def Fc_gap (fc : Fc) : Int64 := if (lg_cmp (fc_winsOfA fc) (fc_winsOfB fc)) ≤ 0 then ((fc_winsOfB fc) - (fc_winsOfA fc)) else ((fc_winsOfA fc) - (fc_winsOfB fc))
set_option maxHeartbeats 4000000 in
set_option maxRecDepth 100000 in
theorem ctX0_gap (l : Launch) (D : va_G) (ac cs : Nat → Nat) (q : Nat → Nat) (w1 w2 : Nat) (fc : Fc) (res : Int64) (hf : Fc_gap fc = res) : Met l yX0_gap (cWW yX0_gap cX0_gap 1 (some .long)) { frames := 0, cells := 0, slots := 0, locals := 0 } (zR D ac cs [.ref (q 0)] (fcW ac q w1 w2 fc)) (vp_Sl (fun r => r = res)) 0 0 (fun _ => False) := by
  refine Met.ofW (cc := cX0_gap) (maxL := 1) (ret := (some .long)) (by decide) rfl ?_
  intro p e s m args below meth c s₁ B hml hv
  obtain ⟨rfl, hP, hKX, hC⟩ := hv
  have hx := B.exec
  have hb := B.bytes
  have hr := B.returns
  have hts := atoms_spec (ws := cWW yX0_gap cX0_gap 1 (some .long)) B.pre
  have htw : ∀ w ∈ WW, w.before _ s = true := fun w h => hts w (List.mem_cons_of_mem _ h)
  have hown : s.vm.findClass RX0 = some m.cls := findClass_of_methodNamed B.named
  have hlocks := B.notSynchronized
  clear hts B
  have hS : va_S (fun _ => False) s.heap s.heap [] := va_S.rf
  have hl := lv_entry ([.ref (q 0)]) (n := 1) (Nat.le_of_ble_eq_true rfl)
  rw [lg_entry_eq]
  generalize (lg_sl ([.ref (q 0)]) ++ List.replicate (1 - (lg_sl ([.ref (q 0)])).length) Slot.unset).toArray = ls at hl ⊢
  have hl : lv_has ls 1 [(0, .ref (q 0))] := hl
  unfold Fc_gap at hf
  show W p l e ({ frames := 0, cells := 0, slots := 0, locals := 0 } : Room) s m _ below meth c s.heap [] 0 0 _ (F0 m 0 ls [])
  refine lv_aload_n hx hb dX0_gap_0 rfl (lv_at hl 0 rfl) ?_
  refine va_get (D := D) (ci := 0) (v := .long (fc_winsOfA fc)) (C := RX0) (T := TX0) (N := 15) hx hb htw WW_wsX00 hown hKX.1 hP 0 rfl rfl 12 (Nat.le_of_ble_eq_true rfl) (htw _ mF_RX0_28) (fun _ h9 => h9) rfl dX0_gap_1 ?_
  refine lv_aload_n hx hb dX0_gap_4 rfl (lv_at hl 0 rfl) ?_
  refine va_get (D := D) (ci := 0) (v := .long (fc_winsOfB fc)) (C := RX0) (T := TX0) (N := 15) hx hb htw WW_wsX00 hown hKX.1 hP 0 rfl rfl 13 (Nat.le_of_ble_eq_true rfl) (htw _ mF_RX0_31) (fun _ h9 => h9) rfl dX0_gap_5 ?_
  refine W.lcmp hx hb dX0_gap_8 ?_
  refine lv_if_le (tgt := 24) hx hb dX0_gap_9 (by decide) (fun c1 => ?_) (fun c1 => ?_)
  · have hf := z_p c1 hf
    refine lv_aload_n hx hb dX0_gap_24 rfl (lv_at hl 0 rfl) ?_
    refine va_get (D := D) (ci := 0) (v := .long (fc_winsOfB fc)) (C := RX0) (T := TX0) (N := 15) hx hb htw WW_wsX00 hown hKX.1 hP 0 rfl rfl 13 (Nat.le_of_ble_eq_true rfl) (htw _ mF_RX0_31) (fun _ h9 => h9) rfl dX0_gap_25 ?_
    refine lv_aload_n hx hb dX0_gap_28 rfl (lv_at hl 0 rfl) ?_
    refine va_get (D := D) (ci := 0) (v := .long (fc_winsOfA fc)) (C := RX0) (T := TX0) (N := 15) hx hb htw WW_wsX00 hown hKX.1 hP 0 rfl rfl 12 (Nat.le_of_ble_eq_true rfl) (htw _ mF_RX0_28) (fun _ h9 => h9) rfl dX0_gap_29 ?_
    refine lv_lsub hx hb dX0_gap_32 ?_
    exact zr_Rl hx hb hr hlocks hf dX0_gap_33
  · have hf := z_n c1 hf
    refine lv_aload_n hx hb dX0_gap_12 rfl (lv_at hl 0 rfl) ?_
    refine va_get (D := D) (ci := 0) (v := .long (fc_winsOfA fc)) (C := RX0) (T := TX0) (N := 15) hx hb htw WW_wsX00 hown hKX.1 hP 0 rfl rfl 12 (Nat.le_of_ble_eq_true rfl) (htw _ mF_RX0_28) (fun _ h9 => h9) rfl dX0_gap_13 ?_
    refine lv_aload_n hx hb dX0_gap_16 rfl (lv_at hl 0 rfl) ?_
    refine va_get (D := D) (ci := 0) (v := .long (fc_winsOfB fc)) (C := RX0) (T := TX0) (N := 15) hx hb htw WW_wsX00 hown hKX.1 hP 0 rfl rfl 13 (Nat.le_of_ble_eq_true rfl) (htw _ mF_RX0_31) (fun _ h9 => h9) rfl dX0_gap_17 ?_
    refine lv_lsub hx hb dX0_gap_20 ?_
    refine lv_goto (tgt := 33) hx hb dX0_gap_21 (by decide) ?_
    exact zr_Rl hx hb hr hlocks hf dX0_gap_33

theorem hd_yX0_oddsAgainst : hdY yX0_oddsAgainst 2 := by decide +kernel
def Fc_oddsAgainst (F : Nat) (fc : Fc) (fo : Fr) (a1 : Int32) : Option (Int32) := z_bd (Fr_compareFractions F (Fc_winsOf fc a1) (fc_whole fc) (fr_up fo) (fr_low fo)) (fun r1 : Int32 => some r1)
set_option maxHeartbeats 4000000 in
set_option maxRecDepth 100000 in
theorem ctX0_oddsAgainst (l : Launch) (D : va_G) (ac cs : Nat → Nat) (q : Nat → Nat) (w1 w2 : Nat) (qo : Nat → Nat) (fc : Fc) (fo : Fr) (a1 : Int32) (F : Nat) (res : Int32) (hf : Fc_oddsAgainst F fc fo a1 = some res) : Met l yX0_oddsAgainst (cWW yX0_oddsAgainst cX0_oddsAgainst 3 (some .int)) { frames := 1, cells := 0, slots := 0, locals := 45 } (zR D ac cs [.ref (q 0), .int a1, .ref (qo 0)] (fcW ac q w1 w2 fc ++ (frW ac qo fo))) (vp_Si (fun r => r = res)) 0 0 (fun _ => False) := by
  refine Met.ofW (cc := cX0_oddsAgainst) (maxL := 3) (ret := (some .int)) (by decide) rfl ?_
  intro p e s m args below meth c s₁ B hml hv
  obtain ⟨rfl, hP, hKX, hC⟩ := hv
  have hx := B.exec
  have hb := B.bytes
  have hr := B.returns
  have hts := atoms_spec (ws := cWW yX0_oddsAgainst cX0_oddsAgainst 3 (some .int)) B.pre
  have htw : ∀ w ∈ WW, w.before _ s = true := fun w h => hts w (List.mem_cons_of_mem _ h)
  have hown : s.vm.findClass RX0 = some m.cls := findClass_of_methodNamed B.named
  have hlocks := B.notSynchronized
  clear hts B
  have hS : va_S (fun _ => False) s.heap s.heap [] := va_S.rf
  have hl := lv_entry ([.ref (q 0), .int a1, .ref (qo 0)]) (n := 3) (Nat.le_of_ble_eq_true rfl)
  rw [lg_entry_eq]
  generalize (lg_sl ([.ref (q 0), .int a1, .ref (qo 0)]) ++ List.replicate (3 - (lg_sl ([.ref (q 0), .int a1, .ref (qo 0)])).length) Slot.unset).toArray = ls at hl ⊢
  have hl : lv_has ls 3 [(0, .ref (q 0)), (1, .int a1), (2, .ref (qo 0))] := hl
  unfold Fc_oddsAgainst at hf
  show W p l e ({ frames := 1, cells := 0, slots := 0, locals := 45 } : Room) s m _ below meth c s.heap [] 0 0 _ (F0 m 0 ls [])
  refine lv_aload_n hx hb dX0_oddsAgainst_0 rfl (lv_at hl 0 rfl) ?_
  refine lv_iload_n hx hb dX0_oddsAgainst_1 rfl (lv_at hl 1 rfl) ?_
  refine zc_RVl (As := [.int a1]) (rest := []) hx hb hml hown htw (ctX0_winsOf l D ac cs q w1 w2 fc a1   _ rfl) (g_V mM_RX0_34 mI_yX0_winsOf mS_RX0_yX0_winsOf_yX0_winsOf mN_RX0 mC_yX0_winsOf) rfl (hd_yX0_winsOf) ⟨rfl, rfl⟩ ⟨(Nat.le_of_ble_eq_true rfl), (Nat.le_of_ble_eq_true rfl)⟩ hKX hC hS (hP.sub [0, 1, 2, 3, 4] rfl) 0 rfl rfl rfl hl.1 rfl (Nat.le_of_ble_eq_true rfl) ⟨Nat.zero_le _, Nat.zero_le _⟩ dX0_oddsAgainst_2 ?_
  refine lv_aload_n hx hb dX0_oddsAgainst_5 rfl (lv_at hl 0 rfl) ?_
  refine va_get (D := D) (ci := 0) (v := .long (fc_whole fc)) (C := RX0) (T := TX0) (N := 15) hx hb htw WW_wsX00 hown hKX.1 hP 0 rfl rfl 14 (Nat.le_of_ble_eq_true rfl) (htw _ mF_RX0_24) (fun _ h9 => h9) rfl dX0_oddsAgainst_6 ?_
  refine lv_aload_n hx hb dX0_oddsAgainst_9 rfl (lv_at hl 2 rfl) ?_
  refine va_getN (D := D) (ci := 1) (v := .long (fr_up fo)) (C := RX1) (T := TX1) (N := 2) hx hb htw WW_wsX10 hown hKX.1 hP 5 rfl rfl 0 (Nat.le_of_ble_eq_true rfl) (va_Nw.use rfl (hKX.2 _ (List.mem_of_getElem? (i := 20) rfl))) (fun _ h9 => h9) rfl dX0_oddsAgainst_10 ?_
  refine lv_aload_n hx hb dX0_oddsAgainst_13 rfl (lv_at hl 2 rfl) ?_
  refine va_getN (D := D) (ci := 1) (v := .long (fr_low fo)) (C := RX1) (T := TX1) (N := 2) hx hb htw WW_wsX10 hown hKX.1 hP 5 rfl rfl 1 (Nat.le_of_ble_eq_true rfl) (va_Nw.use rfl (hKX.2 _ (List.mem_of_getElem? (i := 22) rfl))) (fun _ h9 => h9) rfl dX0_oddsAgainst_14 ?_
  obtain ⟨r1, hr1, hf⟩ := z_bd_u hf
  refine zc_RSi (As := [.long (Fc_winsOf fc a1), .long (fc_whole fc), .long (fr_up fo), .long (fr_low fo)]) (rest := []) hx hb hml hown htw (ctX1_compareFractions l D ac cs   (Fc_winsOf fc a1) (fc_whole fc) (fr_up fo) (fr_low fo)   F _ hr1) (g_S mM_RX0_46 mT_yX1_compareFractions mN_RX1 mC_yX1_compareFractions) (hd_yX1_compareFractions) ⟨rfl, rfl⟩ ⟨(Nat.le_of_ble_eq_true rfl), (Nat.le_of_ble_eq_true rfl)⟩ hKX hC hS zP0 rfl hl.1 rfl (Nat.le_of_ble_eq_true rfl) ⟨Nat.zero_le _, Nat.zero_le _⟩ dX0_oddsAgainst_17 ?_
  exact zr_Ri hx hb hr hlocks (Option.some.inj hf) dX0_oddsAgainst_20

theorem hd_yX0_endsAt : hdY yX0_endsAt 1 := by decide +kernel
def Fc_endsAt (fc : Fc) (a1 : Int32) : Int64 := if a1 < 0 then 0 else (if 11 ≤ a1 then 0 else ((fc_endWays fc) a1.toNatClampNeg))
set_option maxHeartbeats 4000000 in
set_option maxRecDepth 100000 in
theorem ctX0_endsAt (l : Launch) (D : va_G) (ac cs : Nat → Nat) (q : Nat → Nat) (w1 w2 : Nat) (fc : Fc) (a1 : Int32) (res : Int64) (hf : Fc_endsAt fc a1 = res) : Met l yX0_endsAt (cWW yX0_endsAt cX0_endsAt 2 (some .long)) { frames := 0, cells := 0, slots := 0, locals := 0 } (zR D ac cs [.ref (q 0), .int a1] (fcW ac q w1 w2 fc)) (vp_Sl (fun r => r = res)) 0 0 (fun _ => False) := by
  refine Met.ofW (cc := cX0_endsAt) (maxL := 2) (ret := (some .long)) (by decide) rfl ?_
  intro p e s m args below meth c s₁ B hml hv
  obtain ⟨rfl, hP, hKX, hC⟩ := hv
  have hx := B.exec
  have hb := B.bytes
  have hr := B.returns
  have hts := atoms_spec (ws := cWW yX0_endsAt cX0_endsAt 2 (some .long)) B.pre
  have htw : ∀ w ∈ WW, w.before _ s = true := fun w h => hts w (List.mem_cons_of_mem _ h)
  have hown : s.vm.findClass RX0 = some m.cls := findClass_of_methodNamed B.named
  have hlocks := B.notSynchronized
  clear hts B
  have hS : va_S (fun _ => False) s.heap s.heap [] := va_S.rf
  have hl := lv_entry ([.ref (q 0), .int a1]) (n := 2) (Nat.le_of_ble_eq_true rfl)
  rw [lg_entry_eq]
  generalize (lg_sl ([.ref (q 0), .int a1]) ++ List.replicate (2 - (lg_sl ([.ref (q 0), .int a1])).length) Slot.unset).toArray = ls at hl ⊢
  have hl : lv_has ls 2 [(0, .ref (q 0)), (1, .int a1)] := hl
  unfold Fc_endsAt at hf
  show W p l e ({ frames := 0, cells := 0, slots := 0, locals := 0 } : Room) s m _ below meth c s.heap [] 0 0 _ (F0 m 0 ls [])
  refine lv_iload_n hx hb dX0_endsAt_0 rfl (lv_at hl 1 rfl) ?_
  refine lv_if_lt (tgt := 22) hx hb dX0_endsAt_1 (by decide) (fun c1 => ?_) (fun c1 => ?_)
  · have hf := z_p c1 hf
    refine lv_lconst (v := 0) hx hb dX0_endsAt_22 rfl ?_
    exact zr_Rl hx hb hr hlocks hf dX0_endsAt_23
  · have hf := z_n c1 hf
    refine lv_iload_n hx hb dX0_endsAt_4 rfl (lv_at hl 1 rfl) ?_
    refine lv_aload_n hx hb dX0_endsAt_5 rfl (lv_at hl 0 rfl) ?_
    refine va_get (D := D) (ci := 0) (v := .ref (q 1)) (C := RX0) (T := TX0) (N := 15) hx hb htw WW_wsX00 hown hKX.1 hP 0 rfl rfl 0 (Nat.le_of_ble_eq_true rfl) (htw _ mF_RX0_9) (fun _ h9 => h9) rfl dX0_endsAt_6 ?_
    refine va_alen hx hb hKX.1 hP 1 1 rfl rfl (v := 11) rfl dX0_endsAt_9 ?_
    refine lv_icmp_ge (tgt := 22) hx hb dX0_endsAt_10 (by decide) (fun c2 => ?_) (fun c2 => ?_)
    · have hf := z_p c2 hf
      refine lv_lconst (v := 0) hx hb dX0_endsAt_22 rfl ?_
      exact zr_Rl hx hb hr hlocks hf dX0_endsAt_23
    · have hf := z_n c2 hf
      refine lv_aload_n hx hb dX0_endsAt_13 rfl (lv_at hl 0 rfl) ?_
      refine va_get (D := D) (ci := 0) (v := .ref (q 1)) (C := RX0) (T := TX0) (N := 15) hx hb htw WW_wsX00 hown hKX.1 hP 0 rfl rfl 0 (Nat.le_of_ble_eq_true rfl) (htw _ mF_RX0_9) (fun _ h9 => h9) rfl dX0_endsAt_14 ?_
      refine lv_iload_n hx hb dX0_endsAt_17 rfl (lv_at hl 1 rfl) ?_
      refine va_lald hx hb hKX.1 hP 1 1 rfl rfl (z_in_c rfl (Nat.le_of_ble_eq_true rfl) c1 c2) dX0_endsAt_18 ?_
      refine lv_goto (tgt := 23) hx hb dX0_endsAt_19 (by decide) ?_
      exact zr_Rl hx hb hr hlocks hf dX0_endsAt_23

theorem hd_yX0_scoreAt : hdY yX0_scoreAt 2 := by decide +kernel
def Fc_scoreAt (fc : Fc) (a1 : Int32) (a2 : Int32) : Int64 := z_let ((a1 * 6) + a2) (fun x1 : Int32 => if x1 < 0 then 0 else (if 36 ≤ x1 then 0 else ((fc_scoreWays fc) x1.toNatClampNeg)))
set_option maxHeartbeats 4000000 in
set_option maxRecDepth 100000 in
theorem ctX0_scoreAt (l : Launch) (D : va_G) (ac cs : Nat → Nat) (q : Nat → Nat) (w1 w2 : Nat) (fc : Fc) (a1 : Int32) (a2 : Int32) (res : Int64) (hf : Fc_scoreAt fc a1 a2 = res) : Met l yX0_scoreAt (cWW yX0_scoreAt cX0_scoreAt 4 (some .long)) { frames := 0, cells := 0, slots := 0, locals := 0 } (zR D ac cs [.ref (q 0), .int a1, .int a2] (fcW ac q w1 w2 fc)) (vp_Sl (fun r => r = res)) 0 0 (fun _ => False) := by
  refine Met.ofW (cc := cX0_scoreAt) (maxL := 4) (ret := (some .long)) (by decide) rfl ?_
  intro p e s m args below meth c s₁ B hml hv
  obtain ⟨rfl, hP, hKX, hC⟩ := hv
  have hx := B.exec
  have hb := B.bytes
  have hr := B.returns
  have hts := atoms_spec (ws := cWW yX0_scoreAt cX0_scoreAt 4 (some .long)) B.pre
  have htw : ∀ w ∈ WW, w.before _ s = true := fun w h => hts w (List.mem_cons_of_mem _ h)
  have hown : s.vm.findClass RX0 = some m.cls := findClass_of_methodNamed B.named
  have hlocks := B.notSynchronized
  clear hts B
  have hS : va_S (fun _ => False) s.heap s.heap [] := va_S.rf
  have hl := lv_entry ([.ref (q 0), .int a1, .int a2]) (n := 4) (Nat.le_of_ble_eq_true rfl)
  rw [lg_entry_eq]
  generalize (lg_sl ([.ref (q 0), .int a1, .int a2]) ++ List.replicate (4 - (lg_sl ([.ref (q 0), .int a1, .int a2])).length) Slot.unset).toArray = ls at hl ⊢
  have hl : lv_has ls 4 [(0, .ref (q 0)), (1, .int a1), (2, .int a2)] := hl
  unfold Fc_scoreAt at hf
  show W p l e ({ frames := 0, cells := 0, slots := 0, locals := 0 } : Room) s m _ below meth c s.heap [] 0 0 _ (F0 m 0 ls [])
  refine lv_iload_n hx hb dX0_scoreAt_0 rfl (lv_at hl 1 rfl) ?_
  refine lv_bipush (v := 6) hx hb dX0_scoreAt_1 rfl ?_
  refine lv_imul hx hb dX0_scoreAt_3 ?_
  refine lv_iload_n hx hb dX0_scoreAt_4 rfl (lv_at hl 2 rfl) ?_
  refine lv_iadd hx hb dX0_scoreAt_5 ?_
  refine lv_topi (fun x1 hx1 => ?_)
  have hf := z_let_u hx1 hf
  refine lv_istore_n (lv' := [(3, .int x1), (0, .ref (q 0)), (1, .int a1), (2, .int a2)]) hx hb dX0_scoreAt_6 rfl hl (Nat.le_of_ble_eq_true rfl) rfl (fun ls hl => ?_)
  refine lv_iload_n hx hb dX0_scoreAt_7 rfl (lv_at hl 0 rfl) ?_
  refine lv_if_lt (tgt := 29) hx hb dX0_scoreAt_8 (by decide) (fun c2 => ?_) (fun c2 => ?_)
  · have hf := z_p c2 hf
    refine lv_lconst (v := 0) hx hb dX0_scoreAt_29 rfl ?_
    exact zr_Rl hx hb hr hlocks hf dX0_scoreAt_30
  · have hf := z_n c2 hf
    refine lv_iload_n hx hb dX0_scoreAt_11 rfl (lv_at hl 0 rfl) ?_
    refine lv_aload_n hx hb dX0_scoreAt_12 rfl (lv_at hl 1 rfl) ?_
    refine va_get (D := D) (ci := 0) (v := .ref (q 2)) (C := RX0) (T := TX0) (N := 15) hx hb htw WW_wsX00 hown hKX.1 hP 0 rfl rfl 1 (Nat.le_of_ble_eq_true rfl) (htw _ mF_RX0_15) (fun _ h9 => h9) rfl dX0_scoreAt_13 ?_
    refine va_alen hx hb hKX.1 hP 2 1 rfl rfl (v := 36) rfl dX0_scoreAt_16 ?_
    refine lv_icmp_ge (tgt := 29) hx hb dX0_scoreAt_17 (by decide) (fun c3 => ?_) (fun c3 => ?_)
    · have hf := z_p c3 hf
      refine lv_lconst (v := 0) hx hb dX0_scoreAt_29 rfl ?_
      exact zr_Rl hx hb hr hlocks hf dX0_scoreAt_30
    · have hf := z_n c3 hf
      refine lv_aload_n hx hb dX0_scoreAt_20 rfl (lv_at hl 1 rfl) ?_
      refine va_get (D := D) (ci := 0) (v := .ref (q 2)) (C := RX0) (T := TX0) (N := 15) hx hb htw WW_wsX00 hown hKX.1 hP 0 rfl rfl 1 (Nat.le_of_ble_eq_true rfl) (htw _ mF_RX0_15) (fun _ h9 => h9) rfl dX0_scoreAt_21 ?_
      refine lv_iload_n hx hb dX0_scoreAt_24 rfl (lv_at hl 0 rfl) ?_
      refine va_lald hx hb hKX.1 hP 2 1 rfl rfl (z_in_c rfl (Nat.le_of_ble_eq_true rfl) c2 c3) dX0_scoreAt_25 ?_
      refine lv_goto (tgt := 30) hx hb dX0_scoreAt_26 (by decide) ?_
      exact zr_Rl hx hb hr hlocks hf dX0_scoreAt_30

theorem hd_yX0_at : hdY yX0_at 3 := by decide +kernel
def Fc_at (a1 : Int32) (a2 : Int32) (a3 : Int32) : Int32 := (((((a1 * 11) + a2) + 5) * 2) + a3)
set_option maxHeartbeats 4000000 in
set_option maxRecDepth 100000 in
theorem ctX0_at (l : Launch) (D : va_G) (ac cs : Nat → Nat) (a1 : Int32) (a2 : Int32) (a3 : Int32) (res : Int32) (hf : Fc_at a1 a2 a3 = res) : Met l yX0_at (cWW yX0_at cX0_at 3 (some .int)) { frames := 0, cells := 0, slots := 0, locals := 0 } (zR D ac cs [.int a1, .int a2, .int a3] ([])) (vp_Si (fun r => r = res)) 0 0 (fun _ => False) := by
  refine Met.ofW (cc := cX0_at) (maxL := 3) (ret := (some .int)) (by decide) rfl ?_
  intro p e s m args below meth c s₁ B hml hv
  obtain ⟨rfl, hP, hKX, hC⟩ := hv
  have hx := B.exec
  have hb := B.bytes
  have hr := B.returns
  have hts := atoms_spec (ws := cWW yX0_at cX0_at 3 (some .int)) B.pre
  have htw : ∀ w ∈ WW, w.before _ s = true := fun w h => hts w (List.mem_cons_of_mem _ h)
  have hown : s.vm.findClass RX0 = some m.cls := findClass_of_methodNamed B.named
  have hlocks := B.notSynchronized
  clear hts B
  have hS : va_S (fun _ => False) s.heap s.heap [] := va_S.rf
  have hl := lv_entry ([.int a1, .int a2, .int a3]) (n := 3) (Nat.le_of_ble_eq_true rfl)
  rw [lg_entry_eq]
  generalize (lg_sl ([.int a1, .int a2, .int a3]) ++ List.replicate (3 - (lg_sl ([.int a1, .int a2, .int a3])).length) Slot.unset).toArray = ls at hl ⊢
  have hl : lv_has ls 3 [(0, .int a1), (1, .int a2), (2, .int a3)] := hl
  unfold Fc_at at hf
  show W p l e ({ frames := 0, cells := 0, slots := 0, locals := 0 } : Room) s m _ below meth c s.heap [] 0 0 _ (F0 m 0 ls [])
  refine lv_iload_n hx hb dX0_at_0 rfl (lv_at hl 0 rfl) ?_
  refine lv_bipush (v := 11) hx hb dX0_at_1 rfl ?_
  refine lv_imul hx hb dX0_at_3 ?_
  refine lv_iload_n hx hb dX0_at_4 rfl (lv_at hl 1 rfl) ?_
  refine lv_iadd hx hb dX0_at_5 ?_
  refine lv_iconst (v := 5) hx hb dX0_at_6 rfl ?_
  refine lv_iadd hx hb dX0_at_7 ?_
  refine lv_iconst (v := 2) hx hb dX0_at_8 rfl ?_
  refine lv_imul hx hb dX0_at_9 ?_
  refine lv_iload_n hx hb dX0_at_10 rfl (lv_at hl 2 rfl) ?_
  refine lv_iadd hx hb dX0_at_11 ?_
  exact zr_Ri hx hb hr hlocks hf dX0_at_12

theorem hd_yX0_add : hdY yX0_add 3 := by decide +kernel
def Fc_add (w : Nat → Int64) (n : Nat) (a2 : Int32) (a3 : Int64) : (Nat → Int64) := if a2 < 0 then w else (if (Int32.ofNat n) ≤ a2 then w else (z_let ((w a2.toNatClampNeg) + a3) (fun x3 : Int64 => (vp_updL w a2.toNatClampNeg x3))))
set_option maxHeartbeats 4000000 in
set_option maxRecDepth 100000 in
theorem ctX0_add (l : Launch) (D : va_G) (ac cs : Nat → Nat) (qa : Nat) (n : Nat) (hn : n < 2 ^ 31) (sz : Nat) (w : Nat → Int64) (a2 : Int32) (a3 : Int64) (res : (Nat → Int64)) (hf : Fc_add w n a2 a3 = res) : Met l yX0_add (cWW yX0_add cX0_add 4 none) { frames := 0, cells := 0, slots := 0, locals := 0 } (zM D ac cs [.ref (qa), .int a2, .long a3] (ajW ac qa n w) sz) (va_Qv (fun _ : Unit => True) (fun _ => zB D (va_A (ajW ac qa n w) sz) (ajW ac qa n res)) (va_A (ajW ac qa n w) sz)) 0 0 (va_A (ajW ac qa n w) sz) := by
  refine Met.ofW (cc := cX0_add) (maxL := 4) (ret := none) (by decide) rfl ?_
  intro p e s m args below meth c s₁ B hml hv
  obtain ⟨rfl, hsz, hP, hKX, hD0, hC⟩ := hv
  have hx := B.exec
  have hb := B.bytes
  have hr := B.returns
  have hts := atoms_spec (ws := cWW yX0_add cX0_add 4 none) B.pre
  have htw : ∀ w ∈ WW, w.before _ s = true := fun w h => hts w (List.mem_cons_of_mem _ h)
  have hown : s.vm.findClass RX0 = some m.cls := findClass_of_methodNamed B.named
  have hlocks := B.notSynchronized
  clear hts B
  subst hsz
  have hD := hD0.self (sz := s.heap.size)
  generalize hAe : va_A (ajW ac qa n w) s.heap.size = A at hD hC ⊢
  have hA : ∀ q : Nat, s.heap.size ≤ q → A q := fun q h => by rw [← hAe]; exact Or.inr h
  have hS : va_S A s.heap s.heap [] := va_S.rf
  clear hD0 hAe
  have hP : va_P D vwCl (ajW ac qa n w) s.heap := hP
  have hl := lv_entry ([.ref (qa), .int a2, .long a3]) (n := 4) (Nat.le_of_ble_eq_true rfl)
  rw [lg_entry_eq]
  generalize (lg_sl ([.ref (qa), .int a2, .long a3]) ++ List.replicate (4 - (lg_sl ([.ref (qa), .int a2, .long a3])).length) Slot.unset).toArray = ls at hl ⊢
  have hl : lv_has ls 4 [(0, .ref (qa)), (1, .int a2), (2, .long a3)] := hl
  unfold Fc_add at hf
  show W p l e ({ frames := 0, cells := 0, slots := 0, locals := 0 } : Room) s m _ below meth c s.heap [] 0 0 _ (F0 m 0 ls [])
  refine lv_iload_n hx hb dX0_add_0 rfl (lv_at hl 1 rfl) ?_
  refine lv_if_lt (tgt := 17) hx hb dX0_add_1 (by decide) (fun c1 => ?_) (fun c1 => ?_)
  · have hf := z_p c1 hf
    subst hf
    exact zr_Mv hx hb hr hlocks hP hD hS dX0_add_17
  · have hf := z_n c1 hf
    refine lv_iload_n hx hb dX0_add_4 rfl (lv_at hl 1 rfl) ?_
    refine lv_aload_n hx hb dX0_add_5 rfl (lv_at hl 0 rfl) ?_
    refine va_alen hx hb hKX.1 hP 0 1 rfl rfl (v := (Int32.ofNat n)) rfl dX0_add_6 ?_
    refine lv_icmp_ge (tgt := 17) hx hb dX0_add_7 (by decide) (fun c2 => ?_) (fun c2 => ?_)
    · have hf := z_p c2 hf
      subst hf
      exact zr_Mv hx hb hr hlocks hP hD hS dX0_add_17
    · have hf := z_n c2 hf
      refine lv_aload_n hx hb dX0_add_10 rfl (lv_at hl 0 rfl) ?_
      refine lv_iload_n hx hb dX0_add_11 rfl (lv_at hl 1 rfl) ?_
      refine lv_dup2_11 hx hb dX0_add_12 rfl rfl ?_
      refine va_lald hx hb hKX.1 hP 0 1 rfl rfl (z_in_c rfl hn c1 c2) dX0_add_13 ?_
      refine lv_lload_n hx hb dX0_add_14 rfl (lv_at hl 2 rfl) ?_
      refine lv_ladd hx hb dX0_add_15 ?_
      refine lv_topl (fun x3 hx3 => ?_)
      have hf := z_let_u hx3 hf
      refine va_last hx hb hKX.1 hP hD hS 0 1 rfl rfl (z_in_c rfl hn c1 c2) dX0_add_16 (fun H locs hP hD hS => ?_)
      have hP : va_P D vwCl (ajW ac qa n (vp_updL w a2.toNatClampNeg x3)) H := hP
      have hD : va_D A (ajW ac qa n (vp_updL w a2.toNatClampNeg x3)) := hD
      subst hf
      exact zr_Mv hx hb hr hlocks hP hD hS dX0_add_17

theorem hd_yX0_addScore : hdY yX0_addScore 3 := by decide +kernel
def Fc_addScore (fc : Fc) (a1 : Int32) (a2 : Int32) (a3 : Int64) : Fc := if (fc_grow fc) ≤ 0 then fc else (z_let (Fc_add (fc_scoreWays fc) 36 (((a1 * 6) + a1) - a2) a3) (fun u2 : (Nat → Int64) => ((fc_endWays fc), u2, (fc_ways fc), (fc_waysBehind fc), (fc_grow fc), (fc_last fc), (fc_wonByA fc), (fc_wonByB fc), (fc_level fc), (fc_endlessA fc), (fc_endlessB fc), (fc_endless fc), (fc_winsOfA fc), (fc_winsOfB fc), (fc_whole fc))))
set_option maxHeartbeats 4000000 in
set_option maxRecDepth 100000 in
theorem ctX0_addScore (l : Launch) (D : va_G) (ac cs : Nat → Nat) (q : Nat → Nat) (w1 w2 : Nat) (sz : Nat) (fc : Fc) (a1 : Int32) (a2 : Int32) (a3 : Int64) (res : Fc) (hf : Fc_addScore fc a1 a2 a3 = res) : Met l yX0_addScore (cWW yX0_addScore cX0_addScore 5 none) { frames := 1, cells := 0, slots := 0, locals := 23 } (zM D ac cs [.ref (q 0), .int a1, .int a2, .long a3] (fcW ac q w1 w2 fc) sz) (va_Qv (fun _ : Unit => True) (fun _ => zB D (va_A (fcW ac q w1 w2 fc) sz) (fcW ac q w1 w2 res)) (va_A (fcW ac q w1 w2 fc) sz)) 0 0 (va_A (fcW ac q w1 w2 fc) sz) := by
  refine Met.ofW (cc := cX0_addScore) (maxL := 5) (ret := none) (by decide) rfl ?_
  intro p e s m args below meth c s₁ B hml hv
  obtain ⟨rfl, hsz, hP, hKX, hD0, hC⟩ := hv
  have hx := B.exec
  have hb := B.bytes
  have hr := B.returns
  have hts := atoms_spec (ws := cWW yX0_addScore cX0_addScore 5 none) B.pre
  have htw : ∀ w ∈ WW, w.before _ s = true := fun w h => hts w (List.mem_cons_of_mem _ h)
  have hown : s.vm.findClass RX0 = some m.cls := findClass_of_methodNamed B.named
  have hlocks := B.notSynchronized
  clear hts B
  subst hsz
  have hD := hD0.self (sz := s.heap.size)
  generalize hAe : va_A (fcW ac q w1 w2 fc) s.heap.size = A at hD hC ⊢
  have hA : ∀ q : Nat, s.heap.size ≤ q → A q := fun q h => by rw [← hAe]; exact Or.inr h
  have hS : va_S A s.heap s.heap [] := va_S.rf
  clear hD0 hAe
  have hP : va_P D vwCl (fcW ac q w1 w2 fc) s.heap := hP
  have hl := lv_entry ([.ref (q 0), .int a1, .int a2, .long a3]) (n := 5) (Nat.le_of_ble_eq_true rfl)
  rw [lg_entry_eq]
  generalize (lg_sl ([.ref (q 0), .int a1, .int a2, .long a3]) ++ List.replicate (5 - (lg_sl ([.ref (q 0), .int a1, .int a2, .long a3])).length) Slot.unset).toArray = ls at hl ⊢
  have hl : lv_has ls 5 [(0, .ref (q 0)), (1, .int a1), (2, .int a2), (3, .long a3)] := hl
  unfold Fc_addScore at hf
  show W p l e ({ frames := 1, cells := 0, slots := 0, locals := 23 } : Room) s m _ below meth c s.heap [] 0 0 _ (F0 m 0 ls [])
  refine lv_aload_n hx hb dX0_addScore_0 rfl (lv_at hl 0 rfl) ?_
  refine va_get (D := D) (ci := 0) (v := .int (fc_grow fc)) (C := RX0) (T := TX0) (N := 15) hx hb htw WW_wsX00 hown hKX.1 hP 0 rfl rfl 4 (Nat.le_of_ble_eq_true rfl) (htw _ mF_RX0_125) (fun _ h9 => h9) rfl dX0_addScore_1 ?_
  refine lv_if_le (tgt := 23) hx hb dX0_addScore_4 (by decide) (fun c1 => ?_) (fun c1 => ?_)
  · have hf := z_p c1 hf
    subst hf
    exact zr_Mv hx hb hr hlocks hP hD hS dX0_addScore_23
  · have hf := z_n c1 hf
    refine lv_aload_n hx hb dX0_addScore_7 rfl (lv_at hl 0 rfl) ?_
    refine va_get (D := D) (ci := 0) (v := .ref (q 2)) (C := RX0) (T := TX0) (N := 15) hx hb htw WW_wsX00 hown hKX.1 hP 0 rfl rfl 1 (Nat.le_of_ble_eq_true rfl) (htw _ mF_RX0_15) (fun _ h9 => h9) rfl dX0_addScore_8 ?_
    refine lv_iload_n hx hb dX0_addScore_11 rfl (lv_at hl 1 rfl) ?_
    refine lv_bipush (v := 6) hx hb dX0_addScore_12 rfl ?_
    refine lv_imul hx hb dX0_addScore_14 ?_
    refine lv_iload_n hx hb dX0_addScore_15 rfl (lv_at hl 1 rfl) ?_
    refine lv_iadd hx hb dX0_addScore_16 ?_
    refine lv_iload_n hx hb dX0_addScore_17 rfl (lv_at hl 2 rfl) ?_
    refine lv_isub hx hb dX0_addScore_18 ?_
    refine lv_lload_n hx hb dX0_addScore_19 rfl (lv_at hl 3 rfl) ?_
    obtain ⟨u2, hu2⟩ : ∃ y : (Nat → Int64), y = Fc_add (fc_scoreWays fc) 36 (((a1 * 6) + a1) - a2) a3 := ⟨_, rfl⟩
    have hf := z_let_u hu2 hf
    refine zc_MSv (As := [.ref (q 2), .int (((a1 * 6) + a1) - a2), .long a3]) (rest := []) (wr := [(q 0, .inr (0, [.ref (q 1), .ref (q 2), .ref (w1), .ref (w2), .int (fc_grow fc), .int (fc_last fc), .long (fc_wonByA fc), .long (fc_wonByB fc), .long (fc_level fc), .long (fc_endlessA fc), .long (fc_endlessB fc), .long (fc_endless fc), .long (fc_winsOfA fc), .long (fc_winsOfB fc), .long (fc_whole fc)])), (q 1, .inl (ac 1, 11, .inr (.inl (fc_endWays fc)))), (w1, .inl (ac 1, 132, .inr (.inl (fc_ways fc)))), (w2, .inl (ac 1, 132, .inr (.inl (fc_waysBehind fc))))]) (wsc := ajW ac (q 2) 36 (fc_scoreWays fc)) (wsc' := ajW ac (q 2) 36 u2) hx hb hml hown htw (ctX0_add l D ac cs (q 2) 36 (by decide) s.heap.size (fc_scoreWays fc) (((a1 * 6) + a1) - a2) a3   u2 hu2.symm) (g_S mM_RX0_137 mT_yX0_add mN_RX0 mC_yX0_add) (hd_yX0_add) ⟨rfl, rfl⟩ ⟨(Nat.le_of_ble_eq_true rfl), (Nat.le_of_ble_eq_true rfl)⟩ hKX hC hS hA hP hD [2] [0, 1, 3, 4] rfl (by decide) rfl (by decide) (by decide) rfl hl.1 rfl (Nat.le_of_ble_eq_true rfl) ⟨Nat.zero_le _, Nat.zero_le _⟩ dX0_addScore_20 (fun H locs hP hD hS => ?_)
    have hP : va_P D vwCl (fcW ac q w1 w2 ((fc_endWays fc), u2, (fc_ways fc), (fc_waysBehind fc), (fc_grow fc), (fc_last fc), (fc_wonByA fc), (fc_wonByB fc), (fc_level fc), (fc_endlessA fc), (fc_endlessB fc), (fc_endless fc), (fc_winsOfA fc), (fc_winsOfB fc), (fc_whole fc))) H := hP.sub [0, 1, 4, 2, 3] rfl
    have hD : va_D A (fcW ac q w1 w2 ((fc_endWays fc), u2, (fc_ways fc), (fc_waysBehind fc), (fc_grow fc), (fc_last fc), (fc_wonByA fc), (fc_wonByB fc), (fc_level fc), (fc_endlessA fc), (fc_endlessB fc), (fc_endless fc), (fc_winsOfA fc), (fc_winsOfB fc), (fc_whole fc))) := hD.sub [0, 1, 4, 2, 3] (by decide) rfl
    subst hf
    exact zr_Mv hx hb hr hlocks hP hD hS dX0_addScore_23

theorem hd_yX0_arrive : hdY yX0_arrive 6 := by decide +kernel
def Fc_arrive (fc : Fc) (sh : Sh) (a2 : Int32) (a3 : Int32) (a4 : Int32) (a5 : Int32) (a6 : Int64) : Fc := if Sh_isOverAt sh a2 a4 a5 = 0 then (if a2 < (fc_last fc) then (z_let (if (z_rem a2 2) = 0 then (Sh_leaderOf sh (a2 / 2) a4 a5) else a5) (fun v3 : Int32 => z_let (Fc_add (fc_waysBehind fc) 132 (Fc_at a3 a4 v3) a6) (fun u7 : (Nat → Int64) => ((fc_endWays fc), (fc_scoreWays fc), (fc_ways fc), u7, (fc_grow fc), (fc_last fc), (fc_wonByA fc), (fc_wonByB fc), (fc_level fc), (fc_endlessA fc), (fc_endlessB fc), (fc_endless fc), (fc_winsOfA fc), (fc_winsOfB fc), (fc_whole fc))))) else (z_let ((fc_level fc) + a6) (fun x8 : Int64 => z_let (Fc_addScore ((fc_endWays fc), (fc_scoreWays fc), (fc_ways fc), (fc_waysBehind fc), (fc_grow fc), (fc_last fc), (fc_wonByA fc), (fc_wonByB fc), x8, (fc_endlessA fc), (fc_endlessB fc), (fc_endless fc), (fc_winsOfA fc), (fc_winsOfB fc), (fc_whole fc)) a3 a4 a6) (fun u9 : Fc => u9)))) else (z_let (a6 * (K_sixes ((fc_last fc) - a2))) (fun x10 : Int64 => z_let (if a4 ≤ 0 then 0 else x10) (fun v11 : Int64 => z_let ((fc_wonByA fc) + v11) (fun x15 : Int64 => z_let (if 0 ≤ a4 then 0 else x10) (fun v16 : Int64 => z_let ((fc_wonByB fc) + v16) (fun x20 : Int64 => z_let (Fc_add (fc_endWays fc) 11 a2 x10) (fun u21 : (Nat → Int64) => z_let (Fc_addScore (u21, (fc_scoreWays fc), (fc_ways fc), (fc_waysBehind fc), (fc_grow fc), (fc_last fc), x15, x20, (fc_level fc), (fc_endlessA fc), (fc_endlessB fc), (fc_endless fc), (fc_winsOfA fc), (fc_winsOfB fc), (fc_whole fc)) a3 a4 x10) (fun u22 : Fc => u22))))))))
set_option maxHeartbeats 4000000 in
set_option maxRecDepth 100000 in
theorem ctX0_arrive (l : Launch) (D : va_G) (ac cs : Nat → Nat) (q : Nat → Nat) (w1 w2 : Nat) (qs : Nat → Nat) (sz : Nat) (fc : Fc) (sh : Sh) (a2 : Int32) (a3 : Int32) (a4 : Int32) (a5 : Int32) (a6 : Int64) (res : Fc) (hf : Fc_arrive fc sh a2 a3 a4 a5 a6 = res) : Met l yX0_arrive (cWW yX0_arrive cX0_arrive 10 none) { frames := 2, cells := 0, slots := 0, locals := 47 } (zM D ac cs [.ref (q 0), .ref (qs 0), .int a2, .int a3, .int a4, .int a5, .long a6] (fcW ac q w1 w2 fc ++ (shW ac qs sh)) sz) (va_Qv (fun _ : Unit => True) (fun _ => zB D (va_A (fcW ac q w1 w2 fc ++ (shW ac qs sh)) sz) (fcW ac q w1 w2 res ++ (shW ac qs sh))) (va_A (fcW ac q w1 w2 fc ++ (shW ac qs sh)) sz)) 0 0 (va_A (fcW ac q w1 w2 fc ++ (shW ac qs sh)) sz) := by
  refine Met.ofW (cc := cX0_arrive) (maxL := 10) (ret := none) (by decide) rfl ?_
  intro p e s m args below meth c s₁ B hml hv
  obtain ⟨rfl, hsz, hP, hKX, hD0, hC⟩ := hv
  have hx := B.exec
  have hb := B.bytes
  have hr := B.returns
  have hts := atoms_spec (ws := cWW yX0_arrive cX0_arrive 10 none) B.pre
  have htw : ∀ w ∈ WW, w.before _ s = true := fun w h => hts w (List.mem_cons_of_mem _ h)
  have hown : s.vm.findClass RX0 = some m.cls := findClass_of_methodNamed B.named
  have hlocks := B.notSynchronized
  clear hts B
  subst hsz
  have hD := hD0.self (sz := s.heap.size)
  generalize hAe : va_A (fcW ac q w1 w2 fc ++ (shW ac qs sh)) s.heap.size = A at hD hC ⊢
  have hA : ∀ q : Nat, s.heap.size ≤ q → A q := fun q h => by rw [← hAe]; exact Or.inr h
  have hS : va_S A s.heap s.heap [] := va_S.rf
  clear hD0 hAe
  have hP : va_P D vwCl (fcW ac q w1 w2 fc ++ (shW ac qs sh)) s.heap := hP
  have hl := lv_entry ([.ref (q 0), .ref (qs 0), .int a2, .int a3, .int a4, .int a5, .long a6]) (n := 10) (Nat.le_of_ble_eq_true rfl)
  rw [lg_entry_eq]
  generalize (lg_sl ([.ref (q 0), .ref (qs 0), .int a2, .int a3, .int a4, .int a5, .long a6]) ++ List.replicate (10 - (lg_sl ([.ref (q 0), .ref (qs 0), .int a2, .int a3, .int a4, .int a5, .long a6])).length) Slot.unset).toArray = ls at hl ⊢
  have hl : lv_has ls 10 [(0, .ref (q 0)), (1, .ref (qs 0)), (2, .int a2), (3, .int a3), (4, .int a4), (5, .int a5), (6, .long a6)] := hl
  unfold Fc_arrive at hf
  show W p l e ({ frames := 2, cells := 0, slots := 0, locals := 47 } : Room) s m _ below meth c s.heap [] 0 0 _ (F0 m 0 ls [])
  refine lv_aload_n hx hb dX0_arrive_0 rfl (lv_at hl 1 rfl) ?_
  refine lv_iload_n hx hb dX0_arrive_1 rfl (lv_at hl 2 rfl) ?_
  refine lv_iload hx hb dX0_arrive_2 (lv_at hl 4 rfl) ?_
  refine lv_iload hx hb dX0_arrive_4 (lv_at hl 5 rfl) ?_
  refine zc_RVi (As := [.int a2, .int a4, .int a5]) (rest := []) hx hb hml hown htw (ctX4_isOverAt l D ac cs qs sh a2 a4 a5   _ rfl) (g_V mM_RX0_158 mI_yX4_isOverAt mS_RX4_yX4_isOverAt_yX4_isOverAt mN_RX4 mC_yX4_isOverAt) rfl (hd_yX4_isOverAt) ⟨rfl, rfl⟩ ⟨(Nat.le_of_ble_eq_true rfl), (Nat.le_of_ble_eq_true rfl)⟩ hKX hC hS (hP.sub [5, 6, 7] rfl) 4 rfl rfl rfl hl.1 rfl (Nat.le_of_ble_eq_true rfl) ⟨Nat.zero_le _, Nat.zero_le _⟩ dX0_arrive_6 ?_
  refine lv_if_eq (tgt := 88) hx hb dX0_arrive_9 (by decide) (fun c1 => ?_) (fun c1 => ?_)
  · have hf := z_p c1 hf
    refine lv_iload_n hx hb dX0_arrive_88 rfl (lv_at hl 2 rfl) ?_
    refine lv_aload_n hx hb dX0_arrive_89 rfl (lv_at hl 0 rfl) ?_
    refine va_get (D := D) (ci := 0) (v := .int (fc_last fc)) (C := RX0) (T := TX0) (N := 15) hx hb htw WW_wsX00 hown hKX.1 hP 0 rfl rfl 5 (Nat.le_of_ble_eq_true rfl) (htw _ mF_RX0_92) (fun _ h9 => h9) rfl dX0_arrive_90 ?_
    refine lv_icmp_lt (tgt := 119) hx hb dX0_arrive_93 (by decide) (fun c2 => ?_) (fun c2 => ?_)
    · have hf := z_p c2 hf
      refine lv_iload_n hx hb dX0_arrive_119 rfl (lv_at hl 2 rfl) ?_
      refine lv_iconst (v := 2) hx hb dX0_arrive_120 rfl ?_
      refine zv_irem hx hb dX0_arrive_121 (by decide) ?_
      have hj5 : ∀ (v3 : Int32), v3 = (if (z_rem a2 2) = 0 then (Sh_leaderOf sh (a2 / 2) a4 a5) else a5) → ∀ (H : Heap) (locs : List Loc) (ls : Array Slot), va_P D vwCl (fcW ac q w1 w2 fc ++ (shW ac qs sh)) H → va_D A (fcW ac q w1 w2 fc ++ (shW ac qs sh)) → va_S A s.heap H locs → lv_has ls 10 [(0, .ref (q 0)), (3, .int a3), (4, .int a4), (6, .long a6)] → W p l e ({ frames := 2, cells := 0, slots := 0, locals := 47 } : Room) s m (([.ref (q 0), .ref (qs 0), .int a2, .int a3, .int a4, .int a5, .long a6] : List Value).toArray) below meth c H locs 0 0 (MQ below (va_Qv (fun _ : Unit => True) (fun _ => zB D A (fcW ac q w1 w2 res ++ (shW ac qs sh))) A) ([.ref (q 0), .ref (qs 0), .int a2, .int a3, .int a4, .int a5, .long a6] : List Value).toArray s 0 0 A) (F0 m 141 ls [.int v3]) := by
        intro v3 hv3 H locs ls hP hD hS hl
        have hf := z_let_u hv3 hf
        refine lv_istore (lv' := [(8, .int v3), (0, .ref (q 0)), (3, .int a3), (4, .int a4), (6, .long a6)]) hx hb dX0_arrive_141 hl (Nat.le_of_ble_eq_true rfl) rfl (fun ls hl => ?_)
        refine lv_aload_n hx hb dX0_arrive_143 rfl (lv_at hl 1 rfl) ?_
        refine va_get (D := D) (ci := 0) (v := .ref (w2)) (C := RX0) (T := TX0) (N := 15) hx hb htw WW_wsX00 hown hKX.1 hP 0 rfl rfl 3 (Nat.le_of_ble_eq_true rfl) (htw _ mF_RX0_21) (fun _ h9 => h9) rfl dX0_arrive_144 ?_
        refine lv_iload_n hx hb dX0_arrive_147 rfl (lv_at hl 2 rfl) ?_
        refine lv_iload hx hb dX0_arrive_148 (lv_at hl 3 rfl) ?_
        refine lv_iload hx hb dX0_arrive_150 (lv_at hl 0 rfl) ?_
        refine zc_RSi (As := [.int a3, .int a4, .int v3]) (rest := [.ref (w2)]) hx hb hml hown htw (ctX0_at l D ac cs   a3 a4 v3   _ rfl) (g_S mM_RX0_134 mT_yX0_at mN_RX0 mC_yX0_at) (hd_yX0_at) ⟨rfl, rfl⟩ ⟨(Nat.le_of_ble_eq_true rfl), (Nat.le_of_ble_eq_true rfl)⟩ hKX hC hS zP0 rfl hl.1 rfl (Nat.le_of_ble_eq_true rfl) ⟨Nat.zero_le _, Nat.zero_le _⟩ dX0_arrive_152 ?_
        refine lv_lload hx hb dX0_arrive_155 (lv_at hl 4 rfl) ?_
        obtain ⟨u7, hu7⟩ : ∃ y : (Nat → Int64), y = Fc_add (fc_waysBehind fc) 132 (Fc_at a3 a4 v3) a6 := ⟨_, rfl⟩
        have hf := z_let_u hu7 hf
        refine zc_MSv (As := [.ref (w2), .int (Fc_at a3 a4 v3), .long a6]) (rest := []) (wr := [(q 0, .inr (0, [.ref (q 1), .ref (q 2), .ref (w1), .ref (w2), .int (fc_grow fc), .int (fc_last fc), .long (fc_wonByA fc), .long (fc_wonByB fc), .long (fc_level fc), .long (fc_endlessA fc), .long (fc_endlessB fc), .long (fc_endless fc), .long (fc_winsOfA fc), .long (fc_winsOfB fc), .long (fc_whole fc)])), (q 1, .inl (ac 1, 11, .inr (.inl (fc_endWays fc)))), (q 2, .inl (ac 1, 36, .inr (.inl (fc_scoreWays fc)))), (w1, .inl (ac 1, 132, .inr (.inl (fc_ways fc))))] ++ (shW ac qs sh)) (wsc := ajW ac w2 132 (fc_waysBehind fc)) (wsc' := ajW ac w2 132 u7) hx hb hml hown htw (ctX0_add l D ac cs w2 132 (by decide) H.size (fc_waysBehind fc) (Fc_at a3 a4 v3) a6   u7 hu7.symm) (g_S mM_RX0_137 mT_yX0_add mN_RX0 mC_yX0_add) (hd_yX0_add) ⟨rfl, rfl⟩ ⟨(Nat.le_of_ble_eq_true rfl), (Nat.le_of_ble_eq_true rfl)⟩ hKX hC hS hA hP hD [4] [0, 1, 2, 3, 5, 6, 7] rfl (by decide) rfl (by decide) (by decide) rfl hl.1 rfl (Nat.le_of_ble_eq_true rfl) ⟨Nat.zero_le _, Nat.zero_le _⟩ dX0_arrive_157 (fun H locs hP hD hS => ?_)
        have hP : va_P D vwCl (fcW ac q w1 w2 ((fc_endWays fc), (fc_scoreWays fc), (fc_ways fc), u7, (fc_grow fc), (fc_last fc), (fc_wonByA fc), (fc_wonByB fc), (fc_level fc), (fc_endlessA fc), (fc_endlessB fc), (fc_endless fc), (fc_winsOfA fc), (fc_winsOfB fc), (fc_whole fc)) ++ (shW ac qs sh)) H := hP.sub [0, 1, 2, 3, 7, 4, 5, 6] rfl
        have hD : va_D A (fcW ac q w1 w2 ((fc_endWays fc), (fc_scoreWays fc), (fc_ways fc), u7, (fc_grow fc), (fc_last fc), (fc_wonByA fc), (fc_wonByB fc), (fc_level fc), (fc_endlessA fc), (fc_endlessB fc), (fc_endless fc), (fc_winsOfA fc), (fc_winsOfB fc), (fc_whole fc)) ++ (shW ac qs sh)) := hD.sub [0, 1, 2, 3, 7, 4, 5, 6] (by decide) rfl
        subst hf
        exact zr_Mv hx hb hr hlocks hP hD hS dX0_arrive_160
      refine lv_if_ne (tgt := 139) hx hb dX0_arrive_122 (by decide) (fun c6 => ?_) (fun c6 => ?_)
      · skip
        refine lv_iload hx hb dX0_arrive_139 (lv_at hl 5 rfl) ?_
        exact hj5 a5 (if_neg c6).symm _ _ ls hP hD hS (lv_sub hl [0, 3, 4, 6] rfl)
      · skip
        refine lv_aload_n hx hb dX0_arrive_125 rfl (lv_at hl 1 rfl) ?_
        refine lv_iload_n hx hb dX0_arrive_126 rfl (lv_at hl 2 rfl) ?_
        refine lv_iconst (v := 2) hx hb dX0_arrive_127 rfl ?_
        refine lv_idiv hx hb dX0_arrive_128 (by decide) ?_
        refine lv_iload hx hb dX0_arrive_129 (lv_at hl 4 rfl) ?_
        refine lv_iload hx hb dX0_arrive_131 (lv_at hl 5 rfl) ?_
        refine zc_RVi (As := [.int (a2 / 2), .int a4, .int a5]) (rest := []) hx hb hml hown htw (ctX4_leaderOf l D ac cs qs sh (a2 / 2) a4 a5   _ rfl) (g_V mM_RX0_166 mI_yX4_leaderOf mS_RX4_yX4_leaderOf_yX4_leaderOf mN_RX4 mC_yX4_leaderOf) rfl (hd_yX4_leaderOf) ⟨rfl, rfl⟩ ⟨(Nat.le_of_ble_eq_true rfl), (Nat.le_of_ble_eq_true rfl)⟩ hKX hC hS (hP.sub [5, 6, 7] rfl) 4 rfl rfl rfl hl.1 rfl (Nat.le_of_ble_eq_true rfl) ⟨Nat.zero_le _, Nat.zero_le _⟩ dX0_arrive_133 ?_
        refine lv_goto (tgt := 141) hx hb dX0_arrive_136 (by decide) ?_
        exact hj5 (Sh_leaderOf sh (a2 / 2) a4 a5) (if_pos c6).symm _ _ ls hP hD hS (lv_sub hl [0, 3, 4, 6] rfl)
    · have hf := z_n c2 hf
      refine lv_aload_n hx hb dX0_arrive_96 rfl (lv_at hl 0 rfl) ?_
      refine lv_dup hx hb dX0_arrive_97 rfl ?_
      refine va_get (D := D) (ci := 0) (v := .long (fc_level fc)) (C := RX0) (T := TX0) (N := 15) hx hb htw WW_wsX00 hown hKX.1 hP 0 rfl rfl 8 (Nat.le_of_ble_eq_true rfl) (htw _ mF_RX0_80) (fun _ h9 => h9) rfl dX0_arrive_98 ?_
      refine lv_lload hx hb dX0_arrive_101 (lv_at hl 6 rfl) ?_
      refine lv_ladd hx hb dX0_arrive_103 ?_
      refine lv_topl (fun x8 hx8 => ?_)
      have hf := z_let_u hx8 hf
      refine va_put (D := D) (ci := 0) (v := .long x8) (ty := tyX0 8) (C := RX0) (T := TX0) (N := 15) hx hb htw WW_wsX00 tyX0 tyX0_ok nmX0 hown hKX.1 hP hD hS 0 rfl rfl 8 (Nat.le_of_ble_eq_true rfl) (htw _ mF_RX0_80) (fun _ h9 => h9) rfl (tyX0_ok 8 (Nat.le_of_ble_eq_true rfl)) rfl rfl (Nat.le_of_ble_eq_true rfl) dX0_arrive_104 (fun H locs hP hD hS => ?_)
      have hP : va_P D vwCl (fcW ac q w1 w2 ((fc_endWays fc), (fc_scoreWays fc), (fc_ways fc), (fc_waysBehind fc), (fc_grow fc), (fc_last fc), (fc_wonByA fc), (fc_wonByB fc), x8, (fc_endlessA fc), (fc_endlessB fc), (fc_endless fc), (fc_winsOfA fc), (fc_winsOfB fc), (fc_whole fc)) ++ (shW ac qs sh)) H := hP
      have hD : va_D A (fcW ac q w1 w2 ((fc_endWays fc), (fc_scoreWays fc), (fc_ways fc), (fc_waysBehind fc), (fc_grow fc), (fc_last fc), (fc_wonByA fc), (fc_wonByB fc), x8, (fc_endlessA fc), (fc_endlessB fc), (fc_endless fc), (fc_winsOfA fc), (fc_winsOfB fc), (fc_whole fc)) ++ (shW ac qs sh)) := hD
      refine lv_aload_n hx hb dX0_arrive_107 rfl (lv_at hl 0 rfl) ?_
      refine lv_iload_n hx hb dX0_arrive_108 rfl (lv_at hl 3 rfl) ?_
      refine lv_iload hx hb dX0_arrive_109 (lv_at hl 4 rfl) ?_
      refine lv_lload hx hb dX0_arrive_111 (lv_at hl 6 rfl) ?_
      obtain ⟨u9, hu9⟩ : ∃ y : Fc, y = Fc_addScore ((fc_endWays fc), (fc_scoreWays fc), (fc_ways fc), (fc_waysBehind fc), (fc_grow fc), (fc_last fc), (fc_wonByA fc), (fc_wonByB fc), x8, (fc_endlessA fc), (fc_endlessB fc), (fc_endless fc), (fc_winsOfA fc), (fc_winsOfB fc), (fc_whole fc)) a3 a4 a6 := ⟨_, rfl⟩
      have hf := z_let_u hu9 hf
      refine zc_MVv (As := [.int a3, .int a4, .long a6]) (rest := []) (wr := shW ac qs sh) (wsc := fcW ac q w1 w2 ((fc_endWays fc), (fc_scoreWays fc), (fc_ways fc), (fc_waysBehind fc), (fc_grow fc), (fc_last fc), (fc_wonByA fc), (fc_wonByB fc), x8, (fc_endlessA fc), (fc_endlessB fc), (fc_endless fc), (fc_winsOfA fc), (fc_winsOfB fc), (fc_whole fc))) (wsc' := fcW ac q w1 w2 u9) hx hb hml hown htw (ctX0_addScore l D ac cs q w1 w2 H.size ((fc_endWays fc), (fc_scoreWays fc), (fc_ways fc), (fc_waysBehind fc), (fc_grow fc), (fc_last fc), (fc_wonByA fc), (fc_wonByB fc), x8, (fc_endlessA fc), (fc_endlessB fc), (fc_endless fc), (fc_winsOfA fc), (fc_winsOfB fc), (fc_whole fc)) a3 a4 a6   u9 hu9.symm) (g_V mM_RX0_162 mI_yX0_addScore mS_RX0_yX0_addScore_yX0_addScore mN_RX0 mC_yX0_addScore) rfl (hd_yX0_addScore) ⟨rfl, rfl⟩ ⟨(Nat.le_of_ble_eq_true rfl), (Nat.le_of_ble_eq_true rfl)⟩ hKX hC hS hA hP hD [0, 1, 2, 3, 4] [5, 6, 7] rfl (by decide) rfl (by decide) (by decide) 0 rfl rfl rfl hl.1 rfl (Nat.le_of_ble_eq_true rfl) ⟨Nat.zero_le _, Nat.zero_le _⟩ dX0_arrive_113 (fun H locs hP hD hS => ?_)
      have hP : va_P D vwCl (fcW ac q w1 w2 u9 ++ (shW ac qs sh)) H := hP.sub [3, 4, 5, 6, 7, 0, 1, 2] rfl
      have hD : va_D A (fcW ac q w1 w2 u9 ++ (shW ac qs sh)) := hD.sub [3, 4, 5, 6, 7, 0, 1, 2] (by decide) rfl
      refine lv_goto (tgt := 160) hx hb dX0_arrive_116 (by decide) ?_
      subst hf
      exact zr_Mv hx hb hr hlocks hP hD hS dX0_arrive_160
  · have hf := z_n c1 hf
    refine lv_lload hx hb dX0_arrive_12 (lv_at hl 6 rfl) ?_
    refine lv_aload_n hx hb dX0_arrive_14 rfl (lv_at hl 0 rfl) ?_
    refine va_get (D := D) (ci := 0) (v := .int (fc_last fc)) (C := RX0) (T := TX0) (N := 15) hx hb htw WW_wsX00 hown hKX.1 hP 0 rfl rfl 5 (Nat.le_of_ble_eq_true rfl) (htw _ mF_RX0_92) (fun _ h9 => h9) rfl dX0_arrive_15 ?_
    refine lv_iload_n hx hb dX0_arrive_18 rfl (lv_at hl 2 rfl) ?_
    refine lv_isub hx hb dX0_arrive_19 ?_
    refine zc_RSNl (As := [.int ((fc_last fc) - a2)]) (rest := [.long a6]) hx hb hml hown htw (ctX7_sixes l D ac cs   ((fc_last fc) - a2)   _ rfl) (va_Nw.of rfl (va_Nw.use (A := #[]) rfl (hKX.2 _ (List.mem_of_getElem? (i := 36) rfl)))) mN_RX7 mT_yX7_sixes mC_yX7_sixes (hd_yX7_sixes) ⟨rfl, rfl⟩ ⟨(Nat.le_of_ble_eq_true rfl), (Nat.le_of_ble_eq_true rfl)⟩ hKX hC hS zP0 rfl hl.1 rfl (Nat.le_of_ble_eq_true rfl) ⟨Nat.zero_le _, Nat.zero_le _⟩ dX0_arrive_20 ?_
    refine lv_lmul hx hb dX0_arrive_23 ?_
    refine lv_topl (fun x10 hx10 => ?_)
    have hf := z_let_u hx10 hf
    refine lv_lstore (lv' := [(8, .long x10), (0, .ref (q 0)), (1, .ref (qs 0)), (2, .int a2), (3, .int a3), (4, .int a4), (5, .int a5), (6, .long a6)]) hx hb dX0_arrive_24 hl (Nat.le_of_ble_eq_true rfl) rfl (fun ls hl => ?_)
    refine lv_aload_n hx hb dX0_arrive_26 rfl (lv_at hl 1 rfl) ?_
    refine lv_dup hx hb dX0_arrive_27 rfl ?_
    refine va_get (D := D) (ci := 0) (v := .long (fc_wonByA fc)) (C := RX0) (T := TX0) (N := 15) hx hb htw WW_wsX00 hown hKX.1 hP 0 rfl rfl 6 (Nat.le_of_ble_eq_true rfl) (htw _ mF_RX0_74) (fun _ h9 => h9) rfl dX0_arrive_28 ?_
    refine lv_iload hx hb dX0_arrive_31 (lv_at hl 5 rfl) ?_
    have hj13 : ∀ (v11 : Int64), v11 = (if a4 ≤ 0 then 0 else x10) → ∀ (H : Heap) (locs : List Loc) (ls : Array Slot), va_P D vwCl (fcW ac q w1 w2 fc ++ (shW ac qs sh)) H → va_D A (fcW ac q w1 w2 fc ++ (shW ac qs sh)) → va_S A s.heap H locs → lv_has ls 10 [(0, .ref (q 0)), (2, .int a2), (3, .int a3), (4, .int a4), (8, .long x10)] → W p l e ({ frames := 2, cells := 0, slots := 0, locals := 47 } : Room) s m (([.ref (q 0), .ref (qs 0), .int a2, .int a3, .int a4, .int a5, .long a6] : List Value).toArray) below meth c H locs 0 0 (MQ below (va_Qv (fun _ : Unit => True) (fun _ => zB D A (fcW ac q w1 w2 res ++ (shW ac qs sh))) A) ([.ref (q 0), .ref (qs 0), .int a2, .int a3, .int a4, .int a5, .long a6] : List Value).toArray s 0 0 A) (F0 m 42 ls [.long v11, .long (fc_wonByA fc), .ref (q 0)]) := by
      intro v11 hv11 H locs ls hP hD hS hl
      have hf := z_let_u hv11 hf
      refine lv_ladd hx hb dX0_arrive_42 ?_
      refine lv_topl (fun x15 hx15 => ?_)
      have hf := z_let_u hx15 hf
      refine va_put (D := D) (ci := 0) (v := .long x15) (ty := tyX0 6) (C := RX0) (T := TX0) (N := 15) hx hb htw WW_wsX00 tyX0 tyX0_ok nmX0 hown hKX.1 hP hD hS 0 rfl rfl 6 (Nat.le_of_ble_eq_true rfl) (htw _ mF_RX0_74) (fun _ h9 => h9) rfl (tyX0_ok 6 (Nat.le_of_ble_eq_true rfl)) rfl rfl (Nat.le_of_ble_eq_true rfl) dX0_arrive_43 (fun H locs hP hD hS => ?_)
      have hP : va_P D vwCl (fcW ac q w1 w2 ((fc_endWays fc), (fc_scoreWays fc), (fc_ways fc), (fc_waysBehind fc), (fc_grow fc), (fc_last fc), x15, (fc_wonByB fc), (fc_level fc), (fc_endlessA fc), (fc_endlessB fc), (fc_endless fc), (fc_winsOfA fc), (fc_winsOfB fc), (fc_whole fc)) ++ (shW ac qs sh)) H := hP
      have hD : va_D A (fcW ac q w1 w2 ((fc_endWays fc), (fc_scoreWays fc), (fc_ways fc), (fc_waysBehind fc), (fc_grow fc), (fc_last fc), x15, (fc_wonByB fc), (fc_level fc), (fc_endlessA fc), (fc_endlessB fc), (fc_endless fc), (fc_winsOfA fc), (fc_winsOfB fc), (fc_whole fc)) ++ (shW ac qs sh)) := hD
      refine lv_aload_n hx hb dX0_arrive_46 rfl (lv_at hl 0 rfl) ?_
      refine lv_dup hx hb dX0_arrive_47 rfl ?_
      refine va_get (D := D) (ci := 0) (v := .long (fc_wonByB fc)) (C := RX0) (T := TX0) (N := 15) hx hb htw WW_wsX00 hown hKX.1 hP 0 rfl rfl 7 (Nat.le_of_ble_eq_true rfl) (htw _ mF_RX0_86) (fun _ h9 => h9) rfl dX0_arrive_48 ?_
      refine lv_iload hx hb dX0_arrive_51 (lv_at hl 3 rfl) ?_
      have hj18 : ∀ (v16 : Int64), v16 = (if 0 ≤ a4 then 0 else x10) → ∀ (H : Heap) (locs : List Loc) (ls : Array Slot), va_P D vwCl (fcW ac q w1 w2 ((fc_endWays fc), (fc_scoreWays fc), (fc_ways fc), (fc_waysBehind fc), (fc_grow fc), (fc_last fc), x15, (fc_wonByB fc), (fc_level fc), (fc_endlessA fc), (fc_endlessB fc), (fc_endless fc), (fc_winsOfA fc), (fc_winsOfB fc), (fc_whole fc)) ++ (shW ac qs sh)) H → va_D A (fcW ac q w1 w2 ((fc_endWays fc), (fc_scoreWays fc), (fc_ways fc), (fc_waysBehind fc), (fc_grow fc), (fc_last fc), x15, (fc_wonByB fc), (fc_level fc), (fc_endlessA fc), (fc_endlessB fc), (fc_endless fc), (fc_winsOfA fc), (fc_winsOfB fc), (fc_whole fc)) ++ (shW ac qs sh)) → va_S A s.heap H locs → lv_has ls 10 [(0, .ref (q 0)), (2, .int a2), (3, .int a3), (4, .int a4), (8, .long x10)] → W p l e ({ frames := 2, cells := 0, slots := 0, locals := 47 } : Room) s m (([.ref (q 0), .ref (qs 0), .int a2, .int a3, .int a4, .int a5, .long a6] : List Value).toArray) below meth c H locs 0 0 (MQ below (va_Qv (fun _ : Unit => True) (fun _ => zB D A (fcW ac q w1 w2 res ++ (shW ac qs sh))) A) ([.ref (q 0), .ref (qs 0), .int a2, .int a3, .int a4, .int a5, .long a6] : List Value).toArray s 0 0 A) (F0 m 62 ls [.long v16, .long (fc_wonByB fc), .ref (q 0)]) := by
        intro v16 hv16 H locs ls hP hD hS hl
        have hf := z_let_u hv16 hf
        refine lv_ladd hx hb dX0_arrive_62 ?_
        refine lv_topl (fun x20 hx20 => ?_)
        have hf := z_let_u hx20 hf
        refine va_put (D := D) (ci := 0) (v := .long x20) (ty := tyX0 7) (C := RX0) (T := TX0) (N := 15) hx hb htw WW_wsX00 tyX0 tyX0_ok nmX0 hown hKX.1 hP hD hS 0 rfl rfl 7 (Nat.le_of_ble_eq_true rfl) (htw _ mF_RX0_86) (fun _ h9 => h9) rfl (tyX0_ok 7 (Nat.le_of_ble_eq_true rfl)) rfl rfl (Nat.le_of_ble_eq_true rfl) dX0_arrive_63 (fun H locs hP hD hS => ?_)
        have hP : va_P D vwCl (fcW ac q w1 w2 ((fc_endWays fc), (fc_scoreWays fc), (fc_ways fc), (fc_waysBehind fc), (fc_grow fc), (fc_last fc), x15, x20, (fc_level fc), (fc_endlessA fc), (fc_endlessB fc), (fc_endless fc), (fc_winsOfA fc), (fc_winsOfB fc), (fc_whole fc)) ++ (shW ac qs sh)) H := hP
        have hD : va_D A (fcW ac q w1 w2 ((fc_endWays fc), (fc_scoreWays fc), (fc_ways fc), (fc_waysBehind fc), (fc_grow fc), (fc_last fc), x15, x20, (fc_level fc), (fc_endlessA fc), (fc_endlessB fc), (fc_endless fc), (fc_winsOfA fc), (fc_winsOfB fc), (fc_whole fc)) ++ (shW ac qs sh)) := hD
        refine lv_aload_n hx hb dX0_arrive_66 rfl (lv_at hl 0 rfl) ?_
        refine va_get (D := D) (ci := 0) (v := .ref (q 1)) (C := RX0) (T := TX0) (N := 15) hx hb htw WW_wsX00 hown hKX.1 hP 0 rfl rfl 0 (Nat.le_of_ble_eq_true rfl) (htw _ mF_RX0_9) (fun _ h9 => h9) rfl dX0_arrive_67 ?_
        refine lv_iload_n hx hb dX0_arrive_70 rfl (lv_at hl 1 rfl) ?_
        refine lv_lload hx hb dX0_arrive_71 (lv_at hl 4 rfl) ?_
        obtain ⟨u21, hu21⟩ : ∃ y : (Nat → Int64), y = Fc_add (fc_endWays fc) 11 a2 x10 := ⟨_, rfl⟩
        have hf := z_let_u hu21 hf
        refine zc_MSv (As := [.ref (q 1), .int a2, .long x10]) (rest := []) (wr := [(q 0, .inr (0, [.ref (q 1), .ref (q 2), .ref (w1), .ref (w2), .int (fc_grow fc), .int (fc_last fc), .long x15, .long x20, .long (fc_level fc), .long (fc_endlessA fc), .long (fc_endlessB fc), .long (fc_endless fc), .long (fc_winsOfA fc), .long (fc_winsOfB fc), .long (fc_whole fc)])), (q 2, .inl (ac 1, 36, .inr (.inl (fc_scoreWays fc)))), (w1, .inl (ac 1, 132, .inr (.inl (fc_ways fc)))), (w2, .inl (ac 1, 132, .inr (.inl (fc_waysBehind fc))))] ++ (shW ac qs sh)) (wsc := ajW ac (q 1) 11 (fc_endWays fc)) (wsc' := ajW ac (q 1) 11 u21) hx hb hml hown htw (ctX0_add l D ac cs (q 1) 11 (by decide) H.size (fc_endWays fc) a2 x10   u21 hu21.symm) (g_S mM_RX0_137 mT_yX0_add mN_RX0 mC_yX0_add) (hd_yX0_add) ⟨rfl, rfl⟩ ⟨(Nat.le_of_ble_eq_true rfl), (Nat.le_of_ble_eq_true rfl)⟩ hKX hC hS hA hP hD [1] [0, 2, 3, 4, 5, 6, 7] rfl (by decide) rfl (by decide) (by decide) rfl hl.1 rfl (Nat.le_of_ble_eq_true rfl) ⟨Nat.zero_le _, Nat.zero_le _⟩ dX0_arrive_73 (fun H locs hP hD hS => ?_)
        have hP : va_P D vwCl (fcW ac q w1 w2 (u21, (fc_scoreWays fc), (fc_ways fc), (fc_waysBehind fc), (fc_grow fc), (fc_last fc), x15, x20, (fc_level fc), (fc_endlessA fc), (fc_endlessB fc), (fc_endless fc), (fc_winsOfA fc), (fc_winsOfB fc), (fc_whole fc)) ++ (shW ac qs sh)) H := hP.sub [0, 7, 1, 2, 3, 4, 5, 6] rfl
        have hD : va_D A (fcW ac q w1 w2 (u21, (fc_scoreWays fc), (fc_ways fc), (fc_waysBehind fc), (fc_grow fc), (fc_last fc), x15, x20, (fc_level fc), (fc_endlessA fc), (fc_endlessB fc), (fc_endless fc), (fc_winsOfA fc), (fc_winsOfB fc), (fc_whole fc)) ++ (shW ac qs sh)) := hD.sub [0, 7, 1, 2, 3, 4, 5, 6] (by decide) rfl
        refine lv_aload_n hx hb dX0_arrive_76 rfl (lv_at hl 0 rfl) ?_
        refine lv_iload_n hx hb dX0_arrive_77 rfl (lv_at hl 2 rfl) ?_
        refine lv_iload hx hb dX0_arrive_78 (lv_at hl 3 rfl) ?_
        refine lv_lload hx hb dX0_arrive_80 (lv_at hl 4 rfl) ?_
        obtain ⟨u22, hu22⟩ : ∃ y : Fc, y = Fc_addScore (u21, (fc_scoreWays fc), (fc_ways fc), (fc_waysBehind fc), (fc_grow fc), (fc_last fc), x15, x20, (fc_level fc), (fc_endlessA fc), (fc_endlessB fc), (fc_endless fc), (fc_winsOfA fc), (fc_winsOfB fc), (fc_whole fc)) a3 a4 x10 := ⟨_, rfl⟩
        have hf := z_let_u hu22 hf
        refine zc_MVv (As := [.int a3, .int a4, .long x10]) (rest := []) (wr := shW ac qs sh) (wsc := fcW ac q w1 w2 (u21, (fc_scoreWays fc), (fc_ways fc), (fc_waysBehind fc), (fc_grow fc), (fc_last fc), x15, x20, (fc_level fc), (fc_endlessA fc), (fc_endlessB fc), (fc_endless fc), (fc_winsOfA fc), (fc_winsOfB fc), (fc_whole fc))) (wsc' := fcW ac q w1 w2 u22) hx hb hml hown htw (ctX0_addScore l D ac cs q w1 w2 H.size (u21, (fc_scoreWays fc), (fc_ways fc), (fc_waysBehind fc), (fc_grow fc), (fc_last fc), x15, x20, (fc_level fc), (fc_endlessA fc), (fc_endlessB fc), (fc_endless fc), (fc_winsOfA fc), (fc_winsOfB fc), (fc_whole fc)) a3 a4 x10   u22 hu22.symm) (g_V mM_RX0_162 mI_yX0_addScore mS_RX0_yX0_addScore_yX0_addScore mN_RX0 mC_yX0_addScore) rfl (hd_yX0_addScore) ⟨rfl, rfl⟩ ⟨(Nat.le_of_ble_eq_true rfl), (Nat.le_of_ble_eq_true rfl)⟩ hKX hC hS hA hP hD [0, 1, 2, 3, 4] [5, 6, 7] rfl (by decide) rfl (by decide) (by decide) 0 rfl rfl rfl hl.1 rfl (Nat.le_of_ble_eq_true rfl) ⟨Nat.zero_le _, Nat.zero_le _⟩ dX0_arrive_82 (fun H locs hP hD hS => ?_)
        have hP : va_P D vwCl (fcW ac q w1 w2 u22 ++ (shW ac qs sh)) H := hP.sub [3, 4, 5, 6, 7, 0, 1, 2] rfl
        have hD : va_D A (fcW ac q w1 w2 u22 ++ (shW ac qs sh)) := hD.sub [3, 4, 5, 6, 7, 0, 1, 2] (by decide) rfl
        refine lv_goto (tgt := 160) hx hb dX0_arrive_85 (by decide) ?_
        subst hf
        exact zr_Mv hx hb hr hlocks hP hD hS dX0_arrive_160
      refine lv_if_ge (tgt := 61) hx hb dX0_arrive_53 (by decide) (fun c19 => ?_) (fun c19 => ?_)
      · skip
        refine lv_lconst (v := 0) hx hb dX0_arrive_61 rfl ?_
        exact hj18 0 (if_pos c19).symm _ _ ls hP hD hS (lv_sub hl [0, 1, 2, 3, 4] rfl)
      · skip
        refine lv_lload hx hb dX0_arrive_56 (lv_at hl 4 rfl) ?_
        refine lv_goto (tgt := 62) hx hb dX0_arrive_58 (by decide) ?_
        exact hj18 x10 (if_neg c19).symm _ _ ls hP hD hS (lv_sub hl [0, 1, 2, 3, 4] rfl)
    refine lv_if_le (tgt := 41) hx hb dX0_arrive_33 (by decide) (fun c14 => ?_) (fun c14 => ?_)
    · skip
      refine lv_lconst (v := 0) hx hb dX0_arrive_41 rfl ?_
      exact hj13 0 (if_pos c14).symm _ _ ls hP hD hS (lv_sub hl [1, 3, 4, 5, 0] rfl)
    · skip
      refine lv_lload hx hb dX0_arrive_36 (lv_at hl 0 rfl) ?_
      refine lv_goto (tgt := 42) hx hb dX0_arrive_38 (by decide) ?_
      exact hj13 x10 (if_neg c14).symm _ _ ls hP hD hS (lv_sub hl [1, 3, 4, 5, 0] rfl)

theorem hd_yX0_leave : hdY yX0_leave 5 := by decide +kernel
def Fc_leave (fc : Fc) (sh : Sh) (a2 : Int32) (a3 : Int32) (a4 : Int32) (a5 : Int32) : Fc := z_let (Fc_at a3 a4 a5) (fun x1 : Int32 => if x1 < 0 then fc else (if 132 ≤ x1 then fc else (if (lg_cmp ((fc_ways fc) x1.toNatClampNeg) 0) = 0 then fc else (z_let ((fc_ways fc) x1.toNatClampNeg) (fun x5 : Int64 => z_let (if (z_rem a2 2) = 0 then a5 else (1 - a5)) (fun v6 : Int32 => z_let (if v6 = 0 then a4 else (-a4)) (fun v10 : Int32 => z_let (Sh_chanceOf sh v6 (a2 / 2) v10) (fun x14 : Int32 => z_jn (fun fc15 : Fc => if 6 ≤ x14 then fc15 else (z_let (Fc_arrive fc15 sh (a2 + 1) a3 a4 a5 (x5 * ((6 - x14).toInt64))) (fun u19 : Fc => u19))) (fun k16 => if x14 ≤ 0 then (k16 ((fc_endWays fc), (fc_scoreWays fc), (vp_updL (fc_ways fc) x1.toNatClampNeg 0), (fc_waysBehind fc), (fc_grow fc), (fc_last fc), (fc_wonByA fc), (fc_wonByB fc), (fc_level fc), (fc_endlessA fc), (fc_endlessB fc), (fc_endless fc), (fc_winsOfA fc), (fc_winsOfB fc), (fc_whole fc))) else (z_let (if v6 = 0 then (a3 + (fc_grow fc)) else a3) (fun v21 : Int32 => z_let (if v6 = 0 then (a4 + 1) else (a4 - 1)) (fun v25 : Int32 => z_let (Fc_arrive ((fc_endWays fc), (fc_scoreWays fc), (vp_updL (fc_ways fc) x1.toNatClampNeg 0), (fc_waysBehind fc), (fc_grow fc), (fc_last fc), (fc_wonByA fc), (fc_wonByB fc), (fc_level fc), (fc_endlessA fc), (fc_endlessB fc), (fc_endless fc), (fc_winsOfA fc), (fc_winsOfB fc), (fc_whole fc)) sh (a2 + 1) v21 v25 a5 (x5 * x14.toInt64)) (fun u29 : Fc => k16 u29)))))))))))))
set_option maxHeartbeats 4000000 in
set_option maxRecDepth 100000 in
theorem ctX0_leave (l : Launch) (D : va_G) (ac cs : Nat → Nat) (q : Nat → Nat) (w1 w2 : Nat) (qs : Nat → Nat) (sz : Nat) (fc : Fc) (sh : Sh) (a2 : Int32) (a3 : Int32) (a4 : Int32) (a5 : Int32) (res : Fc) (hf : Fc_leave fc sh a2 a3 a4 a5 = res) : Met l yX0_leave (cWW yX0_leave cX0_leave 13 none) { frames := 3, cells := 0, slots := 0, locals := 76 } (zM D ac cs [.ref (q 0), .ref (qs 0), .int a2, .int a3, .int a4, .int a5] (fcW ac q w1 w2 fc ++ (shW ac qs sh)) sz) (va_Qv (fun _ : Unit => True) (fun _ => zB D (va_A (fcW ac q w1 w2 fc ++ (shW ac qs sh)) sz) (fcW ac q w1 w2 res ++ (shW ac qs sh))) (va_A (fcW ac q w1 w2 fc ++ (shW ac qs sh)) sz)) 0 0 (va_A (fcW ac q w1 w2 fc ++ (shW ac qs sh)) sz) := by
  refine Met.ofW (cc := cX0_leave) (maxL := 13) (ret := none) (by decide) rfl ?_
  intro p e s m args below meth c s₁ B hml hv
  obtain ⟨rfl, hsz, hP, hKX, hD0, hC⟩ := hv
  have hx := B.exec
  have hb := B.bytes
  have hr := B.returns
  have hts := atoms_spec (ws := cWW yX0_leave cX0_leave 13 none) B.pre
  have htw : ∀ w ∈ WW, w.before _ s = true := fun w h => hts w (List.mem_cons_of_mem _ h)
  have hown : s.vm.findClass RX0 = some m.cls := findClass_of_methodNamed B.named
  have hlocks := B.notSynchronized
  clear hts B
  subst hsz
  have hD := hD0.self (sz := s.heap.size)
  generalize hAe : va_A (fcW ac q w1 w2 fc ++ (shW ac qs sh)) s.heap.size = A at hD hC ⊢
  have hA : ∀ q : Nat, s.heap.size ≤ q → A q := fun q h => by rw [← hAe]; exact Or.inr h
  have hS : va_S A s.heap s.heap [] := va_S.rf
  clear hD0 hAe
  have hP : va_P D vwCl (fcW ac q w1 w2 fc ++ (shW ac qs sh)) s.heap := hP
  have hl := lv_entry ([.ref (q 0), .ref (qs 0), .int a2, .int a3, .int a4, .int a5]) (n := 13) (Nat.le_of_ble_eq_true rfl)
  rw [lg_entry_eq]
  generalize (lg_sl ([.ref (q 0), .ref (qs 0), .int a2, .int a3, .int a4, .int a5]) ++ List.replicate (13 - (lg_sl ([.ref (q 0), .ref (qs 0), .int a2, .int a3, .int a4, .int a5])).length) Slot.unset).toArray = ls at hl ⊢
  have hl : lv_has ls 13 [(0, .ref (q 0)), (1, .ref (qs 0)), (2, .int a2), (3, .int a3), (4, .int a4), (5, .int a5)] := hl
  unfold Fc_leave at hf
  show W p l e ({ frames := 3, cells := 0, slots := 0, locals := 76 } : Room) s m _ below meth c s.heap [] 0 0 _ (F0 m 0 ls [])
  refine lv_iload_n hx hb dX0_leave_0 rfl (lv_at hl 3 rfl) ?_
  refine lv_iload hx hb dX0_leave_1 (lv_at hl 4 rfl) ?_
  refine lv_iload hx hb dX0_leave_3 (lv_at hl 5 rfl) ?_
  refine zc_RSi (As := [.int a3, .int a4, .int a5]) (rest := []) hx hb hml hown htw (ctX0_at l D ac cs   a3 a4 a5   _ rfl) (g_S mM_RX0_134 mT_yX0_at mN_RX0 mC_yX0_at) (hd_yX0_at) ⟨rfl, rfl⟩ ⟨(Nat.le_of_ble_eq_true rfl), (Nat.le_of_ble_eq_true rfl)⟩ hKX hC hS zP0 rfl hl.1 rfl (Nat.le_of_ble_eq_true rfl) ⟨Nat.zero_le _, Nat.zero_le _⟩ dX0_leave_5 ?_
  refine lv_topi (fun x1 hx1 => ?_)
  have hf := z_let_u hx1 hf
  refine lv_istore (lv' := [(6, .int x1), (0, .ref (q 0)), (1, .ref (qs 0)), (2, .int a2), (3, .int a3), (4, .int a4), (5, .int a5)]) hx hb dX0_leave_8 hl (Nat.le_of_ble_eq_true rfl) rfl (fun ls hl => ?_)
  refine lv_iload hx hb dX0_leave_10 (lv_at hl 0 rfl) ?_
  refine lv_if_lt (tgt := 37) hx hb dX0_leave_12 (by decide) (fun c2 => ?_) (fun c2 => ?_)
  · have hf := z_p c2 hf
    subst hf
    exact zr_Mv hx hb hr hlocks hP hD hS dX0_leave_37
  · have hf := z_n c2 hf
    refine lv_iload hx hb dX0_leave_15 (lv_at hl 0 rfl) ?_
    refine lv_aload_n hx hb dX0_leave_17 rfl (lv_at hl 1 rfl) ?_
    refine va_get (D := D) (ci := 0) (v := .ref (w1)) (C := RX0) (T := TX0) (N := 15) hx hb htw WW_wsX00 hown hKX.1 hP 0 rfl rfl 2 (Nat.le_of_ble_eq_true rfl) (htw _ mF_RX0_18) (fun _ h9 => h9) rfl dX0_leave_18 ?_
    refine va_alen hx hb hKX.1 hP 3 1 rfl rfl (v := 132) rfl dX0_leave_21 ?_
    refine lv_icmp_ge (tgt := 37) hx hb dX0_leave_22 (by decide) (fun c3 => ?_) (fun c3 => ?_)
    · have hf := z_p c3 hf
      subst hf
      exact zr_Mv hx hb hr hlocks hP hD hS dX0_leave_37
    · have hf := z_n c3 hf
      refine lv_aload_n hx hb dX0_leave_25 rfl (lv_at hl 1 rfl) ?_
      refine va_get (D := D) (ci := 0) (v := .ref (w1)) (C := RX0) (T := TX0) (N := 15) hx hb htw WW_wsX00 hown hKX.1 hP 0 rfl rfl 2 (Nat.le_of_ble_eq_true rfl) (htw _ mF_RX0_18) (fun _ h9 => h9) rfl dX0_leave_26 ?_
      refine lv_iload hx hb dX0_leave_29 (lv_at hl 0 rfl) ?_
      refine va_lald hx hb hKX.1 hP 3 1 rfl rfl (z_in_c rfl (Nat.le_of_ble_eq_true rfl) c2 c3) dX0_leave_31 ?_
      refine lv_lconst (v := 0) hx hb dX0_leave_32 rfl ?_
      refine W.lcmp hx hb dX0_leave_33 ?_
      refine lv_if_ne (tgt := 38) hx hb dX0_leave_34 (by decide) (fun c4 => ?_) (fun c4 => ?_)
      · have hf := z_n c4 hf
        refine lv_aload_n hx hb dX0_leave_38 rfl (lv_at hl 1 rfl) ?_
        refine va_get (D := D) (ci := 0) (v := .ref (w1)) (C := RX0) (T := TX0) (N := 15) hx hb htw WW_wsX00 hown hKX.1 hP 0 rfl rfl 2 (Nat.le_of_ble_eq_true rfl) (htw _ mF_RX0_18) (fun _ h9 => h9) rfl dX0_leave_39 ?_
        refine lv_iload hx hb dX0_leave_42 (lv_at hl 0 rfl) ?_
        refine va_lald hx hb hKX.1 hP 3 1 rfl rfl (z_in_c rfl (Nat.le_of_ble_eq_true rfl) c2 c3) dX0_leave_44 ?_
        refine lv_topl (fun x5 hx5 => ?_)
        have hf := z_let_u hx5 hf
        refine lv_lstore (lv' := [(7, .long x5), (6, .int x1), (0, .ref (q 0)), (1, .ref (qs 0)), (2, .int a2), (3, .int a3), (4, .int a4), (5, .int a5)]) hx hb dX0_leave_45 hl (Nat.le_of_ble_eq_true rfl) rfl (fun ls hl => ?_)
        refine lv_aload_n hx hb dX0_leave_47 rfl (lv_at hl 2 rfl) ?_
        refine va_get (D := D) (ci := 0) (v := .ref (w1)) (C := RX0) (T := TX0) (N := 15) hx hb htw WW_wsX00 hown hKX.1 hP 0 rfl rfl 2 (Nat.le_of_ble_eq_true rfl) (htw _ mF_RX0_18) (fun _ h9 => h9) rfl dX0_leave_48 ?_
        refine lv_iload hx hb dX0_leave_51 (lv_at hl 1 rfl) ?_
        refine lv_lconst (v := 0) hx hb dX0_leave_53 rfl ?_
        refine va_last hx hb hKX.1 hP hD hS 3 1 rfl rfl (z_in_c rfl (Nat.le_of_ble_eq_true rfl) c2 c3) dX0_leave_54 (fun H locs hP hD hS => ?_)
        have hP : va_P D vwCl (fcW ac q w1 w2 ((fc_endWays fc), (fc_scoreWays fc), (vp_updL (fc_ways fc) x1.toNatClampNeg 0), (fc_waysBehind fc), (fc_grow fc), (fc_last fc), (fc_wonByA fc), (fc_wonByB fc), (fc_level fc), (fc_endlessA fc), (fc_endlessB fc), (fc_endless fc), (fc_winsOfA fc), (fc_winsOfB fc), (fc_whole fc)) ++ (shW ac qs sh)) H := hP
        have hD : va_D A (fcW ac q w1 w2 ((fc_endWays fc), (fc_scoreWays fc), (vp_updL (fc_ways fc) x1.toNatClampNeg 0), (fc_waysBehind fc), (fc_grow fc), (fc_last fc), (fc_wonByA fc), (fc_wonByB fc), (fc_level fc), (fc_endlessA fc), (fc_endlessB fc), (fc_endless fc), (fc_winsOfA fc), (fc_winsOfB fc), (fc_whole fc)) ++ (shW ac qs sh)) := hD
        refine lv_iload_n hx hb dX0_leave_55 rfl (lv_at hl 4 rfl) ?_
        refine lv_iconst (v := 2) hx hb dX0_leave_56 rfl ?_
        refine zv_irem hx hb dX0_leave_57 (by decide) ?_
        have hj8 : ∀ (v6 : Int32), v6 = (if (z_rem a2 2) = 0 then a5 else (1 - a5)) → ∀ (H : Heap) (locs : List Loc) (ls : Array Slot), va_P D vwCl (fcW ac q w1 w2 ((fc_endWays fc), (fc_scoreWays fc), (vp_updL (fc_ways fc) x1.toNatClampNeg 0), (fc_waysBehind fc), (fc_grow fc), (fc_last fc), (fc_wonByA fc), (fc_wonByB fc), (fc_level fc), (fc_endlessA fc), (fc_endlessB fc), (fc_endless fc), (fc_winsOfA fc), (fc_winsOfB fc), (fc_whole fc)) ++ (shW ac qs sh)) H → va_D A (fcW ac q w1 w2 ((fc_endWays fc), (fc_scoreWays fc), (vp_updL (fc_ways fc) x1.toNatClampNeg 0), (fc_waysBehind fc), (fc_grow fc), (fc_last fc), (fc_wonByA fc), (fc_wonByB fc), (fc_level fc), (fc_endlessA fc), (fc_endlessB fc), (fc_endless fc), (fc_winsOfA fc), (fc_winsOfB fc), (fc_whole fc)) ++ (shW ac qs sh)) → va_S A s.heap H locs → lv_has ls 13 [(0, .ref (q 0)), (1, .ref (qs 0)), (2, .int a2), (3, .int a3), (4, .int a4), (5, .int a5), (7, .long x5)] → W p l e ({ frames := 3, cells := 0, slots := 0, locals := 76 } : Room) s m (([.ref (q 0), .ref (qs 0), .int a2, .int a3, .int a4, .int a5] : List Value).toArray) below meth c H locs 0 0 (MQ below (va_Qv (fun _ : Unit => True) (fun _ => zB D A (fcW ac q w1 w2 res ++ (shW ac qs sh))) A) ([.ref (q 0), .ref (qs 0), .int a2, .int a3, .int a4, .int a5] : List Value).toArray s 0 0 A) (F0 m 70 ls [.int v6]) := by
          intro v6 hv6 H locs ls hP hD hS hl
          have hf := z_let_u hv6 hf
          refine lv_istore (lv' := [(9, .int v6), (0, .ref (q 0)), (1, .ref (qs 0)), (2, .int a2), (3, .int a3), (4, .int a4), (5, .int a5), (7, .long x5)]) hx hb dX0_leave_70 hl (Nat.le_of_ble_eq_true rfl) rfl (fun ls hl => ?_)
          refine lv_aload_n hx hb dX0_leave_72 rfl (lv_at hl 2 rfl) ?_
          refine lv_iload hx hb dX0_leave_73 (lv_at hl 0 rfl) ?_
          refine lv_iload_n hx hb dX0_leave_75 rfl (lv_at hl 3 rfl) ?_
          refine lv_iconst (v := 2) hx hb dX0_leave_76 rfl ?_
          refine lv_idiv hx hb dX0_leave_77 (by decide) ?_
          refine lv_iload hx hb dX0_leave_78 (lv_at hl 0 rfl) ?_
          have hj12 : ∀ (v10 : Int32), v10 = (if v6 = 0 then a4 else (-a4)) → ∀ (H : Heap) (locs : List Loc) (ls : Array Slot), va_P D vwCl (fcW ac q w1 w2 ((fc_endWays fc), (fc_scoreWays fc), (vp_updL (fc_ways fc) x1.toNatClampNeg 0), (fc_waysBehind fc), (fc_grow fc), (fc_last fc), (fc_wonByA fc), (fc_wonByB fc), (fc_level fc), (fc_endlessA fc), (fc_endlessB fc), (fc_endless fc), (fc_winsOfA fc), (fc_winsOfB fc), (fc_whole fc)) ++ (shW ac qs sh)) H → va_D A (fcW ac q w1 w2 ((fc_endWays fc), (fc_scoreWays fc), (vp_updL (fc_ways fc) x1.toNatClampNeg 0), (fc_waysBehind fc), (fc_grow fc), (fc_last fc), (fc_wonByA fc), (fc_wonByB fc), (fc_level fc), (fc_endlessA fc), (fc_endlessB fc), (fc_endless fc), (fc_winsOfA fc), (fc_winsOfB fc), (fc_whole fc)) ++ (shW ac qs sh)) → va_S A s.heap H locs → lv_has ls 13 [(0, .ref (q 0)), (1, .ref (qs 0)), (2, .int a2), (3, .int a3), (4, .int a4), (5, .int a5), (7, .long x5), (9, .int v6)] → W p l e ({ frames := 3, cells := 0, slots := 0, locals := 76 } : Room) s m (([.ref (q 0), .ref (qs 0), .int a2, .int a3, .int a4, .int a5] : List Value).toArray) below meth c H locs 0 0 (MQ below (va_Qv (fun _ : Unit => True) (fun _ => zB D A (fcW ac q w1 w2 res ++ (shW ac qs sh))) A) ([.ref (q 0), .ref (qs 0), .int a2, .int a3, .int a4, .int a5] : List Value).toArray s 0 0 A) (F0 m 91 ls [.int v10, .int (a2 / 2), .int v6, .ref (qs 0)]) := by
            intro v10 hv10 H locs ls hP hD hS hl
            have hf := z_let_u hv10 hf
            refine zc_RVi (As := [.int v6, .int (a2 / 2), .int v10]) (rest := []) hx hb hml hown htw (ctX4_chanceOf l D ac cs qs sh v6 (a2 / 2) v10   _ rfl) (g_V mM_RX0_119 mI_yX4_chanceOf mS_RX4_yX4_chanceOf_yX4_chanceOf mN_RX4 mC_yX4_chanceOf) rfl (hd_yX4_chanceOf) ⟨rfl, rfl⟩ ⟨(Nat.le_of_ble_eq_true rfl), (Nat.le_of_ble_eq_true rfl)⟩ hKX hC hS (hP.sub [5, 6, 7] rfl) 4 rfl rfl rfl hl.1 rfl (Nat.le_of_ble_eq_true rfl) ⟨Nat.zero_le _, Nat.zero_le _⟩ dX0_leave_91 ?_
            refine lv_topi (fun x14 hx14 => ?_)
            have hf := z_let_u hx14 hf
            refine lv_istore (lv' := [(10, .int x14), (0, .ref (q 0)), (1, .ref (qs 0)), (2, .int a2), (3, .int a3), (4, .int a4), (5, .int a5), (7, .long x5), (9, .int v6)]) hx hb dX0_leave_94 hl (Nat.le_of_ble_eq_true rfl) rfl (fun ls hl => ?_)
            refine lv_iload hx hb dX0_leave_96 (lv_at hl 0 rfl) ?_
            obtain ⟨k16, hk16, hf⟩ := z_jn_u hf
            have hj17 : ∀ (fc15 : Fc), k16 fc15 = res → ∀ (H : Heap) (locs : List Loc) (ls : Array Slot), va_P D vwCl (fcW ac q w1 w2 fc15 ++ (shW ac qs sh)) H → va_D A (fcW ac q w1 w2 fc15 ++ (shW ac qs sh)) → va_S A s.heap H locs → lv_has ls 13 [(0, .ref (q 0)), (1, .ref (qs 0)), (2, .int a2), (3, .int a3), (4, .int a4), (5, .int a5), (7, .long x5), (10, .int x14)] → W p l e ({ frames := 3, cells := 0, slots := 0, locals := 76 } : Room) s m (([.ref (q 0), .ref (qs 0), .int a2, .int a3, .int a4, .int a5] : List Value).toArray) below meth c H locs 0 0 (MQ below (va_Qv (fun _ : Unit => True) (fun _ => zB D A (fcW ac q w1 w2 res ++ (shW ac qs sh))) A) ([.ref (q 0), .ref (qs 0), .int a2, .int a3, .int a4, .int a5] : List Value).toArray s 0 0 A) (F0 m 156 ls []) := by
              intro fc15 hf H locs ls hP hD hS hl
              have hf := hk16 _ hf
              refine lv_iload hx hb dX0_leave_156 (lv_at hl 7 rfl) ?_
              refine lv_bipush (v := 6) hx hb dX0_leave_158 rfl ?_
              refine lv_icmp_ge (tgt := 185) hx hb dX0_leave_160 (by decide) (fun c18 => ?_) (fun c18 => ?_)
              · have hf := z_p c18 hf
                subst hf
                exact zr_Mv hx hb hr hlocks hP hD hS dX0_leave_185
              · have hf := z_n c18 hf
                refine lv_aload_n hx hb dX0_leave_163 rfl (lv_at hl 0 rfl) ?_
                refine lv_aload_n hx hb dX0_leave_164 rfl (lv_at hl 1 rfl) ?_
                refine lv_iload_n hx hb dX0_leave_165 rfl (lv_at hl 2 rfl) ?_
                refine lv_iconst (v := 1) hx hb dX0_leave_166 rfl ?_
                refine lv_iadd hx hb dX0_leave_167 ?_
                refine lv_iload_n hx hb dX0_leave_168 rfl (lv_at hl 3 rfl) ?_
                refine lv_iload hx hb dX0_leave_169 (lv_at hl 4 rfl) ?_
                refine lv_iload hx hb dX0_leave_171 (lv_at hl 5 rfl) ?_
                refine lv_lload hx hb dX0_leave_173 (lv_at hl 6 rfl) ?_
                refine lv_bipush (v := 6) hx hb dX0_leave_175 rfl ?_
                refine lv_iload hx hb dX0_leave_177 (lv_at hl 7 rfl) ?_
                refine lv_isub hx hb dX0_leave_179 ?_
                refine lv_i2l hx hb dX0_leave_180 rfl ?_
                refine lv_lmul hx hb dX0_leave_181 ?_
                obtain ⟨u19, hu19⟩ : ∃ y : Fc, y = Fc_arrive fc15 sh (a2 + 1) a3 a4 a5 (x5 * ((6 - x14).toInt64)) := ⟨_, rfl⟩
                have hf := z_let_u hu19 hf
                refine zc_MVv (As := [.ref (qs 0), .int (a2 + 1), .int a3, .int a4, .int a5, .long (x5 * ((6 - x14).toInt64))]) (rest := []) (wr := []) (wsc := fcW ac q w1 w2 fc15 ++ (shW ac qs sh)) (wsc' := fcW ac q w1 w2 u19 ++ (shW ac qs sh)) hx hb hml hown htw (ctX0_arrive l D ac cs q w1 w2 qs H.size fc15 sh (a2 + 1) a3 a4 a5 (x5 * ((6 - x14).toInt64))   u19 hu19.symm) (g_V mM_RX0_154 mI_yX0_arrive mS_RX0_yX0_arrive_yX0_arrive mN_RX0 mC_yX0_arrive) rfl (hd_yX0_arrive) ⟨rfl, rfl⟩ ⟨(Nat.le_of_ble_eq_true rfl), (Nat.le_of_ble_eq_true rfl)⟩ hKX hC hS hA hP hD [0, 1, 2, 3, 4, 5, 6, 7] [] rfl (by decide) rfl (by decide) (by decide) 0 rfl rfl rfl hl.1 rfl (Nat.le_of_ble_eq_true rfl) ⟨Nat.zero_le _, Nat.zero_le _⟩ dX0_leave_182 (fun H locs hP hD hS => ?_)
                have hP : va_P D vwCl (fcW ac q w1 w2 u19 ++ (shW ac qs sh)) H := hP
                have hD : va_D A (fcW ac q w1 w2 u19 ++ (shW ac qs sh)) := hD
                subst hf
                exact zr_Mv hx hb hr hlocks hP hD hS dX0_leave_185
            refine lv_if_le (tgt := 156) hx hb dX0_leave_98 (by decide) (fun c20 => ?_) (fun c20 => ?_)
            · have hf := z_p c20 hf
              exact hj17 ((fc_endWays fc), (fc_scoreWays fc), (vp_updL (fc_ways fc) x1.toNatClampNeg 0), (fc_waysBehind fc), (fc_grow fc), (fc_last fc), (fc_wonByA fc), (fc_wonByB fc), (fc_level fc), (fc_endlessA fc), (fc_endlessB fc), (fc_endless fc), (fc_winsOfA fc), (fc_winsOfB fc), (fc_whole fc)) hf _ _ ls  hP hD hS (lv_sub hl [1, 2, 3, 4, 5, 6, 7, 0] rfl)
            · have hf := z_n c20 hf
              refine lv_iload hx hb dX0_leave_101 (lv_at hl 8 rfl) ?_
              have hj23 : ∀ (v21 : Int32), v21 = (if v6 = 0 then (a3 + (fc_grow fc)) else a3) → ∀ (H : Heap) (locs : List Loc) (ls : Array Slot), va_P D vwCl (fcW ac q w1 w2 ((fc_endWays fc), (fc_scoreWays fc), (vp_updL (fc_ways fc) x1.toNatClampNeg 0), (fc_waysBehind fc), (fc_grow fc), (fc_last fc), (fc_wonByA fc), (fc_wonByB fc), (fc_level fc), (fc_endlessA fc), (fc_endlessB fc), (fc_endless fc), (fc_winsOfA fc), (fc_winsOfB fc), (fc_whole fc)) ++ (shW ac qs sh)) H → va_D A (fcW ac q w1 w2 ((fc_endWays fc), (fc_scoreWays fc), (vp_updL (fc_ways fc) x1.toNatClampNeg 0), (fc_waysBehind fc), (fc_grow fc), (fc_last fc), (fc_wonByA fc), (fc_wonByB fc), (fc_level fc), (fc_endlessA fc), (fc_endlessB fc), (fc_endless fc), (fc_winsOfA fc), (fc_winsOfB fc), (fc_whole fc)) ++ (shW ac qs sh)) → va_S A s.heap H locs → lv_has ls 13 [(0, .ref (q 0)), (1, .ref (qs 0)), (2, .int a2), (3, .int a3), (4, .int a4), (5, .int a5), (7, .long x5), (9, .int v6), (10, .int x14)] → W p l e ({ frames := 3, cells := 0, slots := 0, locals := 76 } : Room) s m (([.ref (q 0), .ref (qs 0), .int a2, .int a3, .int a4, .int a5] : List Value).toArray) below meth c H locs 0 0 (MQ below (va_Qv (fun _ : Unit => True) (fun _ => zB D A (fcW ac q w1 w2 res ++ (shW ac qs sh))) A) ([.ref (q 0), .ref (qs 0), .int a2, .int a3, .int a4, .int a5] : List Value).toArray s 0 0 A) (F0 m 116 ls [.int v21]) := by
                intro v21 hv21 H locs ls hP hD hS hl
                have hf := z_let_u hv21 hf
                refine lv_istore (lv' := [(11, .int v21), (0, .ref (q 0)), (1, .ref (qs 0)), (2, .int a2), (3, .int a3), (4, .int a4), (5, .int a5), (7, .long x5), (9, .int v6), (10, .int x14)]) hx hb dX0_leave_116 hl (Nat.le_of_ble_eq_true rfl) rfl (fun ls hl => ?_)
                refine lv_iload hx hb dX0_leave_118 (lv_at hl 8 rfl) ?_
                have hj27 : ∀ (v25 : Int32), v25 = (if v6 = 0 then (a4 + 1) else (a4 - 1)) → ∀ (H : Heap) (locs : List Loc) (ls : Array Slot), va_P D vwCl (fcW ac q w1 w2 ((fc_endWays fc), (fc_scoreWays fc), (vp_updL (fc_ways fc) x1.toNatClampNeg 0), (fc_waysBehind fc), (fc_grow fc), (fc_last fc), (fc_wonByA fc), (fc_wonByB fc), (fc_level fc), (fc_endlessA fc), (fc_endlessB fc), (fc_endless fc), (fc_winsOfA fc), (fc_winsOfB fc), (fc_whole fc)) ++ (shW ac qs sh)) H → va_D A (fcW ac q w1 w2 ((fc_endWays fc), (fc_scoreWays fc), (vp_updL (fc_ways fc) x1.toNatClampNeg 0), (fc_waysBehind fc), (fc_grow fc), (fc_last fc), (fc_wonByA fc), (fc_wonByB fc), (fc_level fc), (fc_endlessA fc), (fc_endlessB fc), (fc_endless fc), (fc_winsOfA fc), (fc_winsOfB fc), (fc_whole fc)) ++ (shW ac qs sh)) → va_S A s.heap H locs → lv_has ls 13 [(0, .ref (q 0)), (1, .ref (qs 0)), (2, .int a2), (3, .int a3), (4, .int a4), (5, .int a5), (7, .long x5), (10, .int x14), (11, .int v21)] → W p l e ({ frames := 3, cells := 0, slots := 0, locals := 76 } : Room) s m (([.ref (q 0), .ref (qs 0), .int a2, .int a3, .int a4, .int a5] : List Value).toArray) below meth c H locs 0 0 (MQ below (va_Qv (fun _ : Unit => True) (fun _ => zB D A (fcW ac q w1 w2 res ++ (shW ac qs sh))) A) ([.ref (q 0), .ref (qs 0), .int a2, .int a3, .int a4, .int a5] : List Value).toArray s 0 0 A) (F0 m 134 ls [.int v25]) := by
                  intro v25 hv25 H locs ls hP hD hS hl
                  have hf := z_let_u hv25 hf
                  refine lv_istore (lv' := [(12, .int v25), (0, .ref (q 0)), (1, .ref (qs 0)), (2, .int a2), (3, .int a3), (4, .int a4), (5, .int a5), (7, .long x5), (10, .int x14), (11, .int v21)]) hx hb dX0_leave_134 hl (Nat.le_of_ble_eq_true rfl) rfl (fun ls hl => ?_)
                  refine lv_aload_n hx hb dX0_leave_136 rfl (lv_at hl 1 rfl) ?_
                  refine lv_aload_n hx hb dX0_leave_137 rfl (lv_at hl 2 rfl) ?_
                  refine lv_iload_n hx hb dX0_leave_138 rfl (lv_at hl 3 rfl) ?_
                  refine lv_iconst (v := 1) hx hb dX0_leave_139 rfl ?_
                  refine lv_iadd hx hb dX0_leave_140 ?_
                  refine lv_iload hx hb dX0_leave_141 (lv_at hl 9 rfl) ?_
                  refine lv_iload hx hb dX0_leave_143 (lv_at hl 0 rfl) ?_
                  refine lv_iload hx hb dX0_leave_145 (lv_at hl 6 rfl) ?_
                  refine lv_lload hx hb dX0_leave_147 (lv_at hl 7 rfl) ?_
                  refine lv_iload hx hb dX0_leave_149 (lv_at hl 8 rfl) ?_
                  refine lv_i2l hx hb dX0_leave_151 rfl ?_
                  refine lv_lmul hx hb dX0_leave_152 ?_
                  obtain ⟨u29, hu29⟩ : ∃ y : Fc, y = Fc_arrive ((fc_endWays fc), (fc_scoreWays fc), (vp_updL (fc_ways fc) x1.toNatClampNeg 0), (fc_waysBehind fc), (fc_grow fc), (fc_last fc), (fc_wonByA fc), (fc_wonByB fc), (fc_level fc), (fc_endlessA fc), (fc_endlessB fc), (fc_endless fc), (fc_winsOfA fc), (fc_winsOfB fc), (fc_whole fc)) sh (a2 + 1) v21 v25 a5 (x5 * x14.toInt64) := ⟨_, rfl⟩
                  have hf := z_let_u hu29 hf
                  refine zc_MVv (As := [.ref (qs 0), .int (a2 + 1), .int v21, .int v25, .int a5, .long (x5 * x14.toInt64)]) (rest := []) (wr := []) (wsc := fcW ac q w1 w2 ((fc_endWays fc), (fc_scoreWays fc), (vp_updL (fc_ways fc) x1.toNatClampNeg 0), (fc_waysBehind fc), (fc_grow fc), (fc_last fc), (fc_wonByA fc), (fc_wonByB fc), (fc_level fc), (fc_endlessA fc), (fc_endlessB fc), (fc_endless fc), (fc_winsOfA fc), (fc_winsOfB fc), (fc_whole fc)) ++ (shW ac qs sh)) (wsc' := fcW ac q w1 w2 u29 ++ (shW ac qs sh)) hx hb hml hown htw (ctX0_arrive l D ac cs q w1 w2 qs H.size ((fc_endWays fc), (fc_scoreWays fc), (vp_updL (fc_ways fc) x1.toNatClampNeg 0), (fc_waysBehind fc), (fc_grow fc), (fc_last fc), (fc_wonByA fc), (fc_wonByB fc), (fc_level fc), (fc_endlessA fc), (fc_endlessB fc), (fc_endless fc), (fc_winsOfA fc), (fc_winsOfB fc), (fc_whole fc)) sh (a2 + 1) v21 v25 a5 (x5 * x14.toInt64)   u29 hu29.symm) (g_V mM_RX0_154 mI_yX0_arrive mS_RX0_yX0_arrive_yX0_arrive mN_RX0 mC_yX0_arrive) rfl (hd_yX0_arrive) ⟨rfl, rfl⟩ ⟨(Nat.le_of_ble_eq_true rfl), (Nat.le_of_ble_eq_true rfl)⟩ hKX hC hS hA hP hD [0, 1, 2, 3, 4, 5, 6, 7] [] rfl (by decide) rfl (by decide) (by decide) 0 rfl rfl rfl hl.1 rfl (Nat.le_of_ble_eq_true rfl) ⟨Nat.zero_le _, Nat.zero_le _⟩ dX0_leave_153 (fun H locs hP hD hS => ?_)
                  have hP : va_P D vwCl (fcW ac q w1 w2 u29 ++ (shW ac qs sh)) H := hP
                  have hD : va_D A (fcW ac q w1 w2 u29 ++ (shW ac qs sh)) := hD
                  exact hj17 u29 hf _ _ ls  hP hD hS (lv_sub hl [1, 2, 3, 4, 5, 6, 7, 8] rfl)
                refine lv_if_ne (tgt := 130) hx hb dX0_leave_120 (by decide) (fun c28 => ?_) (fun c28 => ?_)
                · skip
                  refine lv_iload hx hb dX0_leave_130 (lv_at hl 5 rfl) ?_
                  refine lv_iconst (v := 1) hx hb dX0_leave_132 rfl ?_
                  refine lv_isub hx hb dX0_leave_133 ?_
                  exact hj27 (a4 - 1) (if_neg c28).symm _ _ ls hP hD hS (lv_sub hl [1, 2, 3, 4, 5, 6, 7, 9, 0] rfl)
                · skip
                  refine lv_iload hx hb dX0_leave_123 (lv_at hl 5 rfl) ?_
                  refine lv_iconst (v := 1) hx hb dX0_leave_125 rfl ?_
                  refine lv_iadd hx hb dX0_leave_126 ?_
                  refine lv_goto (tgt := 134) hx hb dX0_leave_127 (by decide) ?_
                  exact hj27 (a4 + 1) (if_pos c28).symm _ _ ls hP hD hS (lv_sub hl [1, 2, 3, 4, 5, 6, 7, 9, 0] rfl)
              refine lv_if_ne (tgt := 115) hx hb dX0_leave_103 (by decide) (fun c24 => ?_) (fun c24 => ?_)
              · skip
                refine lv_iload_n hx hb dX0_leave_115 rfl (lv_at hl 4 rfl) ?_
                exact hj23 a3 (if_neg c24).symm _ _ ls hP hD hS (lv_sub hl [1, 2, 3, 4, 5, 6, 7, 8, 0] rfl)
              · skip
                refine lv_iload_n hx hb dX0_leave_106 rfl (lv_at hl 4 rfl) ?_
                refine lv_aload_n hx hb dX0_leave_107 rfl (lv_at hl 1 rfl) ?_
                refine va_get (D := D) (ci := 0) (v := .int (fc_grow fc)) (C := RX0) (T := TX0) (N := 15) hx hb htw WW_wsX00 hown hKX.1 hP 0 rfl rfl 4 (Nat.le_of_ble_eq_true rfl) (htw _ mF_RX0_125) (fun _ h9 => h9) rfl dX0_leave_108 ?_
                refine lv_iadd hx hb dX0_leave_111 ?_
                refine lv_goto (tgt := 116) hx hb dX0_leave_112 (by decide) ?_
                exact hj23 (a3 + (fc_grow fc)) (if_pos c24).symm _ _ ls hP hD hS (lv_sub hl [1, 2, 3, 4, 5, 6, 7, 8, 0] rfl)
          refine lv_if_ne (tgt := 88) hx hb dX0_leave_80 (by decide) (fun c13 => ?_) (fun c13 => ?_)
          · skip
            refine lv_iload hx hb dX0_leave_88 (lv_at hl 5 rfl) ?_
            refine lv_ineg hx hb dX0_leave_90 ?_
            exact hj12 (-a4) (if_neg c13).symm _ _ ls hP hD hS (lv_sub hl [1, 2, 3, 4, 5, 6, 7, 0] rfl)
          · skip
            refine lv_iload hx hb dX0_leave_83 (lv_at hl 5 rfl) ?_
            refine lv_goto (tgt := 91) hx hb dX0_leave_85 (by decide) ?_
            exact hj12 a4 (if_pos c13).symm _ _ ls hP hD hS (lv_sub hl [1, 2, 3, 4, 5, 6, 7, 0] rfl)
        refine lv_if_ne (tgt := 66) hx hb dX0_leave_58 (by decide) (fun c9 => ?_) (fun c9 => ?_)
        · skip
          refine lv_iconst (v := 1) hx hb dX0_leave_66 rfl ?_
          refine lv_iload hx hb dX0_leave_67 (lv_at hl 7 rfl) ?_
          refine lv_isub hx hb dX0_leave_69 ?_
          exact hj8 (1 - a5) (if_neg c9).symm _ _ ls hP hD hS (lv_sub hl [2, 3, 4, 5, 6, 7, 0] rfl)
        · skip
          refine lv_iload hx hb dX0_leave_61 (lv_at hl 7 rfl) ?_
          refine lv_goto (tgt := 70) hx hb dX0_leave_63 (by decide) ?_
          exact hj8 a5 (if_pos c9).symm _ _ ls hP hD hS (lv_sub hl [2, 3, 4, 5, 6, 7, 0] rfl)
      · have hf := z_p c4 hf
        subst hf
        exact zr_Mv hx hb hr hlocks hP hD hS dX0_leave_37

theorem hd_yX0_clear : hdY yX0_clear 0 := by decide +kernel
def Fc_clear_L17 (kx6 : Fc → Option (Fc)) : Nat → Int32 → Fc → Option (Fc)
  | 0, _, _ => none
  | n4 + 1, x1, fc2 => if 11 ≤ x1 then (kx6 fc2) else (z_gd (z_in x1 11) (z_let (x1 + 1) (fun x10 : Int32 => Fc_clear_L17 kx6 n4 x10 ((vp_updL (fc_endWays fc2) x1.toNatClampNeg 0), (fc_scoreWays fc2), (fc_ways fc2), (fc_waysBehind fc2), (fc_grow fc2), (fc_last fc2), (fc_wonByA fc2), (fc_wonByB fc2), (fc_level fc2), (fc_endlessA fc2), (fc_endlessB fc2), (fc_endless fc2), (fc_winsOfA fc2), (fc_winsOfB fc2), (fc_whole fc2)))))
def Fc_clear_L41 : Nat → Int32 → Fc → Option (Fc)
  | 0, _, _ => none
  | n14 + 1, x11, fc12 => if 36 ≤ x11 then (some fc12) else (if (fc_grow fc12) ≤ 0 then (some fc12) else (z_gd (z_in x11 36) (z_let (x11 + 1) (fun x19 : Int32 => Fc_clear_L41 n14 x19 ((fc_endWays fc12), (vp_updL (fc_scoreWays fc12) x11.toNatClampNeg 0), (fc_ways fc12), (fc_waysBehind fc12), (fc_grow fc12), (fc_last fc12), (fc_wonByA fc12), (fc_wonByB fc12), (fc_level fc12), (fc_endlessA fc12), (fc_endlessB fc12), (fc_endless fc12), (fc_winsOfA fc12), (fc_winsOfB fc12), (fc_whole fc12))))))
def Fc_clear (F : Nat) (fc : Fc) : Option (Fc) := Fc_clear_L17 (fun (fc7 : Fc) => Fc_clear_L41  F 0 fc7) F 0 ((fc_endWays fc), (fc_scoreWays fc), (fc_ways fc), (fc_waysBehind fc), (fc_grow fc), (fc_last fc), 0, 0, 0, (fc_endlessA fc), (fc_endlessB fc), (fc_endless fc), (fc_winsOfA fc), (fc_winsOfB fc), (fc_whole fc))
set_option maxHeartbeats 4000000 in
set_option maxRecDepth 100000 in
theorem ctX0_clear (l : Launch) (D : va_G) (ac cs : Nat → Nat) (q : Nat → Nat) (w1 w2 : Nat) (sz : Nat) (fc : Fc) (F : Nat) (res : Fc) (hf : Fc_clear F fc = some res) : Met l yX0_clear (cWW yX0_clear cX0_clear 2 none) { frames := 0, cells := 0, slots := 0, locals := 0 } (zM D ac cs [.ref (q 0)] (fcW ac q w1 w2 fc) sz) (va_Qv (fun _ : Unit => True) (fun _ => zB D (va_A (fcW ac q w1 w2 fc) sz) (fcW ac q w1 w2 res)) (va_A (fcW ac q w1 w2 fc) sz)) 0 0 (va_A (fcW ac q w1 w2 fc) sz) := by
  refine Met.ofW (cc := cX0_clear) (maxL := 2) (ret := none) (by decide) rfl ?_
  intro p e s m args below meth c s₁ B hml hv
  obtain ⟨rfl, hsz, hP, hKX, hD0, hC⟩ := hv
  have hx := B.exec
  have hb := B.bytes
  have hr := B.returns
  have hts := atoms_spec (ws := cWW yX0_clear cX0_clear 2 none) B.pre
  have htw : ∀ w ∈ WW, w.before _ s = true := fun w h => hts w (List.mem_cons_of_mem _ h)
  have hown : s.vm.findClass RX0 = some m.cls := findClass_of_methodNamed B.named
  have hlocks := B.notSynchronized
  clear hts B
  subst hsz
  have hD := hD0.self (sz := s.heap.size)
  generalize hAe : va_A (fcW ac q w1 w2 fc) s.heap.size = A at hD hC ⊢
  have hA : ∀ q : Nat, s.heap.size ≤ q → A q := fun q h => by rw [← hAe]; exact Or.inr h
  have hS : va_S A s.heap s.heap [] := va_S.rf
  clear hD0 hAe
  have hP : va_P D vwCl (fcW ac q w1 w2 fc) s.heap := hP
  have hl := lv_entry ([.ref (q 0)]) (n := 2) (Nat.le_of_ble_eq_true rfl)
  rw [lg_entry_eq]
  generalize (lg_sl ([.ref (q 0)]) ++ List.replicate (2 - (lg_sl ([.ref (q 0)])).length) Slot.unset).toArray = ls at hl ⊢
  have hl : lv_has ls 2 [(0, .ref (q 0))] := hl
  unfold Fc_clear at hf
  show W p l e ({ frames := 0, cells := 0, slots := 0, locals := 0 } : Room) s m _ below meth c s.heap [] 0 0 _ (F0 m 0 ls [])
  refine lv_aload_n hx hb dX0_clear_0 rfl (lv_at hl 0 rfl) ?_
  refine lv_lconst (v := 0) hx hb dX0_clear_1 rfl ?_
  refine va_put (D := D) (ci := 0) (v := .long 0) (ty := tyX0 6) (C := RX0) (T := TX0) (N := 15) hx hb htw WW_wsX00 tyX0 tyX0_ok nmX0 hown hKX.1 hP hD hS 0 rfl rfl 6 (Nat.le_of_ble_eq_true rfl) (htw _ mF_RX0_74) (fun _ h9 => h9) rfl (tyX0_ok 6 (Nat.le_of_ble_eq_true rfl)) rfl rfl (Nat.le_of_ble_eq_true rfl) dX0_clear_2 (fun H locs hP hD hS => ?_)
  have hP : va_P D vwCl (fcW ac q w1 w2 ((fc_endWays fc), (fc_scoreWays fc), (fc_ways fc), (fc_waysBehind fc), (fc_grow fc), (fc_last fc), 0, (fc_wonByB fc), (fc_level fc), (fc_endlessA fc), (fc_endlessB fc), (fc_endless fc), (fc_winsOfA fc), (fc_winsOfB fc), (fc_whole fc))) H := hP
  have hD : va_D A (fcW ac q w1 w2 ((fc_endWays fc), (fc_scoreWays fc), (fc_ways fc), (fc_waysBehind fc), (fc_grow fc), (fc_last fc), 0, (fc_wonByB fc), (fc_level fc), (fc_endlessA fc), (fc_endlessB fc), (fc_endless fc), (fc_winsOfA fc), (fc_winsOfB fc), (fc_whole fc))) := hD
  refine lv_aload_n hx hb dX0_clear_5 rfl (lv_at hl 0 rfl) ?_
  refine lv_lconst (v := 0) hx hb dX0_clear_6 rfl ?_
  refine va_put (D := D) (ci := 0) (v := .long 0) (ty := tyX0 7) (C := RX0) (T := TX0) (N := 15) hx hb htw WW_wsX00 tyX0 tyX0_ok nmX0 hown hKX.1 hP hD hS 0 rfl rfl 7 (Nat.le_of_ble_eq_true rfl) (htw _ mF_RX0_86) (fun _ h9 => h9) rfl (tyX0_ok 7 (Nat.le_of_ble_eq_true rfl)) rfl rfl (Nat.le_of_ble_eq_true rfl) dX0_clear_7 (fun H locs hP hD hS => ?_)
  have hP : va_P D vwCl (fcW ac q w1 w2 ((fc_endWays fc), (fc_scoreWays fc), (fc_ways fc), (fc_waysBehind fc), (fc_grow fc), (fc_last fc), 0, 0, (fc_level fc), (fc_endlessA fc), (fc_endlessB fc), (fc_endless fc), (fc_winsOfA fc), (fc_winsOfB fc), (fc_whole fc))) H := hP
  have hD : va_D A (fcW ac q w1 w2 ((fc_endWays fc), (fc_scoreWays fc), (fc_ways fc), (fc_waysBehind fc), (fc_grow fc), (fc_last fc), 0, 0, (fc_level fc), (fc_endlessA fc), (fc_endlessB fc), (fc_endless fc), (fc_winsOfA fc), (fc_winsOfB fc), (fc_whole fc))) := hD
  refine lv_aload_n hx hb dX0_clear_10 rfl (lv_at hl 0 rfl) ?_
  refine lv_lconst (v := 0) hx hb dX0_clear_11 rfl ?_
  refine va_put (D := D) (ci := 0) (v := .long 0) (ty := tyX0 8) (C := RX0) (T := TX0) (N := 15) hx hb htw WW_wsX00 tyX0 tyX0_ok nmX0 hown hKX.1 hP hD hS 0 rfl rfl 8 (Nat.le_of_ble_eq_true rfl) (htw _ mF_RX0_80) (fun _ h9 => h9) rfl (tyX0_ok 8 (Nat.le_of_ble_eq_true rfl)) rfl rfl (Nat.le_of_ble_eq_true rfl) dX0_clear_12 (fun H locs hP hD hS => ?_)
  have hP : va_P D vwCl (fcW ac q w1 w2 ((fc_endWays fc), (fc_scoreWays fc), (fc_ways fc), (fc_waysBehind fc), (fc_grow fc), (fc_last fc), 0, 0, 0, (fc_endlessA fc), (fc_endlessB fc), (fc_endless fc), (fc_winsOfA fc), (fc_winsOfB fc), (fc_whole fc))) H := hP
  have hD : va_D A (fcW ac q w1 w2 ((fc_endWays fc), (fc_scoreWays fc), (fc_ways fc), (fc_waysBehind fc), (fc_grow fc), (fc_last fc), 0, 0, 0, (fc_endlessA fc), (fc_endlessB fc), (fc_endless fc), (fc_winsOfA fc), (fc_winsOfB fc), (fc_whole fc))) := hD
  refine lv_iconst (v := 0) hx hb dX0_clear_15 rfl ?_
  refine lv_istore_n (lv' := [(1, .int 0), (0, .ref (q 0))]) hx hb dX0_clear_16 rfl hl (Nat.le_of_ble_eq_true rfl) rfl (fun ls hl => ?_)
  have hL3 : ∀ (kx6 : Fc → Option (Fc)) (hkx6 : ∀ (fc7 : Fc), kx6 fc7 = some res → ∀ (H : Heap) (locs : List Loc) (ls : Array Slot), va_P D vwCl (fcW ac q w1 w2 fc7) H → va_D A (fcW ac q w1 w2 fc7) → va_S A s.heap H locs → lv_has ls 2 [(0, .ref (q 0))] → W p l e ({ frames := 0, cells := 0, slots := 0, locals := 0 } : Room) s m (([.ref (q 0)] : List Value).toArray) below meth c H locs 0 0 (MQ below (va_Qv (fun _ : Unit => True) (fun _ => zB D A (fcW ac q w1 w2 res)) A) ([.ref (q 0)] : List Value).toArray s 0 0 A) (F0 m 39 ls [])) (n4 : Nat) (x1 : Int32) (fc2 : Fc), Fc_clear_L17 kx6 n4 x1 fc2 = some res → ∀ (H : Heap) (locs : List Loc) (ls : Array Slot), va_P D vwCl (fcW ac q w1 w2 fc2) H → va_D A (fcW ac q w1 w2 fc2) → va_S A s.heap H locs → lv_has ls 2 [(0, .ref (q 0)), (1, .int x1)] → W p l e ({ frames := 0, cells := 0, slots := 0, locals := 0 } : Room) s m (([.ref (q 0)] : List Value).toArray) below meth c H locs 0 0 (MQ below (va_Qv (fun _ : Unit => True) (fun _ => zB D A (fcW ac q w1 w2 res)) A) ([.ref (q 0)] : List Value).toArray s 0 0 A) (F0 m 17 ls []) := by
    intro kx6 hkx6 n4
    induction n4 with
    | zero => intro x1 fc2 hf; rw [Fc_clear_L17] at hf; cases hf
    | succ n4 ih5 =>
      intro x1 fc2 hf H locs ls hP hD hS hl
      rw [Fc_clear_L17] at hf
      refine lv_iload_n hx hb dX0_clear_17 rfl (lv_at hl 1 rfl) ?_
      refine lv_aload_n hx hb dX0_clear_18 rfl (lv_at hl 0 rfl) ?_
      refine va_get (D := D) (ci := 0) (v := .ref (q 1)) (C := RX0) (T := TX0) (N := 15) hx hb htw WW_wsX00 hown hKX.1 hP 0 rfl rfl 0 (Nat.le_of_ble_eq_true rfl) (htw _ mF_RX0_9) (fun _ h9 => h9) rfl dX0_clear_19 ?_
      refine va_alen hx hb hKX.1 hP 1 1 rfl rfl (v := 11) rfl dX0_clear_22 ?_
      refine lv_icmp_ge (tgt := 39) hx hb dX0_clear_23 (by decide) (fun c8 => ?_) (fun c8 => ?_)
      · have hf := z_p c8 hf
        exact hkx6 fc2 hf _ _ ls  hP hD hS (lv_sub hl [0] rfl)
      · have hf := z_n c8 hf
        refine lv_aload_n hx hb dX0_clear_26 rfl (lv_at hl 0 rfl) ?_
        refine va_get (D := D) (ci := 0) (v := .ref (q 1)) (C := RX0) (T := TX0) (N := 15) hx hb htw WW_wsX00 hown hKX.1 hP 0 rfl rfl 0 (Nat.le_of_ble_eq_true rfl) (htw _ mF_RX0_9) (fun _ h9 => h9) rfl dX0_clear_27 ?_
        refine lv_iload_n hx hb dX0_clear_30 rfl (lv_at hl 1 rfl) ?_
        refine lv_lconst (v := 0) hx hb dX0_clear_31 rfl ?_
        obtain ⟨g9, hf⟩ := z_gd_u hf
        refine va_last hx hb hKX.1 hP hD hS 1 1 rfl rfl (z_in_u g9) dX0_clear_32 (fun H locs hP hD hS => ?_)
        have hP : va_P D vwCl (fcW ac q w1 w2 ((vp_updL (fc_endWays fc2) x1.toNatClampNeg 0), (fc_scoreWays fc2), (fc_ways fc2), (fc_waysBehind fc2), (fc_grow fc2), (fc_last fc2), (fc_wonByA fc2), (fc_wonByB fc2), (fc_level fc2), (fc_endlessA fc2), (fc_endlessB fc2), (fc_endless fc2), (fc_winsOfA fc2), (fc_winsOfB fc2), (fc_whole fc2))) H := hP
        have hD : va_D A (fcW ac q w1 w2 ((vp_updL (fc_endWays fc2) x1.toNatClampNeg 0), (fc_scoreWays fc2), (fc_ways fc2), (fc_waysBehind fc2), (fc_grow fc2), (fc_last fc2), (fc_wonByA fc2), (fc_wonByB fc2), (fc_level fc2), (fc_endlessA fc2), (fc_endlessB fc2), (fc_endless fc2), (fc_winsOfA fc2), (fc_winsOfB fc2), (fc_whole fc2))) := hD
        obtain ⟨x10, hx10⟩ : ∃ y : Int32, y = (x1 + 1) := ⟨_, rfl⟩
        have hf := z_let_u hx10 hf
        refine lv_iinc (v := x10) (lv' := [(1, .int x10), (0, .ref (q 0))]) hx hb dX0_clear_33 hl (k := 1) rfl (by rw [hx10]; rfl) (Nat.le_of_ble_eq_true rfl) rfl (fun ls hl => ?_)
        refine lv_goto (tgt := 17) hx hb dX0_clear_36 (by decide) ?_
        exact ih5 x10 ((vp_updL (fc_endWays fc2) x1.toNatClampNeg 0), (fc_scoreWays fc2), (fc_ways fc2), (fc_waysBehind fc2), (fc_grow fc2), (fc_last fc2), (fc_wonByA fc2), (fc_wonByB fc2), (fc_level fc2), (fc_endlessA fc2), (fc_endlessB fc2), (fc_endless fc2), (fc_winsOfA fc2), (fc_winsOfB fc2), (fc_whole fc2)) hf _ _ ls  hP hD hS (lv_sub hl [1, 0] rfl)
  refine hL3 _ ?_ F 0 ((fc_endWays fc), (fc_scoreWays fc), (fc_ways fc), (fc_waysBehind fc), (fc_grow fc), (fc_last fc), 0, 0, 0, (fc_endlessA fc), (fc_endlessB fc), (fc_endless fc), (fc_winsOfA fc), (fc_winsOfB fc), (fc_whole fc)) hf _ _ ls  hP hD hS (lv_sub hl [1, 0] rfl)
  intro fc7 hf H locs ls hP hD hS hl
  refine lv_iconst (v := 0) hx hb dX0_clear_39 rfl ?_
  refine lv_istore_n (lv' := [(1, .int 0), (0, .ref (q 0))]) hx hb dX0_clear_40 rfl hl (Nat.le_of_ble_eq_true rfl) rfl (fun ls hl => ?_)
  have hL13 : ∀ (n14 : Nat) (x11 : Int32) (fc12 : Fc), Fc_clear_L41 n14 x11 fc12 = some res → ∀ (H : Heap) (locs : List Loc) (ls : Array Slot), va_P D vwCl (fcW ac q w1 w2 fc12) H → va_D A (fcW ac q w1 w2 fc12) → va_S A s.heap H locs → lv_has ls 2 [(0, .ref (q 0)), (1, .int x11)] → W p l e ({ frames := 0, cells := 0, slots := 0, locals := 0 } : Room) s m (([.ref (q 0)] : List Value).toArray) below meth c H locs 0 0 (MQ below (va_Qv (fun _ : Unit => True) (fun _ => zB D A (fcW ac q w1 w2 res)) A) ([.ref (q 0)] : List Value).toArray s 0 0 A) (F0 m 41 ls []) := by
    intro n14
    induction n14 with
    | zero => intro x11 fc12 hf; rw [Fc_clear_L41] at hf; cases hf
    | succ n14 ih15 =>
      intro x11 fc12 hf H locs ls hP hD hS hl
      rw [Fc_clear_L41] at hf
      refine lv_iload_n hx hb dX0_clear_41 rfl (lv_at hl 1 rfl) ?_
      refine lv_aload_n hx hb dX0_clear_42 rfl (lv_at hl 0 rfl) ?_
      refine va_get (D := D) (ci := 0) (v := .ref (q 2)) (C := RX0) (T := TX0) (N := 15) hx hb htw WW_wsX00 hown hKX.1 hP 0 rfl rfl 1 (Nat.le_of_ble_eq_true rfl) (htw _ mF_RX0_15) (fun _ h9 => h9) rfl dX0_clear_43 ?_
      refine va_alen hx hb hKX.1 hP 2 1 rfl rfl (v := 36) rfl dX0_clear_46 ?_
      refine lv_icmp_ge (tgt := 70) hx hb dX0_clear_47 (by decide) (fun c16 => ?_) (fun c16 => ?_)
      · have hf := z_p c16 hf
        obtain rfl := Option.some.inj hf
        exact zr_Mv hx hb hr hlocks hP hD hS dX0_clear_70
      · have hf := z_n c16 hf
        refine lv_aload_n hx hb dX0_clear_50 rfl (lv_at hl 0 rfl) ?_
        refine va_get (D := D) (ci := 0) (v := .int (fc_grow fc12)) (C := RX0) (T := TX0) (N := 15) hx hb htw WW_wsX00 hown hKX.1 hP 0 rfl rfl 4 (Nat.le_of_ble_eq_true rfl) (htw _ mF_RX0_125) (fun _ h9 => h9) rfl dX0_clear_51 ?_
        refine lv_if_le (tgt := 70) hx hb dX0_clear_54 (by decide) (fun c17 => ?_) (fun c17 => ?_)
        · have hf := z_p c17 hf
          obtain rfl := Option.some.inj hf
          exact zr_Mv hx hb hr hlocks hP hD hS dX0_clear_70
        · have hf := z_n c17 hf
          refine lv_aload_n hx hb dX0_clear_57 rfl (lv_at hl 0 rfl) ?_
          refine va_get (D := D) (ci := 0) (v := .ref (q 2)) (C := RX0) (T := TX0) (N := 15) hx hb htw WW_wsX00 hown hKX.1 hP 0 rfl rfl 1 (Nat.le_of_ble_eq_true rfl) (htw _ mF_RX0_15) (fun _ h9 => h9) rfl dX0_clear_58 ?_
          refine lv_iload_n hx hb dX0_clear_61 rfl (lv_at hl 1 rfl) ?_
          refine lv_lconst (v := 0) hx hb dX0_clear_62 rfl ?_
          obtain ⟨g18, hf⟩ := z_gd_u hf
          refine va_last hx hb hKX.1 hP hD hS 2 1 rfl rfl (z_in_u g18) dX0_clear_63 (fun H locs hP hD hS => ?_)
          have hP : va_P D vwCl (fcW ac q w1 w2 ((fc_endWays fc12), (vp_updL (fc_scoreWays fc12) x11.toNatClampNeg 0), (fc_ways fc12), (fc_waysBehind fc12), (fc_grow fc12), (fc_last fc12), (fc_wonByA fc12), (fc_wonByB fc12), (fc_level fc12), (fc_endlessA fc12), (fc_endlessB fc12), (fc_endless fc12), (fc_winsOfA fc12), (fc_winsOfB fc12), (fc_whole fc12))) H := hP
          have hD : va_D A (fcW ac q w1 w2 ((fc_endWays fc12), (vp_updL (fc_scoreWays fc12) x11.toNatClampNeg 0), (fc_ways fc12), (fc_waysBehind fc12), (fc_grow fc12), (fc_last fc12), (fc_wonByA fc12), (fc_wonByB fc12), (fc_level fc12), (fc_endlessA fc12), (fc_endlessB fc12), (fc_endless fc12), (fc_winsOfA fc12), (fc_winsOfB fc12), (fc_whole fc12))) := hD
          obtain ⟨x19, hx19⟩ : ∃ y : Int32, y = (x11 + 1) := ⟨_, rfl⟩
          have hf := z_let_u hx19 hf
          refine lv_iinc (v := x19) (lv' := [(1, .int x19), (0, .ref (q 0))]) hx hb dX0_clear_64 hl (k := 1) rfl (by rw [hx19]; rfl) (Nat.le_of_ble_eq_true rfl) rfl (fun ls hl => ?_)
          refine lv_goto (tgt := 41) hx hb dX0_clear_67 (by decide) ?_
          exact ih15 x19 ((fc_endWays fc12), (vp_updL (fc_scoreWays fc12) x11.toNatClampNeg 0), (fc_ways fc12), (fc_waysBehind fc12), (fc_grow fc12), (fc_last fc12), (fc_wonByA fc12), (fc_wonByB fc12), (fc_level fc12), (fc_endlessA fc12), (fc_endlessB fc12), (fc_endless fc12), (fc_winsOfA fc12), (fc_winsOfB fc12), (fc_whole fc12)) hf _ _ ls  hP hD hS (lv_sub hl [1, 0] rfl)
  refine hL13  F 0 fc7 hf _ _ ls  hP hD hS (lv_sub hl [1, 0] rfl)

theorem hd_yX0_run : hdY yX0_run 2 := by decide +kernel
def Fc_run_L123 (sh : Sh) (x10 : Int32) (x17 : Int32) (x18 : Int32) (kx31 : Fc → Option (Fc)) : Nat → Int32 → Fc → Option (Fc)
  | 0, _, _ => none
  | n29 + 1, x26, fc27 => if x17 < x26 then (kx31 fc27) else (z_let (Fc_leave fc27 sh x10 x18 x26 0) (fun u34 : Fc => z_let (Fc_leave u34 sh x10 x18 x26 1) (fun u35 : Fc => z_let (x26 + 1) (fun x36 : Int32 => Fc_run_L123 sh x10 x17 x18 kx31 n29 x36 u35))))
def Fc_run_L107 (F : Nat) (sh : Sh) (x7 : Int32) (x10 : Int32) (x16 : Int32) (x17 : Int32) (kx23 : Fc → Option (Fc)) : Nat → Int32 → Fc → Option (Fc)
  | 0, _, _ => none
  | n21 + 1, x18, fc19 => if ((fc_grow fc19) * x7) < x18 then (kx23 fc19) else (Fc_run_L123 sh x10 x17 x18 (fun (fc32 : Fc) => z_let (x18 + 1) (fun x37 : Int32 => Fc_run_L107 F sh x7 x10 x16 x17 kx23 n21 x37 fc32)) F x16 fc19)
def Fc_run_L66 (F : Nat) (sh : Sh) (x3 : Int32) (x5 : Int32) (x7 : Int32) : Nat → Int32 → Fc → Option (Fc)
  | 0, _, _ => none
  | n13 + 1, x10, fc11 => if (fc_last fc11) ≤ x10 then (some fc11) else (z_let (if (-x7) < (x5 - (x10 - x3)) then (x5 - (x10 - x3)) else (-x7)) (fun x16 : Int32 => z_let (if (x5 + (x10 - x3)) < x7 then (x5 + (x10 - x3)) else x7) (fun x17 : Int32 => Fc_run_L107 F sh x7 x10 x16 x17 (fun (fc24 : Fc) => z_let (x10 + 1) (fun x38 : Int32 => Fc_run_L66 F sh x3 x5 x7 n13 x38 ((fc_endWays fc24), (fc_scoreWays fc24), (fc_waysBehind fc24), (fc_ways fc24), (fc_grow fc24), (fc_last fc24), (fc_wonByA fc24), (fc_wonByB fc24), (fc_level fc24), (fc_endlessA fc24), (fc_endlessB fc24), (fc_endless fc24), (fc_winsOfA fc24), (fc_winsOfB fc24), (fc_whole fc24)))) F 0 fc11)))
def Fc_run (F : Nat) (fc : Fc) (sh : Sh) (a2 : Int32) : Option (Fc) := z_let (2 * (sh_shooters sh)) (fun x1 : Int32 => z_bd (Fc_clear F ((fc_endWays fc), (fc_scoreWays fc), (fc_ways fc), (fc_waysBehind fc), a2, x1, (fc_wonByA fc), (fc_wonByB fc), (fc_level fc), (fc_endlessA fc), (fc_endlessB fc), (fc_endless fc), (fc_winsOfA fc), (fc_winsOfB fc), (fc_whole fc))) (fun u2 : Fc => z_let (sh_kicks sh) (fun x3 : Int32 => if x3 < (fc_last u2) then (z_let (Sh_lead sh) (fun x5 : Int32 => z_let (Fc_add (fc_ways u2) 132 (Fc_at 0 x5 (Sh_leader sh)) 1) (fun u6 : (Nat → Int64) => z_let (sh_shooters sh) (fun x7 : Int32 => Fc_run_L66 F sh x3 x5 x7 F x3 ((fc_endWays u2), (fc_scoreWays u2), u6, (fc_waysBehind u2), (fc_grow u2), (fc_last u2), (fc_wonByA u2), (fc_wonByB u2), (fc_level u2), (fc_endlessA u2), (fc_endlessB u2), (fc_endless u2), (fc_winsOfA u2), (fc_winsOfB u2), (fc_whole u2)))))) else (some u2))))
set_option maxHeartbeats 4000000 in
set_option maxRecDepth 100000 in
theorem ctX0_run (l : Launch) (D : va_G) (ac cs : Nat → Nat) (q : Nat → Nat) (w1 w2 : Nat) (qs : Nat → Nat) (sz : Nat) (fc : Fc) (sh : Sh) (a2 : Int32) (F : Nat) (res : Fc) (hf : Fc_run F fc sh a2 = some res) : Met l yX0_run (cWW yX0_run cX0_run 11 none) { frames := 4, cells := 0, slots := 0, locals := 108 } (zM D ac cs [.ref (q 0), .ref (qs 0), .int a2] (fcW ac q w1 w2 fc ++ (shW ac qs sh)) sz) (va_Qv (fun _ : Nat × Nat => True) (fun u => zB D (va_A (fcW ac q w1 w2 fc ++ (shW ac qs sh)) sz) (fcW ac q u.1 u.2 res ++ (shW ac qs sh))) (va_A (fcW ac q w1 w2 fc ++ (shW ac qs sh)) sz)) 0 0 (va_A (fcW ac q w1 w2 fc ++ (shW ac qs sh)) sz) := by
  refine Met.ofW (cc := cX0_run) (maxL := 11) (ret := none) (by decide) rfl ?_
  intro p e s m args below meth c s₁ B hml hv
  obtain ⟨rfl, hsz, hP, hKX, hD0, hC⟩ := hv
  have hx := B.exec
  have hb := B.bytes
  have hr := B.returns
  have hts := atoms_spec (ws := cWW yX0_run cX0_run 11 none) B.pre
  have htw : ∀ w ∈ WW, w.before _ s = true := fun w h => hts w (List.mem_cons_of_mem _ h)
  have hown : s.vm.findClass RX0 = some m.cls := findClass_of_methodNamed B.named
  have hlocks := B.notSynchronized
  clear hts B
  subst hsz
  have hD := hD0.self (sz := s.heap.size)
  generalize hAe : va_A (fcW ac q w1 w2 fc ++ (shW ac qs sh)) s.heap.size = A at hD hC ⊢
  have hA : ∀ q : Nat, s.heap.size ≤ q → A q := fun q h => by rw [← hAe]; exact Or.inr h
  have hS : va_S A s.heap s.heap [] := va_S.rf
  clear hD0 hAe
  have hP : va_P D vwCl (fcW ac q w1 w2 fc ++ (shW ac qs sh)) s.heap := hP
  have hl := lv_entry ([.ref (q 0), .ref (qs 0), .int a2]) (n := 11) (Nat.le_of_ble_eq_true rfl)
  rw [lg_entry_eq]
  generalize (lg_sl ([.ref (q 0), .ref (qs 0), .int a2]) ++ List.replicate (11 - (lg_sl ([.ref (q 0), .ref (qs 0), .int a2])).length) Slot.unset).toArray = ls at hl ⊢
  have hl : lv_has ls 11 [(0, .ref (q 0)), (1, .ref (qs 0)), (2, .int a2)] := hl
  unfold Fc_run at hf
  show W p l e ({ frames := 4, cells := 0, slots := 0, locals := 108 } : Room) s m _ below meth c s.heap [] 0 0 _ (F0 m 0 ls [])
  refine lv_aload_n hx hb dX0_run_0 rfl (lv_at hl 0 rfl) ?_
  refine lv_iload_n hx hb dX0_run_1 rfl (lv_at hl 2 rfl) ?_
  refine va_put (D := D) (ci := 0) (v := .int a2) (ty := tyX0 4) (C := RX0) (T := TX0) (N := 15) hx hb htw WW_wsX00 tyX0 tyX0_ok nmX0 hown hKX.1 hP hD hS 0 rfl rfl 4 (Nat.le_of_ble_eq_true rfl) (htw _ mF_RX0_125) (fun _ h9 => h9) rfl (tyX0_ok 4 (Nat.le_of_ble_eq_true rfl)) rfl rfl (Nat.le_of_ble_eq_true rfl) dX0_run_2 (fun H locs hP hD hS => ?_)
  have hP : va_P D vwCl (fcW ac q w1 w2 ((fc_endWays fc), (fc_scoreWays fc), (fc_ways fc), (fc_waysBehind fc), a2, (fc_last fc), (fc_wonByA fc), (fc_wonByB fc), (fc_level fc), (fc_endlessA fc), (fc_endlessB fc), (fc_endless fc), (fc_winsOfA fc), (fc_winsOfB fc), (fc_whole fc)) ++ (shW ac qs sh)) H := hP
  have hD : va_D A (fcW ac q w1 w2 ((fc_endWays fc), (fc_scoreWays fc), (fc_ways fc), (fc_waysBehind fc), a2, (fc_last fc), (fc_wonByA fc), (fc_wonByB fc), (fc_level fc), (fc_endlessA fc), (fc_endlessB fc), (fc_endless fc), (fc_winsOfA fc), (fc_winsOfB fc), (fc_whole fc)) ++ (shW ac qs sh)) := hD
  refine lv_aload_n hx hb dX0_run_5 rfl (lv_at hl 0 rfl) ?_
  refine lv_iconst (v := 2) hx hb dX0_run_6 rfl ?_
  refine lv_aload_n hx hb dX0_run_7 rfl (lv_at hl 1 rfl) ?_
  refine va_getN (D := D) (ci := 4) (v := .int (sh_shooters sh)) (C := RX4) (T := TX4) (N := 10) hx hb htw WW_wsX40 hown hKX.1 hP 5 rfl rfl 0 (Nat.le_of_ble_eq_true rfl) (va_Nw.use rfl (hKX.2 _ (List.mem_of_getElem? (i := 4) rfl))) (fun _ h9 => h9) rfl dX0_run_8 ?_
  refine lv_imul hx hb dX0_run_11 ?_
  refine lv_topi (fun x1 hx1 => ?_)
  have hf := z_let_u hx1 hf
  refine va_put (D := D) (ci := 0) (v := .int x1) (ty := tyX0 5) (C := RX0) (T := TX0) (N := 15) hx hb htw WW_wsX00 tyX0 tyX0_ok nmX0 hown hKX.1 hP hD hS 0 rfl rfl 5 (Nat.le_of_ble_eq_true rfl) (htw _ mF_RX0_92) (fun _ h9 => h9) rfl (tyX0_ok 5 (Nat.le_of_ble_eq_true rfl)) rfl rfl (Nat.le_of_ble_eq_true rfl) dX0_run_12 (fun H locs hP hD hS => ?_)
  have hP : va_P D vwCl (fcW ac q w1 w2 ((fc_endWays fc), (fc_scoreWays fc), (fc_ways fc), (fc_waysBehind fc), a2, x1, (fc_wonByA fc), (fc_wonByB fc), (fc_level fc), (fc_endlessA fc), (fc_endlessB fc), (fc_endless fc), (fc_winsOfA fc), (fc_winsOfB fc), (fc_whole fc)) ++ (shW ac qs sh)) H := hP
  have hD : va_D A (fcW ac q w1 w2 ((fc_endWays fc), (fc_scoreWays fc), (fc_ways fc), (fc_waysBehind fc), a2, x1, (fc_wonByA fc), (fc_wonByB fc), (fc_level fc), (fc_endlessA fc), (fc_endlessB fc), (fc_endless fc), (fc_winsOfA fc), (fc_winsOfB fc), (fc_whole fc)) ++ (shW ac qs sh)) := hD
  refine lv_aload_n hx hb dX0_run_15 rfl (lv_at hl 0 rfl) ?_
  obtain ⟨u2, hu2, hf⟩ := z_bd_u hf
  refine zc_MVv (As := []) (rest := []) (wr := shW ac qs sh) (wsc := fcW ac q w1 w2 ((fc_endWays fc), (fc_scoreWays fc), (fc_ways fc), (fc_waysBehind fc), a2, x1, (fc_wonByA fc), (fc_wonByB fc), (fc_level fc), (fc_endlessA fc), (fc_endlessB fc), (fc_endless fc), (fc_winsOfA fc), (fc_winsOfB fc), (fc_whole fc))) (wsc' := fcW ac q w1 w2 u2) hx hb hml hown htw (ctX0_clear l D ac cs q w1 w2 H.size ((fc_endWays fc), (fc_scoreWays fc), (fc_ways fc), (fc_waysBehind fc), a2, x1, (fc_wonByA fc), (fc_wonByB fc), (fc_level fc), (fc_endlessA fc), (fc_endlessB fc), (fc_endless fc), (fc_winsOfA fc), (fc_winsOfB fc), (fc_whole fc))    F u2 hu2) (g_V mM_RX0_128 mI_yX0_clear mS_RX0_yX0_clear_yX0_clear mN_RX0 mC_yX0_clear) rfl (hd_yX0_clear) ⟨rfl, rfl⟩ ⟨(Nat.le_of_ble_eq_true rfl), (Nat.le_of_ble_eq_true rfl)⟩ hKX hC hS hA hP hD [0, 1, 2, 3, 4] [5, 6, 7] rfl (by decide) rfl (by decide) (by decide) 0 rfl rfl rfl hl.1 rfl (Nat.le_of_ble_eq_true rfl) ⟨Nat.zero_le _, Nat.zero_le _⟩ dX0_run_16 (fun H locs hP hD hS => ?_)
  have hP : va_P D vwCl (fcW ac q w1 w2 u2 ++ (shW ac qs sh)) H := hP.sub [3, 4, 5, 6, 7, 0, 1, 2] rfl
  have hD : va_D A (fcW ac q w1 w2 u2 ++ (shW ac qs sh)) := hD.sub [3, 4, 5, 6, 7, 0, 1, 2] (by decide) rfl
  refine lv_aload_n hx hb dX0_run_19 rfl (lv_at hl 1 rfl) ?_
  refine va_getN (D := D) (ci := 4) (v := .int (sh_kicks sh)) (C := RX4) (T := TX4) (N := 10) hx hb htw WW_wsX40 hown hKX.1 hP 5 rfl rfl 3 (Nat.le_of_ble_eq_true rfl) (va_Nw.use rfl (hKX.2 _ (List.mem_of_getElem? (i := 10) rfl))) (fun _ h9 => h9) rfl dX0_run_20 ?_
  refine lv_topi (fun x3 hx3 => ?_)
  have hf := z_let_u hx3 hf
  refine lv_istore_n (lv' := [(3, .int x3), (0, .ref (q 0)), (1, .ref (qs 0)), (2, .int a2)]) hx hb dX0_run_23 rfl hl (Nat.le_of_ble_eq_true rfl) rfl (fun ls hl => ?_)
  refine lv_iload_n hx hb dX0_run_24 rfl (lv_at hl 0 rfl) ?_
  refine lv_aload_n hx hb dX0_run_25 rfl (lv_at hl 1 rfl) ?_
  refine va_get (D := D) (ci := 0) (v := .int (fc_last u2)) (C := RX0) (T := TX0) (N := 15) hx hb htw WW_wsX00 hown hKX.1 hP 0 rfl rfl 5 (Nat.le_of_ble_eq_true rfl) (htw _ mF_RX0_92) (fun _ h9 => h9) rfl dX0_run_26 ?_
  refine lv_icmp_lt (tgt := 33) hx hb dX0_run_29 (by decide) (fun c4 => ?_) (fun c4 => ?_)
  · have hf := z_p c4 hf
    refine lv_aload_n hx hb dX0_run_33 rfl (lv_at hl 2 rfl) ?_
    refine zc_RVi (As := []) (rest := []) hx hb hml hown htw (ctX4_lead l D ac cs qs sh    _ rfl) (g_V mM_RX0_111 mI_yX4_lead mS_RX4_yX4_lead_yX4_lead mN_RX4 mC_yX4_lead) rfl (hd_yX4_lead) ⟨rfl, rfl⟩ ⟨(Nat.le_of_ble_eq_true rfl), (Nat.le_of_ble_eq_true rfl)⟩ hKX hC hS (hP.sub [5, 6, 7] rfl) 4 rfl rfl rfl hl.1 rfl (Nat.le_of_ble_eq_true rfl) ⟨Nat.zero_le _, Nat.zero_le _⟩ dX0_run_34 ?_
    refine lv_topi (fun x5 hx5 => ?_)
    have hf := z_let_u hx5 hf
    refine lv_istore (lv' := [(4, .int x5), (3, .int x3), (0, .ref (q 0)), (1, .ref (qs 0)), (2, .int a2)]) hx hb dX0_run_37 hl (Nat.le_of_ble_eq_true rfl) rfl (fun ls hl => ?_)
    refine lv_aload_n hx hb dX0_run_39 rfl (lv_at hl 2 rfl) ?_
    refine va_get (D := D) (ci := 0) (v := .ref (w1)) (C := RX0) (T := TX0) (N := 15) hx hb htw WW_wsX00 hown hKX.1 hP 0 rfl rfl 2 (Nat.le_of_ble_eq_true rfl) (htw _ mF_RX0_18) (fun _ h9 => h9) rfl dX0_run_40 ?_
    refine lv_iconst (v := 0) hx hb dX0_run_43 rfl ?_
    refine lv_iload hx hb dX0_run_44 (lv_at hl 0 rfl) ?_
    refine lv_aload_n hx hb dX0_run_46 rfl (lv_at hl 3 rfl) ?_
    refine zc_RVi (As := []) (rest := [.int x5, .int 0, .ref (w1)]) hx hb hml hown htw (ctX4_leader l D ac cs qs sh    _ rfl) (g_V mM_RX0_131 mI_yX4_leader mS_RX4_yX4_leader_yX4_leader mN_RX4 mC_yX4_leader) rfl (hd_yX4_leader) ⟨rfl, rfl⟩ ⟨(Nat.le_of_ble_eq_true rfl), (Nat.le_of_ble_eq_true rfl)⟩ hKX hC hS (hP.sub [5, 6, 7] rfl) 4 rfl rfl rfl hl.1 rfl (Nat.le_of_ble_eq_true rfl) ⟨Nat.zero_le _, Nat.zero_le _⟩ dX0_run_47 ?_
    refine zc_RSi (As := [.int 0, .int x5, .int (Sh_leader sh)]) (rest := [.ref (w1)]) hx hb hml hown htw (ctX0_at l D ac cs   0 x5 (Sh_leader sh)   _ rfl) (g_S mM_RX0_134 mT_yX0_at mN_RX0 mC_yX0_at) (hd_yX0_at) ⟨rfl, rfl⟩ ⟨(Nat.le_of_ble_eq_true rfl), (Nat.le_of_ble_eq_true rfl)⟩ hKX hC hS zP0 rfl hl.1 rfl (Nat.le_of_ble_eq_true rfl) ⟨Nat.zero_le _, Nat.zero_le _⟩ dX0_run_50 ?_
    refine lv_lconst (v := 1) hx hb dX0_run_53 rfl ?_
    obtain ⟨u6, hu6⟩ : ∃ y : (Nat → Int64), y = Fc_add (fc_ways u2) 132 (Fc_at 0 x5 (Sh_leader sh)) 1 := ⟨_, rfl⟩
    have hf := z_let_u hu6 hf
    refine zc_MSv (As := [.ref (w1), .int (Fc_at 0 x5 (Sh_leader sh)), .long 1]) (rest := []) (wr := [(q 0, .inr (0, [.ref (q 1), .ref (q 2), .ref (w1), .ref (w2), .int (fc_grow u2), .int (fc_last u2), .long (fc_wonByA u2), .long (fc_wonByB u2), .long (fc_level u2), .long (fc_endlessA u2), .long (fc_endlessB u2), .long (fc_endless u2), .long (fc_winsOfA u2), .long (fc_winsOfB u2), .long (fc_whole u2)])), (q 1, .inl (ac 1, 11, .inr (.inl (fc_endWays u2)))), (q 2, .inl (ac 1, 36, .inr (.inl (fc_scoreWays u2)))), (w2, .inl (ac 1, 132, .inr (.inl (fc_waysBehind u2))))] ++ (shW ac qs sh)) (wsc := ajW ac w1 132 (fc_ways u2)) (wsc' := ajW ac w1 132 u6) hx hb hml hown htw (ctX0_add l D ac cs w1 132 (by decide) H.size (fc_ways u2) (Fc_at 0 x5 (Sh_leader sh)) 1   u6 hu6.symm) (g_S mM_RX0_137 mT_yX0_add mN_RX0 mC_yX0_add) (hd_yX0_add) ⟨rfl, rfl⟩ ⟨(Nat.le_of_ble_eq_true rfl), (Nat.le_of_ble_eq_true rfl)⟩ hKX hC hS hA hP hD [3] [0, 1, 2, 4, 5, 6, 7] rfl (by decide) rfl (by decide) (by decide) rfl hl.1 rfl (Nat.le_of_ble_eq_true rfl) ⟨Nat.zero_le _, Nat.zero_le _⟩ dX0_run_54 (fun H locs hP hD hS => ?_)
    have hP : va_P D vwCl (fcW ac q w1 w2 ((fc_endWays u2), (fc_scoreWays u2), u6, (fc_waysBehind u2), (fc_grow u2), (fc_last u2), (fc_wonByA u2), (fc_wonByB u2), (fc_level u2), (fc_endlessA u2), (fc_endlessB u2), (fc_endless u2), (fc_winsOfA u2), (fc_winsOfB u2), (fc_whole u2)) ++ (shW ac qs sh)) H := hP.sub [0, 1, 2, 7, 3, 4, 5, 6] rfl
    have hD : va_D A (fcW ac q w1 w2 ((fc_endWays u2), (fc_scoreWays u2), u6, (fc_waysBehind u2), (fc_grow u2), (fc_last u2), (fc_wonByA u2), (fc_wonByB u2), (fc_level u2), (fc_endlessA u2), (fc_endlessB u2), (fc_endless u2), (fc_winsOfA u2), (fc_winsOfB u2), (fc_whole u2)) ++ (shW ac qs sh)) := hD.sub [0, 1, 2, 7, 3, 4, 5, 6] (by decide) rfl
    refine lv_aload_n hx hb dX0_run_57 rfl (lv_at hl 3 rfl) ?_
    refine va_getN (D := D) (ci := 4) (v := .int (sh_shooters sh)) (C := RX4) (T := TX4) (N := 10) hx hb htw WW_wsX40 hown hKX.1 hP 5 rfl rfl 0 (Nat.le_of_ble_eq_true rfl) (va_Nw.use rfl (hKX.2 _ (List.mem_of_getElem? (i := 4) rfl))) (fun _ h9 => h9) rfl dX0_run_58 ?_
    refine lv_topi (fun x7 hx7 => ?_)
    have hf := z_let_u hx7 hf
    refine lv_istore (lv' := [(5, .int x7), (4, .int x5), (3, .int x3), (0, .ref (q 0)), (1, .ref (qs 0)), (2, .int a2)]) hx hb dX0_run_61 hl (Nat.le_of_ble_eq_true rfl) rfl (fun ls hl => ?_)
    refine lv_iload_n hx hb dX0_run_63 rfl (lv_at hl 2 rfl) ?_
    refine lv_istore (lv' := [(6, .int x3), (5, .int x7), (4, .int x5), (3, .int x3), (0, .ref (q 0)), (1, .ref (qs 0)), (2, .int a2)]) hx hb dX0_run_64 hl (Nat.le_of_ble_eq_true rfl) rfl (fun ls hl => ?_)
    have hL12 : ∀ (n13 : Nat) (x10 : Int32) (fc11 : Fc), Fc_run_L66 F sh x3 x5 x7 n13 x10 fc11 = some res → ∀ (H : Heap) (locs : List Loc) (ls : Array Slot) (w8 w9 : Nat), va_P D vwCl (fcW ac q w8 w9 fc11 ++ (shW ac qs sh)) H → va_D A (fcW ac q w8 w9 fc11 ++ (shW ac qs sh)) → va_S A s.heap H locs → lv_has ls 11 [(0, .ref (q 0)), (1, .ref (qs 0)), (3, .int x3), (4, .int x5), (5, .int x7), (6, .int x10)] → W p l e ({ frames := 4, cells := 0, slots := 0, locals := 108 } : Room) s m (([.ref (q 0), .ref (qs 0), .int a2] : List Value).toArray) below meth c H locs 0 0 (MQ below (va_Qv (fun _ : Nat × Nat => True) (fun u => zB D A (fcW ac q u.1 u.2 res ++ (shW ac qs sh))) A) ([.ref (q 0), .ref (qs 0), .int a2] : List Value).toArray s 0 0 A) (F0 m 66 ls []) := by
      intro n13
      induction n13 with
      | zero => intro x10 fc11 hf; rw [Fc_run_L66] at hf; cases hf
      | succ n13 ih14 =>
        intro x10 fc11 hf H locs ls w8 w9 hP hD hS hl
        rw [Fc_run_L66] at hf
        refine lv_iload hx hb dX0_run_66 (lv_at hl 5 rfl) ?_
        refine lv_aload_n hx hb dX0_run_68 rfl (lv_at hl 0 rfl) ?_
        refine va_get (D := D) (ci := 0) (v := .int (fc_last fc11)) (C := RX0) (T := TX0) (N := 15) hx hb htw WW_wsX00 hown hKX.1 hP 0 rfl rfl 5 (Nat.le_of_ble_eq_true rfl) (htw _ mF_RX0_92) (fun _ h9 => h9) rfl dX0_run_69 ?_
        refine lv_icmp_ge (tgt := 192) hx hb dX0_run_72 (by decide) (fun c15 => ?_) (fun c15 => ?_)
        · have hf := z_p c15 hf
          obtain rfl := Option.some.inj hf
          exact zr_MvX (w8, w9) hx hb hr hlocks hP hD hS dX0_run_192
        · have hf := z_n c15 hf
          refine lv_iload hx hb dX0_run_75 (lv_at hl 4 rfl) ?_
          refine lv_ineg hx hb dX0_run_77 ?_
          refine lv_iload hx hb dX0_run_78 (lv_at hl 3 rfl) ?_
          refine lv_iload hx hb dX0_run_80 (lv_at hl 5 rfl) ?_
          refine lv_iload_n hx hb dX0_run_82 rfl (lv_at hl 2 rfl) ?_
          refine lv_isub hx hb dX0_run_83 ?_
          refine lv_isub hx hb dX0_run_84 ?_
          refine va_mmax hx hb (hml.trans hl.1.symm) hown (htw _ mM_RX0_141) (htw _ mT_Lib_Math_max_name) (htw _ mN_java_lang_Math) (htw _ mC_Lib_Math_max_name) (Nat.le_of_ble_eq_true rfl) (Nat.le_of_ble_eq_true rfl) (Nat.zero_le _) (Nat.zero_le _) dX0_run_85 ?_
          refine lv_topi (fun x16 hx16 => ?_)
          have hf := z_let_u hx16 hf
          refine lv_istore (lv' := [(7, .int x16), (0, .ref (q 0)), (1, .ref (qs 0)), (3, .int x3), (4, .int x5), (5, .int x7), (6, .int x10)]) hx hb dX0_run_88 hl (Nat.le_of_ble_eq_true rfl) rfl (fun ls hl => ?_)
          refine lv_iload hx hb dX0_run_90 (lv_at hl 5 rfl) ?_
          refine lv_iload hx hb dX0_run_92 (lv_at hl 4 rfl) ?_
          refine lv_iload hx hb dX0_run_94 (lv_at hl 6 rfl) ?_
          refine lv_iload_n hx hb dX0_run_96 rfl (lv_at hl 3 rfl) ?_
          refine lv_isub hx hb dX0_run_97 ?_
          refine lv_iadd hx hb dX0_run_98 ?_
          refine va_mmin hx hb (hml.trans hl.1.symm) hown (htw _ mM_RX0_147) (htw _ mT_Lib_Math_min_name) (htw _ mN_java_lang_Math) (htw _ mC_Lib_Math_min_name) (Nat.le_of_ble_eq_true rfl) (Nat.le_of_ble_eq_true rfl) (Nat.zero_le _) (Nat.zero_le _) dX0_run_99 ?_
          refine lv_topi (fun x17 hx17 => ?_)
          have hf := z_let_u hx17 hf
          refine lv_istore (lv' := [(8, .int x17), (7, .int x16), (0, .ref (q 0)), (1, .ref (qs 0)), (3, .int x3), (4, .int x5), (5, .int x7), (6, .int x10)]) hx hb dX0_run_102 hl (Nat.le_of_ble_eq_true rfl) rfl (fun ls hl => ?_)
          refine lv_iconst (v := 0) hx hb dX0_run_104 rfl ?_
          refine lv_istore (lv' := [(9, .int 0), (8, .int x17), (7, .int x16), (0, .ref (q 0)), (1, .ref (qs 0)), (3, .int x3), (4, .int x5), (5, .int x7), (6, .int x10)]) hx hb dX0_run_105 hl (Nat.le_of_ble_eq_true rfl) rfl (fun ls hl => ?_)
          have hL20 : ∀ (kx23 : Fc → Option (Fc)) (hkx23 : ∀ (fc24 : Fc), kx23 fc24 = some res → ∀ (H : Heap) (locs : List Loc) (ls : Array Slot), va_P D vwCl (fcW ac q w8 w9 fc24 ++ (shW ac qs sh)) H → va_D A (fcW ac q w8 w9 fc24 ++ (shW ac qs sh)) → va_S A s.heap H locs → lv_has ls 11 [(0, .ref (q 0)), (1, .ref (qs 0)), (3, .int x3), (4, .int x5), (5, .int x7), (6, .int x10)] → W p l e ({ frames := 4, cells := 0, slots := 0, locals := 108 } : Room) s m (([.ref (q 0), .ref (qs 0), .int a2] : List Value).toArray) below meth c H locs 0 0 (MQ below (va_Qv (fun _ : Nat × Nat => True) (fun u => zB D A (fcW ac q u.1 u.2 res ++ (shW ac qs sh))) A) ([.ref (q 0), .ref (qs 0), .int a2] : List Value).toArray s 0 0 A) (F0 m 166 ls [])) (n21 : Nat) (x18 : Int32) (fc19 : Fc), Fc_run_L107 F sh x7 x10 x16 x17 kx23 n21 x18 fc19 = some res → ∀ (H : Heap) (locs : List Loc) (ls : Array Slot), va_P D vwCl (fcW ac q w8 w9 fc19 ++ (shW ac qs sh)) H → va_D A (fcW ac q w8 w9 fc19 ++ (shW ac qs sh)) → va_S A s.heap H locs → lv_has ls 11 [(0, .ref (q 0)), (1, .ref (qs 0)), (3, .int x3), (4, .int x5), (5, .int x7), (6, .int x10), (7, .int x16), (8, .int x17), (9, .int x18)] → W p l e ({ frames := 4, cells := 0, slots := 0, locals := 108 } : Room) s m (([.ref (q 0), .ref (qs 0), .int a2] : List Value).toArray) below meth c H locs 0 0 (MQ below (va_Qv (fun _ : Nat × Nat => True) (fun u => zB D A (fcW ac q u.1 u.2 res ++ (shW ac qs sh))) A) ([.ref (q 0), .ref (qs 0), .int a2] : List Value).toArray s 0 0 A) (F0 m 107 ls []) := by
            intro kx23 hkx23 n21
            induction n21 with
            | zero => intro x18 fc19 hf; rw [Fc_run_L107] at hf; cases hf
            | succ n21 ih22 =>
              intro x18 fc19 hf H locs ls hP hD hS hl
              rw [Fc_run_L107] at hf
              refine lv_iload hx hb dX0_run_107 (lv_at hl 8 rfl) ?_
              refine lv_aload_n hx hb dX0_run_109 rfl (lv_at hl 0 rfl) ?_
              refine va_get (D := D) (ci := 0) (v := .int (fc_grow fc19)) (C := RX0) (T := TX0) (N := 15) hx hb htw WW_wsX00 hown hKX.1 hP 0 rfl rfl 4 (Nat.le_of_ble_eq_true rfl) (htw _ mF_RX0_125) (fun _ h9 => h9) rfl dX0_run_110 ?_
              refine lv_iload hx hb dX0_run_113 (lv_at hl 4 rfl) ?_
              refine lv_imul hx hb dX0_run_115 ?_
              refine lv_icmp_gt (tgt := 166) hx hb dX0_run_116 (by decide) (fun c25 => ?_) (fun c25 => ?_)
              · have hf := z_p c25 hf
                exact hkx23 fc19 hf _ _ ls  hP hD hS (lv_sub hl [0, 1, 2, 3, 4, 5] rfl)
              · have hf := z_n c25 hf
                refine lv_iload hx hb dX0_run_119 (lv_at hl 6 rfl) ?_
                refine lv_istore (lv' := [(10, .int x16), (0, .ref (q 0)), (1, .ref (qs 0)), (3, .int x3), (4, .int x5), (5, .int x7), (6, .int x10), (7, .int x16), (8, .int x17), (9, .int x18)]) hx hb dX0_run_121 hl (Nat.le_of_ble_eq_true rfl) rfl (fun ls hl => ?_)
                have hL28 : ∀ (kx31 : Fc → Option (Fc)) (hkx31 : ∀ (fc32 : Fc), kx31 fc32 = some res → ∀ (H : Heap) (locs : List Loc) (ls : Array Slot), va_P D vwCl (fcW ac q w8 w9 fc32 ++ (shW ac qs sh)) H → va_D A (fcW ac q w8 w9 fc32 ++ (shW ac qs sh)) → va_S A s.heap H locs → lv_has ls 11 [(0, .ref (q 0)), (1, .ref (qs 0)), (3, .int x3), (4, .int x5), (5, .int x7), (6, .int x10), (7, .int x16), (8, .int x17), (9, .int x18)] → W p l e ({ frames := 4, cells := 0, slots := 0, locals := 108 } : Room) s m (([.ref (q 0), .ref (qs 0), .int a2] : List Value).toArray) below meth c H locs 0 0 (MQ below (va_Qv (fun _ : Nat × Nat => True) (fun u => zB D A (fcW ac q u.1 u.2 res ++ (shW ac qs sh))) A) ([.ref (q 0), .ref (qs 0), .int a2] : List Value).toArray s 0 0 A) (F0 m 160 ls [])) (n29 : Nat) (x26 : Int32) (fc27 : Fc), Fc_run_L123 sh x10 x17 x18 kx31 n29 x26 fc27 = some res → ∀ (H : Heap) (locs : List Loc) (ls : Array Slot), va_P D vwCl (fcW ac q w8 w9 fc27 ++ (shW ac qs sh)) H → va_D A (fcW ac q w8 w9 fc27 ++ (shW ac qs sh)) → va_S A s.heap H locs → lv_has ls 11 [(0, .ref (q 0)), (1, .ref (qs 0)), (3, .int x3), (4, .int x5), (5, .int x7), (6, .int x10), (7, .int x16), (8, .int x17), (9, .int x18), (10, .int x26)] → W p l e ({ frames := 4, cells := 0, slots := 0, locals := 108 } : Room) s m (([.ref (q 0), .ref (qs 0), .int a2] : List Value).toArray) below meth c H locs 0 0 (MQ below (va_Qv (fun _ : Nat × Nat => True) (fun u => zB D A (fcW ac q u.1 u.2 res ++ (shW ac qs sh))) A) ([.ref (q 0), .ref (qs 0), .int a2] : List Value).toArray s 0 0 A) (F0 m 123 ls []) := by
                  intro kx31 hkx31 n29
                  induction n29 with
                  | zero => intro x26 fc27 hf; rw [Fc_run_L123] at hf; cases hf
                  | succ n29 ih30 =>
                    intro x26 fc27 hf H locs ls hP hD hS hl
                    rw [Fc_run_L123] at hf
                    refine lv_iload hx hb dX0_run_123 (lv_at hl 9 rfl) ?_
                    refine lv_iload hx hb dX0_run_125 (lv_at hl 7 rfl) ?_
                    refine lv_icmp_gt (tgt := 160) hx hb dX0_run_127 (by decide) (fun c33 => ?_) (fun c33 => ?_)
                    · have hf := z_p c33 hf
                      exact hkx31 fc27 hf _ _ ls  hP hD hS (lv_sub hl [0, 1, 2, 3, 4, 5, 6, 7, 8] rfl)
                    · have hf := z_n c33 hf
                      refine lv_aload_n hx hb dX0_run_130 rfl (lv_at hl 0 rfl) ?_
                      refine lv_aload_n hx hb dX0_run_131 rfl (lv_at hl 1 rfl) ?_
                      refine lv_iload hx hb dX0_run_132 (lv_at hl 5 rfl) ?_
                      refine lv_iload hx hb dX0_run_134 (lv_at hl 8 rfl) ?_
                      refine lv_iload hx hb dX0_run_136 (lv_at hl 9 rfl) ?_
                      refine lv_iconst (v := 0) hx hb dX0_run_138 rfl ?_
                      obtain ⟨u34, hu34⟩ : ∃ y : Fc, y = Fc_leave fc27 sh x10 x18 x26 0 := ⟨_, rfl⟩
                      have hf := z_let_u hu34 hf
                      refine zc_MVv (As := [.ref (qs 0), .int x10, .int x18, .int x26, .int 0]) (rest := []) (wr := []) (wsc := fcW ac q w8 w9 fc27 ++ (shW ac qs sh)) (wsc' := fcW ac q w8 w9 u34 ++ (shW ac qs sh)) hx hb hml hown htw (ctX0_leave l D ac cs q w8 w9 qs H.size fc27 sh x10 x18 x26 0   u34 hu34.symm) (g_V mM_RX0_150 mI_yX0_leave mS_RX0_yX0_leave_yX0_leave mN_RX0 mC_yX0_leave) rfl (hd_yX0_leave) ⟨rfl, rfl⟩ ⟨(Nat.le_of_ble_eq_true rfl), (Nat.le_of_ble_eq_true rfl)⟩ hKX hC hS hA hP hD [0, 1, 2, 3, 4, 5, 6, 7] [] rfl (by decide) rfl (by decide) (by decide) 0 rfl rfl rfl hl.1 rfl (Nat.le_of_ble_eq_true rfl) ⟨Nat.zero_le _, Nat.zero_le _⟩ dX0_run_139 (fun H locs hP hD hS => ?_)
                      have hP : va_P D vwCl (fcW ac q w8 w9 u34 ++ (shW ac qs sh)) H := hP
                      have hD : va_D A (fcW ac q w8 w9 u34 ++ (shW ac qs sh)) := hD
                      refine lv_aload_n hx hb dX0_run_142 rfl (lv_at hl 0 rfl) ?_
                      refine lv_aload_n hx hb dX0_run_143 rfl (lv_at hl 1 rfl) ?_
                      refine lv_iload hx hb dX0_run_144 (lv_at hl 5 rfl) ?_
                      refine lv_iload hx hb dX0_run_146 (lv_at hl 8 rfl) ?_
                      refine lv_iload hx hb dX0_run_148 (lv_at hl 9 rfl) ?_
                      refine lv_iconst (v := 1) hx hb dX0_run_150 rfl ?_
                      obtain ⟨u35, hu35⟩ : ∃ y : Fc, y = Fc_leave u34 sh x10 x18 x26 1 := ⟨_, rfl⟩
                      have hf := z_let_u hu35 hf
                      refine zc_MVv (As := [.ref (qs 0), .int x10, .int x18, .int x26, .int 1]) (rest := []) (wr := []) (wsc := fcW ac q w8 w9 u34 ++ (shW ac qs sh)) (wsc' := fcW ac q w8 w9 u35 ++ (shW ac qs sh)) hx hb hml hown htw (ctX0_leave l D ac cs q w8 w9 qs H.size u34 sh x10 x18 x26 1   u35 hu35.symm) (g_V mM_RX0_150 mI_yX0_leave mS_RX0_yX0_leave_yX0_leave mN_RX0 mC_yX0_leave) rfl (hd_yX0_leave) ⟨rfl, rfl⟩ ⟨(Nat.le_of_ble_eq_true rfl), (Nat.le_of_ble_eq_true rfl)⟩ hKX hC hS hA hP hD [0, 1, 2, 3, 4, 5, 6, 7] [] rfl (by decide) rfl (by decide) (by decide) 0 rfl rfl rfl hl.1 rfl (Nat.le_of_ble_eq_true rfl) ⟨Nat.zero_le _, Nat.zero_le _⟩ dX0_run_151 (fun H locs hP hD hS => ?_)
                      have hP : va_P D vwCl (fcW ac q w8 w9 u35 ++ (shW ac qs sh)) H := hP
                      have hD : va_D A (fcW ac q w8 w9 u35 ++ (shW ac qs sh)) := hD
                      obtain ⟨x36, hx36⟩ : ∃ y : Int32, y = (x26 + 1) := ⟨_, rfl⟩
                      have hf := z_let_u hx36 hf
                      refine lv_iinc (v := x36) (lv' := [(10, .int x36), (0, .ref (q 0)), (1, .ref (qs 0)), (3, .int x3), (4, .int x5), (5, .int x7), (6, .int x10), (7, .int x16), (8, .int x17), (9, .int x18)]) hx hb dX0_run_154 hl (k := 9) rfl (by rw [hx36]; rfl) (Nat.le_of_ble_eq_true rfl) rfl (fun ls hl => ?_)
                      refine lv_goto (tgt := 123) hx hb dX0_run_157 (by decide) ?_
                      exact ih30 x36 u35 hf _ _ ls  hP hD hS (lv_sub hl [1, 2, 3, 4, 5, 6, 7, 8, 9, 0] rfl)
                refine hL28 _ ?_ F x16 fc19 hf _ _ ls  hP hD hS (lv_sub hl [1, 2, 3, 4, 5, 6, 7, 8, 9, 0] rfl)
                intro fc32 hf H locs ls hP hD hS hl
                obtain ⟨x37, hx37⟩ : ∃ y : Int32, y = (x18 + 1) := ⟨_, rfl⟩
                have hf := z_let_u hx37 hf
                refine lv_iinc (v := x37) (lv' := [(9, .int x37), (0, .ref (q 0)), (1, .ref (qs 0)), (3, .int x3), (4, .int x5), (5, .int x7), (6, .int x10), (7, .int x16), (8, .int x17)]) hx hb dX0_run_160 hl (k := 8) rfl (by rw [hx37]; rfl) (Nat.le_of_ble_eq_true rfl) rfl (fun ls hl => ?_)
                refine lv_goto (tgt := 107) hx hb dX0_run_163 (by decide) ?_
                exact ih22 x37 fc32 hf _ _ ls  hP hD hS (lv_sub hl [1, 2, 3, 4, 5, 6, 7, 8, 0] rfl)
          refine hL20 _ ?_ F 0 fc11 hf _ _ ls  hP hD hS (lv_sub hl [3, 4, 5, 6, 7, 8, 2, 1, 0] rfl)
          intro fc24 hf H locs ls hP hD hS hl
          refine lv_aload_n hx hb dX0_run_166 rfl (lv_at hl 0 rfl) ?_
          refine va_get (D := D) (ci := 0) (v := .ref (w8)) (C := RX0) (T := TX0) (N := 15) hx hb htw WW_wsX00 hown hKX.1 hP 0 rfl rfl 2 (Nat.le_of_ble_eq_true rfl) (htw _ mF_RX0_18) (fun _ h9 => h9) rfl dX0_run_167 ?_
          refine lv_astore (lv' := [(9, .ref (w8)), (0, .ref (q 0)), (1, .ref (qs 0)), (3, .int x3), (4, .int x5), (5, .int x7), (6, .int x10)]) hx hb dX0_run_170 hl (Nat.le_of_ble_eq_true rfl) rfl (fun ls hl => ?_)
          refine lv_aload_n hx hb dX0_run_172 rfl (lv_at hl 1 rfl) ?_
          refine lv_aload_n hx hb dX0_run_173 rfl (lv_at hl 1 rfl) ?_
          refine va_get (D := D) (ci := 0) (v := .ref (w9)) (C := RX0) (T := TX0) (N := 15) hx hb htw WW_wsX00 hown hKX.1 hP 0 rfl rfl 3 (Nat.le_of_ble_eq_true rfl) (htw _ mF_RX0_21) (fun _ h9 => h9) rfl dX0_run_174 ?_
          refine va_put (D := D) (ci := 0) (v := .ref (w9)) (ty := tyX0 2) (C := RX0) (T := TX0) (N := 15) hx hb htw WW_wsX00 tyX0 tyX0_ok nmX0 hown hKX.1 hP hD hS 0 rfl rfl 2 (Nat.le_of_ble_eq_true rfl) (htw _ mF_RX0_18) (fun _ h9 => h9) rfl (tyX0_ok 2 (Nat.le_of_ble_eq_true rfl)) rfl rfl (Nat.le_of_ble_eq_true rfl) dX0_run_177 (fun H locs hP hD hS => ?_)
          have hP : va_P D vwCl ([(q 0, .inr (0, [.ref (q 1), .ref (q 2), .ref (w9), .ref (w9), .int (fc_grow fc24), .int (fc_last fc24), .long (fc_wonByA fc24), .long (fc_wonByB fc24), .long (fc_level fc24), .long (fc_endlessA fc24), .long (fc_endlessB fc24), .long (fc_endless fc24), .long (fc_winsOfA fc24), .long (fc_winsOfB fc24), .long (fc_whole fc24)])), (q 1, .inl (ac 1, 11, .inr (.inl (fc_endWays fc24)))), (q 2, .inl (ac 1, 36, .inr (.inl (fc_scoreWays fc24)))), (w8, .inl (ac 1, 132, .inr (.inl (fc_ways fc24)))), (w9, .inl (ac 1, 132, .inr (.inl (fc_waysBehind fc24))))] ++ (shW ac qs sh)) H := hP
          have hD : va_D A ([(q 0, .inr (0, [.ref (q 1), .ref (q 2), .ref (w9), .ref (w9), .int (fc_grow fc24), .int (fc_last fc24), .long (fc_wonByA fc24), .long (fc_wonByB fc24), .long (fc_level fc24), .long (fc_endlessA fc24), .long (fc_endlessB fc24), .long (fc_endless fc24), .long (fc_winsOfA fc24), .long (fc_winsOfB fc24), .long (fc_whole fc24)])), (q 1, .inl (ac 1, 11, .inr (.inl (fc_endWays fc24)))), (q 2, .inl (ac 1, 36, .inr (.inl (fc_scoreWays fc24)))), (w8, .inl (ac 1, 132, .inr (.inl (fc_ways fc24)))), (w9, .inl (ac 1, 132, .inr (.inl (fc_waysBehind fc24))))] ++ (shW ac qs sh)) := hD
          refine lv_aload_n hx hb dX0_run_180 rfl (lv_at hl 1 rfl) ?_
          refine lv_aload hx hb dX0_run_181 (lv_at hl 0 rfl) ?_
          refine va_put (D := D) (ci := 0) (v := .ref (w8)) (ty := tyX0 3) (C := RX0) (T := TX0) (N := 15) hx hb htw WW_wsX00 tyX0 tyX0_ok nmX0 hown hKX.1 hP hD hS 0 rfl rfl 3 (Nat.le_of_ble_eq_true rfl) (htw _ mF_RX0_21) (fun _ h9 => h9) rfl (tyX0_ok 3 (Nat.le_of_ble_eq_true rfl)) rfl rfl (Nat.le_of_ble_eq_true rfl) dX0_run_183 (fun H locs hP hD hS => ?_)
          have hP : va_P D vwCl ([(q 0, .inr (0, [.ref (q 1), .ref (q 2), .ref (w9), .ref (w8), .int (fc_grow fc24), .int (fc_last fc24), .long (fc_wonByA fc24), .long (fc_wonByB fc24), .long (fc_level fc24), .long (fc_endlessA fc24), .long (fc_endlessB fc24), .long (fc_endless fc24), .long (fc_winsOfA fc24), .long (fc_winsOfB fc24), .long (fc_whole fc24)])), (q 1, .inl (ac 1, 11, .inr (.inl (fc_endWays fc24)))), (q 2, .inl (ac 1, 36, .inr (.inl (fc_scoreWays fc24)))), (w8, .inl (ac 1, 132, .inr (.inl (fc_ways fc24)))), (w9, .inl (ac 1, 132, .inr (.inl (fc_waysBehind fc24))))] ++ (shW ac qs sh)) H := hP
          have hD : va_D A ([(q 0, .inr (0, [.ref (q 1), .ref (q 2), .ref (w9), .ref (w8), .int (fc_grow fc24), .int (fc_last fc24), .long (fc_wonByA fc24), .long (fc_wonByB fc24), .long (fc_level fc24), .long (fc_endlessA fc24), .long (fc_endlessB fc24), .long (fc_endless fc24), .long (fc_winsOfA fc24), .long (fc_winsOfB fc24), .long (fc_whole fc24)])), (q 1, .inl (ac 1, 11, .inr (.inl (fc_endWays fc24)))), (q 2, .inl (ac 1, 36, .inr (.inl (fc_scoreWays fc24)))), (w8, .inl (ac 1, 132, .inr (.inl (fc_ways fc24)))), (w9, .inl (ac 1, 132, .inr (.inl (fc_waysBehind fc24))))] ++ (shW ac qs sh)) := hD
          have hP : va_P D vwCl (fcW ac q w9 w8 ((fc_endWays fc24), (fc_scoreWays fc24), (fc_waysBehind fc24), (fc_ways fc24), (fc_grow fc24), (fc_last fc24), (fc_wonByA fc24), (fc_wonByB fc24), (fc_level fc24), (fc_endlessA fc24), (fc_endlessB fc24), (fc_endless fc24), (fc_winsOfA fc24), (fc_winsOfB fc24), (fc_whole fc24)) ++ (shW ac qs sh)) H := hP.sub [0, 1, 2, 4, 3, 5, 6, 7] rfl
          have hD : va_D A (fcW ac q w9 w8 ((fc_endWays fc24), (fc_scoreWays fc24), (fc_waysBehind fc24), (fc_ways fc24), (fc_grow fc24), (fc_last fc24), (fc_wonByA fc24), (fc_wonByB fc24), (fc_level fc24), (fc_endlessA fc24), (fc_endlessB fc24), (fc_endless fc24), (fc_winsOfA fc24), (fc_winsOfB fc24), (fc_whole fc24)) ++ (shW ac qs sh)) := hD.sub [0, 1, 2, 4, 3, 5, 6, 7] (by decide) rfl
          obtain ⟨x38, hx38⟩ : ∃ y : Int32, y = (x10 + 1) := ⟨_, rfl⟩
          have hf := z_let_u hx38 hf
          refine lv_iinc (v := x38) (lv' := [(6, .int x38), (9, .ref (w8)), (0, .ref (q 0)), (1, .ref (qs 0)), (3, .int x3), (4, .int x5), (5, .int x7)]) hx hb dX0_run_186 hl (k := 6) rfl (by rw [hx38]; rfl) (Nat.le_of_ble_eq_true rfl) rfl (fun ls hl => ?_)
          refine lv_goto (tgt := 66) hx hb dX0_run_189 (by decide) ?_
          exact ih14 x38 ((fc_endWays fc24), (fc_scoreWays fc24), (fc_waysBehind fc24), (fc_ways fc24), (fc_grow fc24), (fc_last fc24), (fc_wonByA fc24), (fc_wonByB fc24), (fc_level fc24), (fc_endlessA fc24), (fc_endlessB fc24), (fc_endless fc24), (fc_winsOfA fc24), (fc_winsOfB fc24), (fc_whole fc24)) hf _ _ ls w9 w8 hP hD hS (lv_sub hl [2, 3, 4, 5, 6, 0] rfl)
    refine hL12  F x3 ((fc_endWays u2), (fc_scoreWays u2), u6, (fc_waysBehind u2), (fc_grow u2), (fc_last u2), (fc_wonByA u2), (fc_wonByB u2), (fc_level u2), (fc_endlessA u2), (fc_endlessB u2), (fc_endless u2), (fc_winsOfA u2), (fc_winsOfB u2), (fc_whole u2)) hf _ _ ls w1 w2 hP hD hS (lv_sub hl [4, 5, 3, 2, 1, 0] rfl)
  · have hf := z_n c4 hf
    obtain rfl := Option.some.inj hf
    exact zr_MvX (w1, w2) hx hb hr hlocks hP hD hS dX0_run_32

theorem hd_yX0_goEndless : hdY yX0_goEndless 2 := by decide +kernel
def Fc_goEndless_L23 (sh : Sh) (a2 : Int32) (x1 : Int32) (x2 : Int32) (kx10 : Int64 → Int64 → Int64 → Option (Fc)) : Nat → Int64 → Int64 → Int64 → Int32 → Option (Fc)
  | 0, _, _, _, _ => none
  | n8 + 1, x3, x4, x5, x6 => if x1 ≤ x6 then (kx10 x3 x4 x5) else (z_let (if x1 ≤ (a2 + x6) then ((a2 + x6) - x1) else (a2 + x6)) (fun v15 : Int32 => z_let (Sh_chanceOf sh x2 v15 0) (fun x19 : Int32 => z_let (Sh_chanceOf sh (1 - x2) v15 (-1)) (fun x20 : Int32 => z_let (Sh_chanceOf sh (1 - x2) v15 0) (fun x21 : Int32 => z_let ((36 * x4) + ((x3 * x19.toInt64) * ((6 - x20).toInt64))) (fun x22 : Int64 => z_let ((36 * x5) + ((x3 * ((6 - x19).toInt64)) * x21.toInt64)) (fun x23 : Int64 => z_let (x3 * (((x19 * x20) + ((6 - x19) * (6 - x21))).toInt64)) (fun x24 : Int64 => z_let (x6 + 1) (fun x25 : Int32 => Fc_goEndless_L23 sh a2 x1 x2 kx10 n8 x24 x22 x23 x25)))))))))
def Fc_goEndless (F : Nat) (fc : Fc) (sh : Sh) (a2 : Int32) : Option (Fc) := z_let (sh_shooters sh) (fun x1 : Int32 => z_let (sh_first sh) (fun x2 : Int32 => Fc_goEndless_L23 sh a2 x1 x2 (fun (x11 : Int64) (x12 : Int64) (x13 : Int64) => z_let ((K_sixes (2 * x1)) - x11) (fun x26 : Int64 => z_jn (fun fc27 : Fc => z_let (if x2 = 0 then x12 else x13) (fun v30 : Int64 => z_let (if x2 = 0 then x13 else x12) (fun v34 : Int64 => some ((fc_endWays fc27), (fc_scoreWays fc27), (fc_ways fc27), (fc_waysBehind fc27), (fc_grow fc27), (fc_last fc27), (fc_wonByA fc27), (fc_wonByB fc27), (fc_level fc27), v30, v34, (fc_endless fc27), (fc_winsOfA fc27), (fc_winsOfB fc27), (fc_whole fc27))))) (fun k28 => if 0 < (lg_cmp x26 0) then (k28 ((fc_endWays fc), (fc_scoreWays fc), (fc_ways fc), (fc_waysBehind fc), (fc_grow fc), (fc_last fc), (fc_wonByA fc), (fc_wonByB fc), (fc_level fc), (fc_endlessA fc), (fc_endlessB fc), x26, (fc_winsOfA fc), (fc_winsOfB fc), (fc_whole fc))) else (k28 ((fc_endWays fc), (fc_scoreWays fc), (fc_ways fc), (fc_waysBehind fc), (fc_grow fc), (fc_last fc), (fc_wonByA fc), (fc_wonByB fc), (fc_level fc), (fc_endlessA fc), (fc_endlessB fc), 1, (fc_winsOfA fc), (fc_winsOfB fc), (fc_whole fc)))))) F 1 0 0 0))
set_option maxHeartbeats 4000000 in
set_option maxRecDepth 100000 in
theorem ctX0_goEndless (l : Launch) (D : va_G) (ac cs : Nat → Nat) (q : Nat → Nat) (w1 w2 : Nat) (qs : Nat → Nat) (sz : Nat) (fc : Fc) (sh : Sh) (a2 : Int32) (F : Nat) (res : Fc) (hf : Fc_goEndless F fc sh a2 = some res) : Met l yX0_goEndless (cWW yX0_goEndless cX0_goEndless 16 none) { frames := 2, cells := 0, slots := 0, locals := 47 } (zM D ac cs [.ref (q 0), .ref (qs 0), .int a2] (fcW ac q w1 w2 fc ++ (shW ac qs sh)) sz) (va_Qv (fun _ : Unit => True) (fun _ => zB D (va_A (fcW ac q w1 w2 fc ++ (shW ac qs sh)) sz) (fcW ac q w1 w2 res ++ (shW ac qs sh))) (va_A (fcW ac q w1 w2 fc ++ (shW ac qs sh)) sz)) 0 0 (va_A (fcW ac q w1 w2 fc ++ (shW ac qs sh)) sz) := by
  refine Met.ofW (cc := cX0_goEndless) (maxL := 16) (ret := none) (by decide) rfl ?_
  intro p e s m args below meth c s₁ B hml hv
  obtain ⟨rfl, hsz, hP, hKX, hD0, hC⟩ := hv
  have hx := B.exec
  have hb := B.bytes
  have hr := B.returns
  have hts := atoms_spec (ws := cWW yX0_goEndless cX0_goEndless 16 none) B.pre
  have htw : ∀ w ∈ WW, w.before _ s = true := fun w h => hts w (List.mem_cons_of_mem _ h)
  have hown : s.vm.findClass RX0 = some m.cls := findClass_of_methodNamed B.named
  have hlocks := B.notSynchronized
  clear hts B
  subst hsz
  have hD := hD0.self (sz := s.heap.size)
  generalize hAe : va_A (fcW ac q w1 w2 fc ++ (shW ac qs sh)) s.heap.size = A at hD hC ⊢
  have hA : ∀ q : Nat, s.heap.size ≤ q → A q := fun q h => by rw [← hAe]; exact Or.inr h
  have hS : va_S A s.heap s.heap [] := va_S.rf
  clear hD0 hAe
  have hP : va_P D vwCl (fcW ac q w1 w2 fc ++ (shW ac qs sh)) s.heap := hP
  have hl := lv_entry ([.ref (q 0), .ref (qs 0), .int a2]) (n := 16) (Nat.le_of_ble_eq_true rfl)
  rw [lg_entry_eq]
  generalize (lg_sl ([.ref (q 0), .ref (qs 0), .int a2]) ++ List.replicate (16 - (lg_sl ([.ref (q 0), .ref (qs 0), .int a2])).length) Slot.unset).toArray = ls at hl ⊢
  have hl : lv_has ls 16 [(0, .ref (q 0)), (1, .ref (qs 0)), (2, .int a2)] := hl
  unfold Fc_goEndless at hf
  show W p l e ({ frames := 2, cells := 0, slots := 0, locals := 47 } : Room) s m _ below meth c s.heap [] 0 0 _ (F0 m 0 ls [])
  refine lv_aload_n hx hb dX0_goEndless_0 rfl (lv_at hl 1 rfl) ?_
  refine va_getN (D := D) (ci := 4) (v := .int (sh_shooters sh)) (C := RX4) (T := TX4) (N := 10) hx hb htw WW_wsX40 hown hKX.1 hP 5 rfl rfl 0 (Nat.le_of_ble_eq_true rfl) (va_Nw.use rfl (hKX.2 _ (List.mem_of_getElem? (i := 4) rfl))) (fun _ h9 => h9) rfl dX0_goEndless_1 ?_
  refine lv_topi (fun x1 hx1 => ?_)
  have hf := z_let_u hx1 hf
  refine lv_istore_n (lv' := [(3, .int x1), (0, .ref (q 0)), (1, .ref (qs 0)), (2, .int a2)]) hx hb dX0_goEndless_4 rfl hl (Nat.le_of_ble_eq_true rfl) rfl (fun ls hl => ?_)
  refine lv_aload_n hx hb dX0_goEndless_5 rfl (lv_at hl 2 rfl) ?_
  refine va_getN (D := D) (ci := 4) (v := .int (sh_first sh)) (C := RX4) (T := TX4) (N := 10) hx hb htw WW_wsX40 hown hKX.1 hP 5 rfl rfl 2 (Nat.le_of_ble_eq_true rfl) (va_Nw.use rfl (hKX.2 _ (List.mem_of_getElem? (i := 7) rfl))) (fun _ h9 => h9) rfl dX0_goEndless_6 ?_
  refine lv_topi (fun x2 hx2 => ?_)
  have hf := z_let_u hx2 hf
  refine lv_istore (lv' := [(4, .int x2), (3, .int x1), (0, .ref (q 0)), (1, .ref (qs 0)), (2, .int a2)]) hx hb dX0_goEndless_9 hl (Nat.le_of_ble_eq_true rfl) rfl (fun ls hl => ?_)
  refine lv_lconst (v := 1) hx hb dX0_goEndless_11 rfl ?_
  refine lv_lstore (lv' := [(5, .long 1), (4, .int x2), (3, .int x1), (0, .ref (q 0)), (1, .ref (qs 0)), (2, .int a2)]) hx hb dX0_goEndless_12 hl (Nat.le_of_ble_eq_true rfl) rfl (fun ls hl => ?_)
  refine lv_lconst (v := 0) hx hb dX0_goEndless_14 rfl ?_
  refine lv_lstore (lv' := [(7, .long 0), (5, .long 1), (4, .int x2), (3, .int x1), (0, .ref (q 0)), (1, .ref (qs 0)), (2, .int a2)]) hx hb dX0_goEndless_15 hl (Nat.le_of_ble_eq_true rfl) rfl (fun ls hl => ?_)
  refine lv_lconst (v := 0) hx hb dX0_goEndless_17 rfl ?_
  refine lv_lstore (lv' := [(9, .long 0), (7, .long 0), (5, .long 1), (4, .int x2), (3, .int x1), (0, .ref (q 0)), (1, .ref (qs 0)), (2, .int a2)]) hx hb dX0_goEndless_18 hl (Nat.le_of_ble_eq_true rfl) rfl (fun ls hl => ?_)
  refine lv_iconst (v := 0) hx hb dX0_goEndless_20 rfl ?_
  refine lv_istore (lv' := [(11, .int 0), (9, .long 0), (7, .long 0), (5, .long 1), (4, .int x2), (3, .int x1), (0, .ref (q 0)), (1, .ref (qs 0)), (2, .int a2)]) hx hb dX0_goEndless_21 hl (Nat.le_of_ble_eq_true rfl) rfl (fun ls hl => ?_)
  have hL7 : ∀ (kx10 : Int64 → Int64 → Int64 → Option (Fc)) (hkx10 : ∀ (x11 : Int64) (x12 : Int64) (x13 : Int64), kx10 x11 x12 x13 = some res → ∀ (H : Heap) (locs : List Loc) (ls : Array Slot), va_P D vwCl (fcW ac q w1 w2 fc ++ (shW ac qs sh)) H → va_D A (fcW ac q w1 w2 fc ++ (shW ac qs sh)) → va_S A s.heap H locs → lv_has ls 16 [(0, .ref (q 0)), (3, .int x1), (4, .int x2), (5, .long x11), (7, .long x12), (9, .long x13)] → W p l e ({ frames := 2, cells := 0, slots := 0, locals := 47 } : Room) s m (([.ref (q 0), .ref (qs 0), .int a2] : List Value).toArray) below meth c H locs 0 0 (MQ below (va_Qv (fun _ : Unit => True) (fun _ => zB D A (fcW ac q w1 w2 res ++ (shW ac qs sh))) A) ([.ref (q 0), .ref (qs 0), .int a2] : List Value).toArray s 0 0 A) (F0 m 162 ls [])) (n8 : Nat) (x3 : Int64) (x4 : Int64) (x5 : Int64) (x6 : Int32), Fc_goEndless_L23 sh a2 x1 x2 kx10 n8 x3 x4 x5 x6 = some res → ∀ (H : Heap) (locs : List Loc) (ls : Array Slot), va_P D vwCl (fcW ac q w1 w2 fc ++ (shW ac qs sh)) H → va_D A (fcW ac q w1 w2 fc ++ (shW ac qs sh)) → va_S A s.heap H locs → lv_has ls 16 [(0, .ref (q 0)), (1, .ref (qs 0)), (2, .int a2), (3, .int x1), (4, .int x2), (5, .long x3), (7, .long x4), (9, .long x5), (11, .int x6)] → W p l e ({ frames := 2, cells := 0, slots := 0, locals := 47 } : Room) s m (([.ref (q 0), .ref (qs 0), .int a2] : List Value).toArray) below meth c H locs 0 0 (MQ below (va_Qv (fun _ : Unit => True) (fun _ => zB D A (fcW ac q w1 w2 res ++ (shW ac qs sh))) A) ([.ref (q 0), .ref (qs 0), .int a2] : List Value).toArray s 0 0 A) (F0 m 23 ls []) := by
    intro kx10 hkx10 n8
    induction n8 with
    | zero => intro x3 x4 x5 x6 hf; rw [Fc_goEndless_L23] at hf; cases hf
    | succ n8 ih9 =>
      intro x3 x4 x5 x6 hf H locs ls hP hD hS hl
      rw [Fc_goEndless_L23] at hf
      refine lv_iload hx hb dX0_goEndless_23 (lv_at hl 8 rfl) ?_
      refine lv_iload_n hx hb dX0_goEndless_25 rfl (lv_at hl 3 rfl) ?_
      refine lv_icmp_ge (tgt := 162) hx hb dX0_goEndless_26 (by decide) (fun c14 => ?_) (fun c14 => ?_)
      · have hf := z_p c14 hf
        exact hkx10 x3 x4 x5 hf _ _ ls  hP hD hS (lv_sub hl [0, 3, 4, 5, 6, 7] rfl)
      · have hf := z_n c14 hf
        refine lv_iload_n hx hb dX0_goEndless_29 rfl (lv_at hl 2 rfl) ?_
        refine lv_iload hx hb dX0_goEndless_30 (lv_at hl 8 rfl) ?_
        refine lv_iadd hx hb dX0_goEndless_32 ?_
        refine lv_iload_n hx hb dX0_goEndless_33 rfl (lv_at hl 3 rfl) ?_
        have hj17 : ∀ (v15 : Int32), v15 = (if x1 ≤ (a2 + x6) then ((a2 + x6) - x1) else (a2 + x6)) → ∀ (H : Heap) (locs : List Loc) (ls : Array Slot), va_P D vwCl (fcW ac q w1 w2 fc ++ (shW ac qs sh)) H → va_D A (fcW ac q w1 w2 fc ++ (shW ac qs sh)) → va_S A s.heap H locs → lv_has ls 16 [(0, .ref (q 0)), (1, .ref (qs 0)), (2, .int a2), (3, .int x1), (4, .int x2), (5, .long x3), (7, .long x4), (9, .long x5), (11, .int x6)] → W p l e ({ frames := 2, cells := 0, slots := 0, locals := 47 } : Room) s m (([.ref (q 0), .ref (qs 0), .int a2] : List Value).toArray) below meth c H locs 0 0 (MQ below (va_Qv (fun _ : Unit => True) (fun _ => zB D A (fcW ac q w1 w2 res ++ (shW ac qs sh))) A) ([.ref (q 0), .ref (qs 0), .int a2] : List Value).toArray s 0 0 A) (F0 m 50 ls [.int v15]) := by
          intro v15 hv15 H locs ls hP hD hS hl
          have hf := z_let_u hv15 hf
          refine lv_istore (lv' := [(12, .int v15), (0, .ref (q 0)), (1, .ref (qs 0)), (2, .int a2), (3, .int x1), (4, .int x2), (5, .long x3), (7, .long x4), (9, .long x5), (11, .int x6)]) hx hb dX0_goEndless_50 hl (Nat.le_of_ble_eq_true rfl) rfl (fun ls hl => ?_)
          refine lv_aload_n hx hb dX0_goEndless_52 rfl (lv_at hl 2 rfl) ?_
          refine lv_iload hx hb dX0_goEndless_53 (lv_at hl 5 rfl) ?_
          refine lv_iload hx hb dX0_goEndless_55 (lv_at hl 0 rfl) ?_
          refine lv_iconst (v := 0) hx hb dX0_goEndless_57 rfl ?_
          refine zc_RVi (As := [.int x2, .int v15, .int 0]) (rest := []) hx hb hml hown htw (ctX4_chanceOf l D ac cs qs sh x2 v15 0   _ rfl) (g_V mM_RX0_119 mI_yX4_chanceOf mS_RX4_yX4_chanceOf_yX4_chanceOf mN_RX4 mC_yX4_chanceOf) rfl (hd_yX4_chanceOf) ⟨rfl, rfl⟩ ⟨(Nat.le_of_ble_eq_true rfl), (Nat.le_of_ble_eq_true rfl)⟩ hKX hC hS (hP.sub [5, 6, 7] rfl) 4 rfl rfl rfl hl.1 rfl (Nat.le_of_ble_eq_true rfl) ⟨Nat.zero_le _, Nat.zero_le _⟩ dX0_goEndless_58 ?_
          refine lv_topi (fun x19 hx19 => ?_)
          have hf := z_let_u hx19 hf
          refine lv_istore (lv' := [(13, .int x19), (12, .int v15), (0, .ref (q 0)), (1, .ref (qs 0)), (2, .int a2), (3, .int x1), (4, .int x2), (5, .long x3), (7, .long x4), (9, .long x5), (11, .int x6)]) hx hb dX0_goEndless_61 hl (Nat.le_of_ble_eq_true rfl) rfl (fun ls hl => ?_)
          refine lv_aload_n hx hb dX0_goEndless_63 rfl (lv_at hl 3 rfl) ?_
          refine lv_iconst (v := 1) hx hb dX0_goEndless_64 rfl ?_
          refine lv_iload hx hb dX0_goEndless_65 (lv_at hl 6 rfl) ?_
          refine lv_isub hx hb dX0_goEndless_67 ?_
          refine lv_iload hx hb dX0_goEndless_68 (lv_at hl 1 rfl) ?_
          refine lv_iconst (v := (-1)) hx hb dX0_goEndless_70 rfl ?_
          refine zc_RVi (As := [.int (1 - x2), .int v15, .int (-1)]) (rest := []) hx hb hml hown htw (ctX4_chanceOf l D ac cs qs sh (1 - x2) v15 (-1)   _ rfl) (g_V mM_RX0_119 mI_yX4_chanceOf mS_RX4_yX4_chanceOf_yX4_chanceOf mN_RX4 mC_yX4_chanceOf) rfl (hd_yX4_chanceOf) ⟨rfl, rfl⟩ ⟨(Nat.le_of_ble_eq_true rfl), (Nat.le_of_ble_eq_true rfl)⟩ hKX hC hS (hP.sub [5, 6, 7] rfl) 4 rfl rfl rfl hl.1 rfl (Nat.le_of_ble_eq_true rfl) ⟨Nat.zero_le _, Nat.zero_le _⟩ dX0_goEndless_71 ?_
          refine lv_topi (fun x20 hx20 => ?_)
          have hf := z_let_u hx20 hf
          refine lv_istore (lv' := [(14, .int x20), (13, .int x19), (12, .int v15), (0, .ref (q 0)), (1, .ref (qs 0)), (2, .int a2), (3, .int x1), (4, .int x2), (5, .long x3), (7, .long x4), (9, .long x5), (11, .int x6)]) hx hb dX0_goEndless_74 hl (Nat.le_of_ble_eq_true rfl) rfl (fun ls hl => ?_)
          refine lv_aload_n hx hb dX0_goEndless_76 rfl (lv_at hl 4 rfl) ?_
          refine lv_iconst (v := 1) hx hb dX0_goEndless_77 rfl ?_
          refine lv_iload hx hb dX0_goEndless_78 (lv_at hl 7 rfl) ?_
          refine lv_isub hx hb dX0_goEndless_80 ?_
          refine lv_iload hx hb dX0_goEndless_81 (lv_at hl 2 rfl) ?_
          refine lv_iconst (v := 0) hx hb dX0_goEndless_83 rfl ?_
          refine zc_RVi (As := [.int (1 - x2), .int v15, .int 0]) (rest := []) hx hb hml hown htw (ctX4_chanceOf l D ac cs qs sh (1 - x2) v15 0   _ rfl) (g_V mM_RX0_119 mI_yX4_chanceOf mS_RX4_yX4_chanceOf_yX4_chanceOf mN_RX4 mC_yX4_chanceOf) rfl (hd_yX4_chanceOf) ⟨rfl, rfl⟩ ⟨(Nat.le_of_ble_eq_true rfl), (Nat.le_of_ble_eq_true rfl)⟩ hKX hC hS (hP.sub [5, 6, 7] rfl) 4 rfl rfl rfl hl.1 rfl (Nat.le_of_ble_eq_true rfl) ⟨Nat.zero_le _, Nat.zero_le _⟩ dX0_goEndless_84 ?_
          refine lv_topi (fun x21 hx21 => ?_)
          have hf := z_let_u hx21 hf
          refine lv_istore (lv' := [(15, .int x21), (14, .int x20), (13, .int x19), (12, .int v15), (0, .ref (q 0)), (1, .ref (qs 0)), (2, .int a2), (3, .int x1), (4, .int x2), (5, .long x3), (7, .long x4), (9, .long x5), (11, .int x6)]) hx hb dX0_goEndless_87 hl (Nat.le_of_ble_eq_true rfl) rfl (fun ls hl => ?_)
          refine lv_ldc2 (v := 36) hx hb hown (htw _ mG_RX0_123) dX0_goEndless_89 ?_
          refine lv_lload hx hb dX0_goEndless_92 (lv_at hl 10 rfl) ?_
          refine lv_lmul hx hb dX0_goEndless_94 ?_
          refine lv_lload hx hb dX0_goEndless_95 (lv_at hl 9 rfl) ?_
          refine lv_iload hx hb dX0_goEndless_97 (lv_at hl 2 rfl) ?_
          refine lv_i2l hx hb dX0_goEndless_99 rfl ?_
          refine lv_lmul hx hb dX0_goEndless_100 ?_
          refine lv_bipush (v := 6) hx hb dX0_goEndless_101 rfl ?_
          refine lv_iload hx hb dX0_goEndless_103 (lv_at hl 1 rfl) ?_
          refine lv_isub hx hb dX0_goEndless_105 ?_
          refine lv_i2l hx hb dX0_goEndless_106 rfl ?_
          refine lv_lmul hx hb dX0_goEndless_107 ?_
          refine lv_ladd hx hb dX0_goEndless_108 ?_
          refine lv_topl (fun x22 hx22 => ?_)
          have hf := z_let_u hx22 hf
          refine lv_lstore (lv' := [(7, .long x22), (15, .int x21), (14, .int x20), (13, .int x19), (12, .int v15), (0, .ref (q 0)), (1, .ref (qs 0)), (2, .int a2), (3, .int x1), (4, .int x2), (5, .long x3), (9, .long x5), (11, .int x6)]) hx hb dX0_goEndless_109 hl (Nat.le_of_ble_eq_true rfl) rfl (fun ls hl => ?_)
          refine lv_ldc2 (v := 36) hx hb hown (htw _ mG_RX0_123) dX0_goEndless_111 ?_
          refine lv_lload hx hb dX0_goEndless_114 (lv_at hl 11 rfl) ?_
          refine lv_lmul hx hb dX0_goEndless_116 ?_
          refine lv_lload hx hb dX0_goEndless_117 (lv_at hl 10 rfl) ?_
          refine lv_bipush (v := 6) hx hb dX0_goEndless_119 rfl ?_
          refine lv_iload hx hb dX0_goEndless_121 (lv_at hl 3 rfl) ?_
          refine lv_isub hx hb dX0_goEndless_123 ?_
          refine lv_i2l hx hb dX0_goEndless_124 rfl ?_
          refine lv_lmul hx hb dX0_goEndless_125 ?_
          refine lv_iload hx hb dX0_goEndless_126 (lv_at hl 1 rfl) ?_
          refine lv_i2l hx hb dX0_goEndless_128 rfl ?_
          refine lv_lmul hx hb dX0_goEndless_129 ?_
          refine lv_ladd hx hb dX0_goEndless_130 ?_
          refine lv_topl (fun x23 hx23 => ?_)
          have hf := z_let_u hx23 hf
          refine lv_lstore (lv' := [(9, .long x23), (7, .long x22), (15, .int x21), (14, .int x20), (13, .int x19), (12, .int v15), (0, .ref (q 0)), (1, .ref (qs 0)), (2, .int a2), (3, .int x1), (4, .int x2), (5, .long x3), (11, .int x6)]) hx hb dX0_goEndless_131 hl (Nat.le_of_ble_eq_true rfl) rfl (fun ls hl => ?_)
          refine lv_lload hx hb dX0_goEndless_133 (lv_at hl 11 rfl) ?_
          refine lv_iload hx hb dX0_goEndless_135 (lv_at hl 4 rfl) ?_
          refine lv_iload hx hb dX0_goEndless_137 (lv_at hl 3 rfl) ?_
          refine lv_imul hx hb dX0_goEndless_139 ?_
          refine lv_bipush (v := 6) hx hb dX0_goEndless_140 rfl ?_
          refine lv_iload hx hb dX0_goEndless_142 (lv_at hl 4 rfl) ?_
          refine lv_isub hx hb dX0_goEndless_144 ?_
          refine lv_bipush (v := 6) hx hb dX0_goEndless_145 rfl ?_
          refine lv_iload hx hb dX0_goEndless_147 (lv_at hl 2 rfl) ?_
          refine lv_isub hx hb dX0_goEndless_149 ?_
          refine lv_imul hx hb dX0_goEndless_150 ?_
          refine lv_iadd hx hb dX0_goEndless_151 ?_
          refine lv_i2l hx hb dX0_goEndless_152 rfl ?_
          refine lv_lmul hx hb dX0_goEndless_153 ?_
          refine lv_topl (fun x24 hx24 => ?_)
          have hf := z_let_u hx24 hf
          refine lv_lstore (lv' := [(5, .long x24), (9, .long x23), (7, .long x22), (15, .int x21), (14, .int x20), (13, .int x19), (12, .int v15), (0, .ref (q 0)), (1, .ref (qs 0)), (2, .int a2), (3, .int x1), (4, .int x2), (11, .int x6)]) hx hb dX0_goEndless_154 hl (Nat.le_of_ble_eq_true rfl) rfl (fun ls hl => ?_)
          obtain ⟨x25, hx25⟩ : ∃ y : Int32, y = (x6 + 1) := ⟨_, rfl⟩
          have hf := z_let_u hx25 hf
          refine lv_iinc (v := x25) (lv' := [(11, .int x25), (5, .long x24), (9, .long x23), (7, .long x22), (15, .int x21), (14, .int x20), (13, .int x19), (12, .int v15), (0, .ref (q 0)), (1, .ref (qs 0)), (2, .int a2), (3, .int x1), (4, .int x2)]) hx hb dX0_goEndless_156 hl (k := 12) rfl (by rw [hx25]; rfl) (Nat.le_of_ble_eq_true rfl) rfl (fun ls hl => ?_)
          refine lv_goto (tgt := 23) hx hb dX0_goEndless_159 (by decide) ?_
          exact ih9 x24 x22 x23 x25 hf _ _ ls  hP hD hS (lv_sub hl [8, 9, 10, 11, 12, 1, 3, 2, 0] rfl)
        refine lv_icmp_ge (tgt := 44) hx hb dX0_goEndless_34 (by decide) (fun c18 => ?_) (fun c18 => ?_)
        · skip
          refine lv_iload_n hx hb dX0_goEndless_44 rfl (lv_at hl 2 rfl) ?_
          refine lv_iload hx hb dX0_goEndless_45 (lv_at hl 8 rfl) ?_
          refine lv_iadd hx hb dX0_goEndless_47 ?_
          refine lv_iload_n hx hb dX0_goEndless_48 rfl (lv_at hl 3 rfl) ?_
          refine lv_isub hx hb dX0_goEndless_49 ?_
          exact hj17 ((a2 + x6) - x1) (if_pos c18).symm _ _ ls hP hD hS (lv_sub hl [0, 1, 2, 3, 4, 5, 6, 7, 8] rfl)
        · skip
          refine lv_iload_n hx hb dX0_goEndless_37 rfl (lv_at hl 2 rfl) ?_
          refine lv_iload hx hb dX0_goEndless_38 (lv_at hl 8 rfl) ?_
          refine lv_iadd hx hb dX0_goEndless_40 ?_
          refine lv_goto (tgt := 50) hx hb dX0_goEndless_41 (by decide) ?_
          exact hj17 (a2 + x6) (if_neg c18).symm _ _ ls hP hD hS (lv_sub hl [0, 1, 2, 3, 4, 5, 6, 7, 8] rfl)
  refine hL7 _ ?_ F 1 0 0 0 hf _ _ ls  hP hD hS (lv_sub hl [6, 7, 8, 5, 4, 3, 2, 1, 0] rfl)
  intro x11 x12 x13 hf H locs ls hP hD hS hl
  refine lv_aload_n hx hb dX0_goEndless_162 rfl (lv_at hl 0 rfl) ?_
  refine lv_iconst (v := 2) hx hb dX0_goEndless_163 rfl ?_
  refine lv_iload_n hx hb dX0_goEndless_164 rfl (lv_at hl 1 rfl) ?_
  refine lv_imul hx hb dX0_goEndless_165 ?_
  refine zc_RSNl (As := [.int (2 * x1)]) (rest := [.ref (q 0)]) hx hb hml hown htw (ctX7_sixes l D ac cs   (2 * x1)   _ rfl) (va_Nw.of rfl (va_Nw.use (A := #[]) rfl (hKX.2 _ (List.mem_of_getElem? (i := 36) rfl)))) mN_RX7 mT_yX7_sixes mC_yX7_sixes (hd_yX7_sixes) ⟨rfl, rfl⟩ ⟨(Nat.le_of_ble_eq_true rfl), (Nat.le_of_ble_eq_true rfl)⟩ hKX hC hS zP0 rfl hl.1 rfl (Nat.le_of_ble_eq_true rfl) ⟨Nat.zero_le _, Nat.zero_le _⟩ dX0_goEndless_166 ?_
  refine lv_lload hx hb dX0_goEndless_169 (lv_at hl 3 rfl) ?_
  refine lv_lsub hx hb dX0_goEndless_171 ?_
  refine lv_topl (fun x26 hx26 => ?_)
  have hf := z_let_u hx26 hf
  refine va_put (D := D) (ci := 0) (v := .long x26) (ty := tyX0 11) (C := RX0) (T := TX0) (N := 15) hx hb htw WW_wsX00 tyX0 tyX0_ok nmX0 hown hKX.1 hP hD hS 0 rfl rfl 11 (Nat.le_of_ble_eq_true rfl) (htw _ mF_RX0_77) (fun _ h9 => h9) rfl (tyX0_ok 11 (Nat.le_of_ble_eq_true rfl)) rfl rfl (Nat.le_of_ble_eq_true rfl) dX0_goEndless_172 (fun H locs hP hD hS => ?_)
  have hP : va_P D vwCl (fcW ac q w1 w2 ((fc_endWays fc), (fc_scoreWays fc), (fc_ways fc), (fc_waysBehind fc), (fc_grow fc), (fc_last fc), (fc_wonByA fc), (fc_wonByB fc), (fc_level fc), (fc_endlessA fc), (fc_endlessB fc), x26, (fc_winsOfA fc), (fc_winsOfB fc), (fc_whole fc)) ++ (shW ac qs sh)) H := hP
  have hD : va_D A (fcW ac q w1 w2 ((fc_endWays fc), (fc_scoreWays fc), (fc_ways fc), (fc_waysBehind fc), (fc_grow fc), (fc_last fc), (fc_wonByA fc), (fc_wonByB fc), (fc_level fc), (fc_endlessA fc), (fc_endlessB fc), x26, (fc_winsOfA fc), (fc_winsOfB fc), (fc_whole fc)) ++ (shW ac qs sh)) := hD
  refine lv_aload_n hx hb dX0_goEndless_175 rfl (lv_at hl 0 rfl) ?_
  refine va_get (D := D) (ci := 0) (v := .long x26) (C := RX0) (T := TX0) (N := 15) hx hb htw WW_wsX00 hown hKX.1 hP 0 rfl rfl 11 (Nat.le_of_ble_eq_true rfl) (htw _ mF_RX0_77) (fun _ h9 => h9) rfl dX0_goEndless_176 ?_
  refine lv_lconst (v := 0) hx hb dX0_goEndless_179 rfl ?_
  refine W.lcmp hx hb dX0_goEndless_180 ?_
  obtain ⟨k28, hk28, hf⟩ := z_jn_u hf
  have hj29 : ∀ (fc27 : Fc), k28 fc27 = some res → ∀ (H : Heap) (locs : List Loc) (ls : Array Slot), va_P D vwCl (fcW ac q w1 w2 fc27 ++ (shW ac qs sh)) H → va_D A (fcW ac q w1 w2 fc27 ++ (shW ac qs sh)) → va_S A s.heap H locs → lv_has ls 16 [(0, .ref (q 0)), (4, .int x2), (7, .long x12), (9, .long x13)] → W p l e ({ frames := 2, cells := 0, slots := 0, locals := 47 } : Room) s m (([.ref (q 0), .ref (qs 0), .int a2] : List Value).toArray) below meth c H locs 0 0 (MQ below (va_Qv (fun _ : Unit => True) (fun _ => zB D A (fcW ac q w1 w2 res ++ (shW ac qs sh))) A) ([.ref (q 0), .ref (qs 0), .int a2] : List Value).toArray s 0 0 A) (F0 m 189 ls []) := by
    intro fc27 hf H locs ls hP hD hS hl
    have hf := hk28 _ hf
    refine lv_aload_n hx hb dX0_goEndless_189 rfl (lv_at hl 0 rfl) ?_
    refine lv_iload hx hb dX0_goEndless_190 (lv_at hl 1 rfl) ?_
    have hj32 : ∀ (v30 : Int64), v30 = (if x2 = 0 then x12 else x13) → ∀ (H : Heap) (locs : List Loc) (ls : Array Slot), va_P D vwCl (fcW ac q w1 w2 fc27 ++ (shW ac qs sh)) H → va_D A (fcW ac q w1 w2 fc27 ++ (shW ac qs sh)) → va_S A s.heap H locs → lv_has ls 16 [(0, .ref (q 0)), (4, .int x2), (7, .long x12), (9, .long x13)] → W p l e ({ frames := 2, cells := 0, slots := 0, locals := 47 } : Room) s m (([.ref (q 0), .ref (qs 0), .int a2] : List Value).toArray) below meth c H locs 0 0 (MQ below (va_Qv (fun _ : Unit => True) (fun _ => zB D A (fcW ac q w1 w2 res ++ (shW ac qs sh))) A) ([.ref (q 0), .ref (qs 0), .int a2] : List Value).toArray s 0 0 A) (F0 m 202 ls [.long v30, .ref (q 0)]) := by
      intro v30 hv30 H locs ls hP hD hS hl
      have hf := z_let_u hv30 hf
      refine va_put (D := D) (ci := 0) (v := .long v30) (ty := tyX0 9) (C := RX0) (T := TX0) (N := 15) hx hb htw WW_wsX00 tyX0 tyX0_ok nmX0 hown hKX.1 hP hD hS 0 rfl rfl 9 (Nat.le_of_ble_eq_true rfl) (htw _ mF_RX0_83) (fun _ h9 => h9) rfl (tyX0_ok 9 (Nat.le_of_ble_eq_true rfl)) rfl rfl (Nat.le_of_ble_eq_true rfl) dX0_goEndless_202 (fun H locs hP hD hS => ?_)
      have hP : va_P D vwCl (fcW ac q w1 w2 ((fc_endWays fc27), (fc_scoreWays fc27), (fc_ways fc27), (fc_waysBehind fc27), (fc_grow fc27), (fc_last fc27), (fc_wonByA fc27), (fc_wonByB fc27), (fc_level fc27), v30, (fc_endlessB fc27), (fc_endless fc27), (fc_winsOfA fc27), (fc_winsOfB fc27), (fc_whole fc27)) ++ (shW ac qs sh)) H := hP
      have hD : va_D A (fcW ac q w1 w2 ((fc_endWays fc27), (fc_scoreWays fc27), (fc_ways fc27), (fc_waysBehind fc27), (fc_grow fc27), (fc_last fc27), (fc_wonByA fc27), (fc_wonByB fc27), (fc_level fc27), v30, (fc_endlessB fc27), (fc_endless fc27), (fc_winsOfA fc27), (fc_winsOfB fc27), (fc_whole fc27)) ++ (shW ac qs sh)) := hD
      refine lv_aload_n hx hb dX0_goEndless_205 rfl (lv_at hl 0 rfl) ?_
      refine lv_iload hx hb dX0_goEndless_206 (lv_at hl 1 rfl) ?_
      have hj36 : ∀ (v34 : Int64), v34 = (if x2 = 0 then x13 else x12) → ∀ (H : Heap) (locs : List Loc) (ls : Array Slot), va_P D vwCl (fcW ac q w1 w2 ((fc_endWays fc27), (fc_scoreWays fc27), (fc_ways fc27), (fc_waysBehind fc27), (fc_grow fc27), (fc_last fc27), (fc_wonByA fc27), (fc_wonByB fc27), (fc_level fc27), v30, (fc_endlessB fc27), (fc_endless fc27), (fc_winsOfA fc27), (fc_winsOfB fc27), (fc_whole fc27)) ++ (shW ac qs sh)) H → va_D A (fcW ac q w1 w2 ((fc_endWays fc27), (fc_scoreWays fc27), (fc_ways fc27), (fc_waysBehind fc27), (fc_grow fc27), (fc_last fc27), (fc_wonByA fc27), (fc_wonByB fc27), (fc_level fc27), v30, (fc_endlessB fc27), (fc_endless fc27), (fc_winsOfA fc27), (fc_winsOfB fc27), (fc_whole fc27)) ++ (shW ac qs sh)) → va_S A s.heap H locs → lv_has ls 16 [] → W p l e ({ frames := 2, cells := 0, slots := 0, locals := 47 } : Room) s m (([.ref (q 0), .ref (qs 0), .int a2] : List Value).toArray) below meth c H locs 0 0 (MQ below (va_Qv (fun _ : Unit => True) (fun _ => zB D A (fcW ac q w1 w2 res ++ (shW ac qs sh))) A) ([.ref (q 0), .ref (qs 0), .int a2] : List Value).toArray s 0 0 A) (F0 m 218 ls [.long v34, .ref (q 0)]) := by
        intro v34 hv34 H locs ls hP hD hS hl
        have hf := z_let_u hv34 hf
        refine va_put (D := D) (ci := 0) (v := .long v34) (ty := tyX0 10) (C := RX0) (T := TX0) (N := 15) hx hb htw WW_wsX00 tyX0 tyX0_ok nmX0 hown hKX.1 hP hD hS 0 rfl rfl 10 (Nat.le_of_ble_eq_true rfl) (htw _ mF_RX0_89) (fun _ h9 => h9) rfl (tyX0_ok 10 (Nat.le_of_ble_eq_true rfl)) rfl rfl (Nat.le_of_ble_eq_true rfl) dX0_goEndless_218 (fun H locs hP hD hS => ?_)
        have hP : va_P D vwCl (fcW ac q w1 w2 ((fc_endWays fc27), (fc_scoreWays fc27), (fc_ways fc27), (fc_waysBehind fc27), (fc_grow fc27), (fc_last fc27), (fc_wonByA fc27), (fc_wonByB fc27), (fc_level fc27), v30, v34, (fc_endless fc27), (fc_winsOfA fc27), (fc_winsOfB fc27), (fc_whole fc27)) ++ (shW ac qs sh)) H := hP
        have hD : va_D A (fcW ac q w1 w2 ((fc_endWays fc27), (fc_scoreWays fc27), (fc_ways fc27), (fc_waysBehind fc27), (fc_grow fc27), (fc_last fc27), (fc_wonByA fc27), (fc_wonByB fc27), (fc_level fc27), v30, v34, (fc_endless fc27), (fc_winsOfA fc27), (fc_winsOfB fc27), (fc_whole fc27)) ++ (shW ac qs sh)) := hD
        obtain rfl := Option.some.inj hf
        exact zr_Mv hx hb hr hlocks hP hD hS dX0_goEndless_221
      refine lv_if_ne (tgt := 216) hx hb dX0_goEndless_208 (by decide) (fun c37 => ?_) (fun c37 => ?_)
      · skip
        refine lv_lload hx hb dX0_goEndless_216 (lv_at hl 2 rfl) ?_
        exact hj36 x12 (if_neg c37).symm _ _ ls hP hD hS (lv_sub hl [] rfl)
      · skip
        refine lv_lload hx hb dX0_goEndless_211 (lv_at hl 3 rfl) ?_
        refine lv_goto (tgt := 218) hx hb dX0_goEndless_213 (by decide) ?_
        exact hj36 x13 (if_pos c37).symm _ _ ls hP hD hS (lv_sub hl [] rfl)
    refine lv_if_ne (tgt := 200) hx hb dX0_goEndless_192 (by decide) (fun c33 => ?_) (fun c33 => ?_)
    · skip
      refine lv_lload hx hb dX0_goEndless_200 (lv_at hl 3 rfl) ?_
      exact hj32 x13 (if_neg c33).symm _ _ ls hP hD hS (lv_sub hl [0, 1, 2, 3] rfl)
    · skip
      refine lv_lload hx hb dX0_goEndless_195 (lv_at hl 2 rfl) ?_
      refine lv_goto (tgt := 202) hx hb dX0_goEndless_197 (by decide) ?_
      exact hj32 x12 (if_pos c33).symm _ _ ls hP hD hS (lv_sub hl [0, 1, 2, 3] rfl)
  refine lv_if_gt (tgt := 189) hx hb dX0_goEndless_181 (by decide) (fun c38 => ?_) (fun c38 => ?_)
  · have hf := z_p c38 hf
    exact hj29 ((fc_endWays fc), (fc_scoreWays fc), (fc_ways fc), (fc_waysBehind fc), (fc_grow fc), (fc_last fc), (fc_wonByA fc), (fc_wonByB fc), (fc_level fc), (fc_endlessA fc), (fc_endlessB fc), x26, (fc_winsOfA fc), (fc_winsOfB fc), (fc_whole fc)) hf _ _ ls  hP hD hS (lv_sub hl [0, 2, 4, 5] rfl)
  · have hf := z_n c38 hf
    refine lv_aload_n hx hb dX0_goEndless_184 rfl (lv_at hl 0 rfl) ?_
    refine lv_lconst (v := 1) hx hb dX0_goEndless_185 rfl ?_
    refine va_put (D := D) (ci := 0) (v := .long 1) (ty := tyX0 11) (C := RX0) (T := TX0) (N := 15) hx hb htw WW_wsX00 tyX0 tyX0_ok nmX0 hown hKX.1 hP hD hS 0 rfl rfl 11 (Nat.le_of_ble_eq_true rfl) (htw _ mF_RX0_77) (fun _ h9 => h9) rfl (tyX0_ok 11 (Nat.le_of_ble_eq_true rfl)) rfl rfl (Nat.le_of_ble_eq_true rfl) dX0_goEndless_186 (fun H locs hP hD hS => ?_)
    have hP : va_P D vwCl (fcW ac q w1 w2 ((fc_endWays fc), (fc_scoreWays fc), (fc_ways fc), (fc_waysBehind fc), (fc_grow fc), (fc_last fc), (fc_wonByA fc), (fc_wonByB fc), (fc_level fc), (fc_endlessA fc), (fc_endlessB fc), 1, (fc_winsOfA fc), (fc_winsOfB fc), (fc_whole fc)) ++ (shW ac qs sh)) H := hP
    have hD : va_D A (fcW ac q w1 w2 ((fc_endWays fc), (fc_scoreWays fc), (fc_ways fc), (fc_waysBehind fc), (fc_grow fc), (fc_last fc), (fc_wonByA fc), (fc_wonByB fc), (fc_level fc), (fc_endlessA fc), (fc_endlessB fc), 1, (fc_winsOfA fc), (fc_winsOfB fc), (fc_whole fc)) ++ (shW ac qs sh)) := hD
    exact hj29 ((fc_endWays fc), (fc_scoreWays fc), (fc_ways fc), (fc_waysBehind fc), (fc_grow fc), (fc_last fc), (fc_wonByA fc), (fc_wonByB fc), (fc_level fc), (fc_endlessA fc), (fc_endlessB fc), 1, (fc_winsOfA fc), (fc_winsOfB fc), (fc_whole fc)) hf _ _ ls  hP hD hS (lv_sub hl [0, 2, 4, 5] rfl)

theorem hd_yX0_lookSudden : hdY yX0_lookSudden 1 := by decide +kernel
def Fc_lookSudden (F : Nat) (fc : Fc) (sh : Sh) : Option (Fc) := z_let (if (z_rem (sh_kicks sh) 2) = 1 then 1 else 0) (fun v1 : Int32 => z_let (if v1 = 0 then 0 else 1) (fun v5 : Int32 => z_bd (Fc_goEndless F fc sh ((Sh_shooter sh) + v5)) (fun u9 : Fc => z_let (fc_endlessA u9) (fun x10 : Int64 => z_let (fc_endlessB u9) (fun x11 : Int64 => z_let (fc_endless u9) (fun x12 : Int64 => if v1 = 0 then (some ((fc_endWays u9), (fc_scoreWays u9), (fc_ways u9), (fc_waysBehind u9), (fc_grow u9), (fc_last u9), (fc_wonByA u9), (fc_wonByB u9), (fc_level u9), (fc_endlessA u9), (fc_endlessB u9), (fc_endless u9), x10, x11, x12)) else (z_let (Sh_kicker sh) (fun x14 : Int32 => z_let (Sh_chance sh) (fun x15 : Int32 => z_let (if Sh_lead sh = 0 then 0 else 1) (fun v16 : Int32 => z_let (if v16 = 0 then (6 - x15) else x15) (fun v20 : Int32 => z_let (if v16 = 0 then x14 else (1 - x14)) (fun v24 : Int32 => z_let (if v24 = 0 then (((6 - v20).toInt64) * (fc_endless u9)) else 0) (fun v28 : Int64 => z_let ((v20.toInt64 * (fc_endlessA u9)) + v28) (fun x32 : Int64 => z_let (if v24 = 1 then (((6 - v20).toInt64) * (fc_endless u9)) else 0) (fun v33 : Int64 => z_let ((v20.toInt64 * (fc_endlessB u9)) + v33) (fun x37 : Int64 => z_let (6 * (fc_endless u9)) (fun x38 : Int64 => some ((fc_endWays u9), (fc_scoreWays u9), (fc_ways u9), (fc_waysBehind u9), (fc_grow u9), (fc_last u9), (fc_wonByA u9), (fc_wonByB u9), (fc_level u9), (fc_endlessA u9), (fc_endlessB u9), (fc_endless u9), x32, x37, x38))))))))))))))))))
set_option maxHeartbeats 4000000 in
set_option maxRecDepth 100000 in
theorem ctX0_lookSudden (l : Launch) (D : va_G) (ac cs : Nat → Nat) (q : Nat → Nat) (w1 w2 : Nat) (qs : Nat → Nat) (sz : Nat) (fc : Fc) (sh : Sh) (F : Nat) (res : Fc) (hf : Fc_lookSudden F fc sh = some res) : Met l yX0_lookSudden (cWW yX0_lookSudden cX0_lookSudden 8 none) { frames := 5, cells := 0, slots := 0, locals := 104 } (zM D ac cs [.ref (q 0), .ref (qs 0)] (fcW ac q w1 w2 fc ++ (shW ac qs sh)) sz) (va_Qv (fun _ : Unit => True) (fun _ => zB D (va_A (fcW ac q w1 w2 fc ++ (shW ac qs sh)) sz) (fcW ac q w1 w2 res ++ (shW ac qs sh))) (va_A (fcW ac q w1 w2 fc ++ (shW ac qs sh)) sz)) 0 0 (va_A (fcW ac q w1 w2 fc ++ (shW ac qs sh)) sz) := by
  refine Met.ofW (cc := cX0_lookSudden) (maxL := 8) (ret := none) (by decide) rfl ?_
  intro p e s m args below meth c s₁ B hml hv
  obtain ⟨rfl, hsz, hP, hKX, hD0, hC⟩ := hv
  have hx := B.exec
  have hb := B.bytes
  have hr := B.returns
  have hts := atoms_spec (ws := cWW yX0_lookSudden cX0_lookSudden 8 none) B.pre
  have htw : ∀ w ∈ WW, w.before _ s = true := fun w h => hts w (List.mem_cons_of_mem _ h)
  have hown : s.vm.findClass RX0 = some m.cls := findClass_of_methodNamed B.named
  have hlocks := B.notSynchronized
  clear hts B
  subst hsz
  have hD := hD0.self (sz := s.heap.size)
  generalize hAe : va_A (fcW ac q w1 w2 fc ++ (shW ac qs sh)) s.heap.size = A at hD hC ⊢
  have hA : ∀ q : Nat, s.heap.size ≤ q → A q := fun q h => by rw [← hAe]; exact Or.inr h
  have hS : va_S A s.heap s.heap [] := va_S.rf
  clear hD0 hAe
  have hP : va_P D vwCl (fcW ac q w1 w2 fc ++ (shW ac qs sh)) s.heap := hP
  have hl := lv_entry ([.ref (q 0), .ref (qs 0)]) (n := 8) (Nat.le_of_ble_eq_true rfl)
  rw [lg_entry_eq]
  generalize (lg_sl ([.ref (q 0), .ref (qs 0)]) ++ List.replicate (8 - (lg_sl ([.ref (q 0), .ref (qs 0)])).length) Slot.unset).toArray = ls at hl ⊢
  have hl : lv_has ls 8 [(0, .ref (q 0)), (1, .ref (qs 0))] := hl
  unfold Fc_lookSudden at hf
  show W p l e ({ frames := 5, cells := 0, slots := 0, locals := 104 } : Room) s m _ below meth c s.heap [] 0 0 _ (F0 m 0 ls [])
  refine lv_aload_n hx hb dX0_lookSudden_0 rfl (lv_at hl 1 rfl) ?_
  refine va_getN (D := D) (ci := 4) (v := .int (sh_kicks sh)) (C := RX4) (T := TX4) (N := 10) hx hb htw WW_wsX40 hown hKX.1 hP 5 rfl rfl 3 (Nat.le_of_ble_eq_true rfl) (va_Nw.use rfl (hKX.2 _ (List.mem_of_getElem? (i := 10) rfl))) (fun _ h9 => h9) rfl dX0_lookSudden_1 ?_
  refine lv_iconst (v := 2) hx hb dX0_lookSudden_4 rfl ?_
  refine zv_irem hx hb dX0_lookSudden_5 (by decide) ?_
  refine lv_iconst (v := 1) hx hb dX0_lookSudden_6 rfl ?_
  have hj3 : ∀ (v1 : Int32), v1 = (if (z_rem (sh_kicks sh) 2) = 1 then 1 else 0) → z_b v1 = true → ∀ (H : Heap) (locs : List Loc) (ls : Array Slot), va_P D vwCl (fcW ac q w1 w2 fc ++ (shW ac qs sh)) H → va_D A (fcW ac q w1 w2 fc ++ (shW ac qs sh)) → va_S A s.heap H locs → lv_has ls 8 [(0, .ref (q 0)), (1, .ref (qs 0))] → W p l e ({ frames := 5, cells := 0, slots := 0, locals := 104 } : Room) s m (([.ref (q 0), .ref (qs 0)] : List Value).toArray) below meth c H locs 0 0 (MQ below (va_Qv (fun _ : Unit => True) (fun _ => zB D A (fcW ac q w1 w2 res ++ (shW ac qs sh))) A) ([.ref (q 0), .ref (qs 0)] : List Value).toArray s 0 0 A) (F0 m 15 ls [.int v1]) := by
    intro v1 hv1 bv1 H locs ls hP hD hS hl
    have hf := z_let_u hv1 hf
    refine lv_istore_n (lv' := [(2, .int v1), (0, .ref (q 0)), (1, .ref (qs 0))]) hx hb dX0_lookSudden_15 rfl hl (Nat.le_of_ble_eq_true rfl) rfl (fun ls hl => ?_)
    refine lv_aload_n hx hb dX0_lookSudden_16 rfl (lv_at hl 1 rfl) ?_
    refine lv_aload_n hx hb dX0_lookSudden_17 rfl (lv_at hl 2 rfl) ?_
    refine lv_aload_n hx hb dX0_lookSudden_18 rfl (lv_at hl 2 rfl) ?_
    refine zc_RVi (As := []) (rest := [.ref (qs 0), .ref (q 0)]) hx hb hml hown htw (ctX4_shooter l D ac cs qs sh    _ rfl) (g_V mM_RX0_102 mI_yX4_shooter mS_RX4_yX4_shooter_yX4_shooter mN_RX4 mC_yX4_shooter) rfl (hd_yX4_shooter) ⟨rfl, rfl⟩ ⟨(Nat.le_of_ble_eq_true rfl), (Nat.le_of_ble_eq_true rfl)⟩ hKX hC hS (hP.sub [5, 6, 7] rfl) 4 rfl rfl rfl hl.1 rfl (Nat.le_of_ble_eq_true rfl) ⟨Nat.zero_le _, Nat.zero_le _⟩ dX0_lookSudden_19 ?_
    refine lv_iload_n hx hb dX0_lookSudden_22 rfl (lv_at hl 0 rfl) ?_
    have hj7 : ∀ (v5 : Int32), v5 = (if v1 = 0 then 0 else 1) → z_b v5 = true → ∀ (H : Heap) (locs : List Loc) (ls : Array Slot), va_P D vwCl (fcW ac q w1 w2 fc ++ (shW ac qs sh)) H → va_D A (fcW ac q w1 w2 fc ++ (shW ac qs sh)) → va_S A s.heap H locs → lv_has ls 8 [(0, .ref (q 0)), (1, .ref (qs 0)), (2, .int v1)] → W p l e ({ frames := 5, cells := 0, slots := 0, locals := 104 } : Room) s m (([.ref (q 0), .ref (qs 0)] : List Value).toArray) below meth c H locs 0 0 (MQ below (va_Qv (fun _ : Unit => True) (fun _ => zB D A (fcW ac q w1 w2 res ++ (shW ac qs sh))) A) ([.ref (q 0), .ref (qs 0)] : List Value).toArray s 0 0 A) (F0 m 31 ls [.int v5, .int (Sh_shooter sh), .ref (qs 0), .ref (q 0)]) := by
      intro v5 hv5 bv5 H locs ls hP hD hS hl
      have hf := z_let_u hv5 hf
      refine lv_iadd hx hb dX0_lookSudden_31 ?_
      obtain ⟨u9, hu9, hf⟩ := z_bd_u hf
      refine zc_MVv (As := [.ref (qs 0), .int ((Sh_shooter sh) + v5)]) (rest := []) (wr := []) (wsc := fcW ac q w1 w2 fc ++ (shW ac qs sh)) (wsc' := fcW ac q w1 w2 u9 ++ (shW ac qs sh)) hx hb hml hown htw (ctX0_goEndless l D ac cs q w1 w2 qs H.size fc sh ((Sh_shooter sh) + v5)   F u9 hu9) (g_V mM_RX0_71 mI_yX0_goEndless mS_RX0_yX0_goEndless_yX0_goEndless mN_RX0 mC_yX0_goEndless) rfl (hd_yX0_goEndless) ⟨rfl, rfl⟩ ⟨(Nat.le_of_ble_eq_true rfl), (Nat.le_of_ble_eq_true rfl)⟩ hKX hC hS hA hP hD [0, 1, 2, 3, 4, 5, 6, 7] [] rfl (by decide) rfl (by decide) (by decide) 0 rfl rfl rfl hl.1 rfl (Nat.le_of_ble_eq_true rfl) ⟨Nat.zero_le _, Nat.zero_le _⟩ dX0_lookSudden_32 (fun H locs hP hD hS => ?_)
      have hP : va_P D vwCl (fcW ac q w1 w2 u9 ++ (shW ac qs sh)) H := hP
      have hD : va_D A (fcW ac q w1 w2 u9 ++ (shW ac qs sh)) := hD
      refine lv_aload_n hx hb dX0_lookSudden_35 rfl (lv_at hl 0 rfl) ?_
      refine lv_aload_n hx hb dX0_lookSudden_36 rfl (lv_at hl 0 rfl) ?_
      refine va_get (D := D) (ci := 0) (v := .long (fc_endlessA u9)) (C := RX0) (T := TX0) (N := 15) hx hb htw WW_wsX00 hown hKX.1 hP 0 rfl rfl 9 (Nat.le_of_ble_eq_true rfl) (htw _ mF_RX0_83) (fun _ h9 => h9) rfl dX0_lookSudden_37 ?_
      refine lv_topl (fun x10 hx10 => ?_)
      have hf := z_let_u hx10 hf
      refine va_put (D := D) (ci := 0) (v := .long x10) (ty := tyX0 12) (C := RX0) (T := TX0) (N := 15) hx hb htw WW_wsX00 tyX0 tyX0_ok nmX0 hown hKX.1 hP hD hS 0 rfl rfl 12 (Nat.le_of_ble_eq_true rfl) (htw _ mF_RX0_28) (fun _ h9 => h9) rfl (tyX0_ok 12 (Nat.le_of_ble_eq_true rfl)) rfl rfl (Nat.le_of_ble_eq_true rfl) dX0_lookSudden_40 (fun H locs hP hD hS => ?_)
      have hP : va_P D vwCl (fcW ac q w1 w2 ((fc_endWays u9), (fc_scoreWays u9), (fc_ways u9), (fc_waysBehind u9), (fc_grow u9), (fc_last u9), (fc_wonByA u9), (fc_wonByB u9), (fc_level u9), (fc_endlessA u9), (fc_endlessB u9), (fc_endless u9), x10, (fc_winsOfB u9), (fc_whole u9)) ++ (shW ac qs sh)) H := hP
      have hD : va_D A (fcW ac q w1 w2 ((fc_endWays u9), (fc_scoreWays u9), (fc_ways u9), (fc_waysBehind u9), (fc_grow u9), (fc_last u9), (fc_wonByA u9), (fc_wonByB u9), (fc_level u9), (fc_endlessA u9), (fc_endlessB u9), (fc_endless u9), x10, (fc_winsOfB u9), (fc_whole u9)) ++ (shW ac qs sh)) := hD
      refine lv_aload_n hx hb dX0_lookSudden_43 rfl (lv_at hl 0 rfl) ?_
      refine lv_aload_n hx hb dX0_lookSudden_44 rfl (lv_at hl 0 rfl) ?_
      refine va_get (D := D) (ci := 0) (v := .long (fc_endlessB u9)) (C := RX0) (T := TX0) (N := 15) hx hb htw WW_wsX00 hown hKX.1 hP 0 rfl rfl 10 (Nat.le_of_ble_eq_true rfl) (htw _ mF_RX0_89) (fun _ h9 => h9) rfl dX0_lookSudden_45 ?_
      refine lv_topl (fun x11 hx11 => ?_)
      have hf := z_let_u hx11 hf
      refine va_put (D := D) (ci := 0) (v := .long x11) (ty := tyX0 13) (C := RX0) (T := TX0) (N := 15) hx hb htw WW_wsX00 tyX0 tyX0_ok nmX0 hown hKX.1 hP hD hS 0 rfl rfl 13 (Nat.le_of_ble_eq_true rfl) (htw _ mF_RX0_31) (fun _ h9 => h9) rfl (tyX0_ok 13 (Nat.le_of_ble_eq_true rfl)) rfl rfl (Nat.le_of_ble_eq_true rfl) dX0_lookSudden_48 (fun H locs hP hD hS => ?_)
      have hP : va_P D vwCl (fcW ac q w1 w2 ((fc_endWays u9), (fc_scoreWays u9), (fc_ways u9), (fc_waysBehind u9), (fc_grow u9), (fc_last u9), (fc_wonByA u9), (fc_wonByB u9), (fc_level u9), (fc_endlessA u9), (fc_endlessB u9), (fc_endless u9), x10, x11, (fc_whole u9)) ++ (shW ac qs sh)) H := hP
      have hD : va_D A (fcW ac q w1 w2 ((fc_endWays u9), (fc_scoreWays u9), (fc_ways u9), (fc_waysBehind u9), (fc_grow u9), (fc_last u9), (fc_wonByA u9), (fc_wonByB u9), (fc_level u9), (fc_endlessA u9), (fc_endlessB u9), (fc_endless u9), x10, x11, (fc_whole u9)) ++ (shW ac qs sh)) := hD
      refine lv_aload_n hx hb dX0_lookSudden_51 rfl (lv_at hl 0 rfl) ?_
      refine lv_aload_n hx hb dX0_lookSudden_52 rfl (lv_at hl 0 rfl) ?_
      refine va_get (D := D) (ci := 0) (v := .long (fc_endless u9)) (C := RX0) (T := TX0) (N := 15) hx hb htw WW_wsX00 hown hKX.1 hP 0 rfl rfl 11 (Nat.le_of_ble_eq_true rfl) (htw _ mF_RX0_77) (fun _ h9 => h9) rfl dX0_lookSudden_53 ?_
      refine lv_topl (fun x12 hx12 => ?_)
      have hf := z_let_u hx12 hf
      refine va_put (D := D) (ci := 0) (v := .long x12) (ty := tyX0 14) (C := RX0) (T := TX0) (N := 15) hx hb htw WW_wsX00 tyX0 tyX0_ok nmX0 hown hKX.1 hP hD hS 0 rfl rfl 14 (Nat.le_of_ble_eq_true rfl) (htw _ mF_RX0_24) (fun _ h9 => h9) rfl (tyX0_ok 14 (Nat.le_of_ble_eq_true rfl)) rfl rfl (Nat.le_of_ble_eq_true rfl) dX0_lookSudden_56 (fun H locs hP hD hS => ?_)
      have hP : va_P D vwCl (fcW ac q w1 w2 ((fc_endWays u9), (fc_scoreWays u9), (fc_ways u9), (fc_waysBehind u9), (fc_grow u9), (fc_last u9), (fc_wonByA u9), (fc_wonByB u9), (fc_level u9), (fc_endlessA u9), (fc_endlessB u9), (fc_endless u9), x10, x11, x12) ++ (shW ac qs sh)) H := hP
      have hD : va_D A (fcW ac q w1 w2 ((fc_endWays u9), (fc_scoreWays u9), (fc_ways u9), (fc_waysBehind u9), (fc_grow u9), (fc_last u9), (fc_wonByA u9), (fc_wonByB u9), (fc_level u9), (fc_endlessA u9), (fc_endlessB u9), (fc_endless u9), x10, x11, x12) ++ (shW ac qs sh)) := hD
      refine lv_iload_n hx hb dX0_lookSudden_59 rfl (lv_at hl 2 rfl) ?_
      refine lv_if_eq (tgt := 198) hx hb dX0_lookSudden_60 (by decide) (fun c13 => ?_) (fun c13 => ?_)
      · have hf := z_p c13 hf
        obtain rfl := Option.some.inj hf
        exact zr_Mv hx hb hr hlocks hP hD hS dX0_lookSudden_198
      · have hf := z_n c13 hf
        refine lv_aload_n hx hb dX0_lookSudden_63 rfl (lv_at hl 1 rfl) ?_
        refine zc_RVi (As := []) (rest := []) hx hb hml hown htw (ctX4_kicker l D ac cs qs sh    _ rfl) (g_V mM_RX0_105 mI_yX4_kicker mS_RX4_yX4_kicker_yX4_kicker mN_RX4 mC_yX4_kicker) rfl (hd_yX4_kicker) ⟨rfl, rfl⟩ ⟨(Nat.le_of_ble_eq_true rfl), (Nat.le_of_ble_eq_true rfl)⟩ hKX hC hS (hP.sub [5, 6, 7] rfl) 4 rfl rfl rfl hl.1 rfl (Nat.le_of_ble_eq_true rfl) ⟨Nat.zero_le _, Nat.zero_le _⟩ dX0_lookSudden_64 ?_
        refine lv_topi (fun x14 hx14 => ?_)
        have hf := z_let_u hx14 hf
        refine lv_istore_n (lv' := [(3, .int x14), (0, .ref (q 0)), (1, .ref (qs 0)), (2, .int v1)]) hx hb dX0_lookSudden_67 rfl hl (Nat.le_of_ble_eq_true rfl) rfl (fun ls hl => ?_)
        refine lv_aload_n hx hb dX0_lookSudden_68 rfl (lv_at hl 2 rfl) ?_
        refine zc_RVi (As := []) (rest := []) hx hb hml hown htw (ctX4_chance l D ac cs qs sh    _ rfl) (g_V mM_RX0_108 mI_yX4_chance mS_RX4_yX4_chance_yX4_chance mN_RX4 mC_yX4_chance) rfl (hd_yX4_chance) ⟨rfl, rfl⟩ ⟨(Nat.le_of_ble_eq_true rfl), (Nat.le_of_ble_eq_true rfl)⟩ hKX hC hS (hP.sub [5, 6, 7] rfl) 4 rfl rfl rfl hl.1 rfl (Nat.le_of_ble_eq_true rfl) ⟨Nat.zero_le _, Nat.zero_le _⟩ dX0_lookSudden_69 ?_
        refine lv_topi (fun x15 hx15 => ?_)
        have hf := z_let_u hx15 hf
        refine lv_istore (lv' := [(4, .int x15), (3, .int x14), (0, .ref (q 0)), (1, .ref (qs 0)), (2, .int v1)]) hx hb dX0_lookSudden_72 hl (Nat.le_of_ble_eq_true rfl) rfl (fun ls hl => ?_)
        refine lv_aload_n hx hb dX0_lookSudden_74 rfl (lv_at hl 3 rfl) ?_
        refine zc_RVi (As := []) (rest := []) hx hb hml hown htw (ctX4_lead l D ac cs qs sh    _ rfl) (g_V mM_RX0_111 mI_yX4_lead mS_RX4_yX4_lead_yX4_lead mN_RX4 mC_yX4_lead) rfl (hd_yX4_lead) ⟨rfl, rfl⟩ ⟨(Nat.le_of_ble_eq_true rfl), (Nat.le_of_ble_eq_true rfl)⟩ hKX hC hS (hP.sub [5, 6, 7] rfl) 4 rfl rfl rfl hl.1 rfl (Nat.le_of_ble_eq_true rfl) ⟨Nat.zero_le _, Nat.zero_le _⟩ dX0_lookSudden_75 ?_
        have hj18 : ∀ (v16 : Int32), v16 = (if Sh_lead sh = 0 then 0 else 1) → z_b v16 = true → ∀ (H : Heap) (locs : List Loc) (ls : Array Slot), va_P D vwCl (fcW ac q w1 w2 ((fc_endWays u9), (fc_scoreWays u9), (fc_ways u9), (fc_waysBehind u9), (fc_grow u9), (fc_last u9), (fc_wonByA u9), (fc_wonByB u9), (fc_level u9), (fc_endlessA u9), (fc_endlessB u9), (fc_endless u9), x10, x11, x12) ++ (shW ac qs sh)) H → va_D A (fcW ac q w1 w2 ((fc_endWays u9), (fc_scoreWays u9), (fc_ways u9), (fc_waysBehind u9), (fc_grow u9), (fc_last u9), (fc_wonByA u9), (fc_wonByB u9), (fc_level u9), (fc_endlessA u9), (fc_endlessB u9), (fc_endless u9), x10, x11, x12) ++ (shW ac qs sh)) → va_S A s.heap H locs → lv_has ls 8 [(0, .ref (q 0)), (3, .int x14), (4, .int x15)] → W p l e ({ frames := 5, cells := 0, slots := 0, locals := 104 } : Room) s m (([.ref (q 0), .ref (qs 0)] : List Value).toArray) below meth c H locs 0 0 (MQ below (va_Qv (fun _ : Unit => True) (fun _ => zB D A (fcW ac q w1 w2 res ++ (shW ac qs sh))) A) ([.ref (q 0), .ref (qs 0)] : List Value).toArray s 0 0 A) (F0 m 86 ls [.int v16]) := by
          intro v16 hv16 bv16 H locs ls hP hD hS hl
          have hf := z_let_u hv16 hf
          refine lv_istore (lv' := [(5, .int v16), (0, .ref (q 0)), (3, .int x14), (4, .int x15)]) hx hb dX0_lookSudden_86 hl (Nat.le_of_ble_eq_true rfl) rfl (fun ls hl => ?_)
          refine lv_iload hx hb dX0_lookSudden_88 (lv_at hl 0 rfl) ?_
          have hj22 : ∀ (v20 : Int32), v20 = (if v16 = 0 then (6 - x15) else x15) → ∀ (H : Heap) (locs : List Loc) (ls : Array Slot), va_P D vwCl (fcW ac q w1 w2 ((fc_endWays u9), (fc_scoreWays u9), (fc_ways u9), (fc_waysBehind u9), (fc_grow u9), (fc_last u9), (fc_wonByA u9), (fc_wonByB u9), (fc_level u9), (fc_endlessA u9), (fc_endlessB u9), (fc_endless u9), x10, x11, x12) ++ (shW ac qs sh)) H → va_D A (fcW ac q w1 w2 ((fc_endWays u9), (fc_scoreWays u9), (fc_ways u9), (fc_waysBehind u9), (fc_grow u9), (fc_last u9), (fc_wonByA u9), (fc_wonByB u9), (fc_level u9), (fc_endlessA u9), (fc_endlessB u9), (fc_endless u9), x10, x11, x12) ++ (shW ac qs sh)) → va_S A s.heap H locs → lv_has ls 8 [(0, .ref (q 0)), (3, .int x14), (5, .int v16)] → W p l e ({ frames := 5, cells := 0, slots := 0, locals := 104 } : Room) s m (([.ref (q 0), .ref (qs 0)] : List Value).toArray) below meth c H locs 0 0 (MQ below (va_Qv (fun _ : Unit => True) (fun _ => zB D A (fcW ac q w1 w2 res ++ (shW ac qs sh))) A) ([.ref (q 0), .ref (qs 0)] : List Value).toArray s 0 0 A) (F0 m 103 ls [.int v20]) := by
            intro v20 hv20 H locs ls hP hD hS hl
            have hf := z_let_u hv20 hf
            refine lv_istore (lv' := [(6, .int v20), (0, .ref (q 0)), (3, .int x14), (5, .int v16)]) hx hb dX0_lookSudden_103 hl (Nat.le_of_ble_eq_true rfl) rfl (fun ls hl => ?_)
            refine lv_iload hx hb dX0_lookSudden_105 (lv_at hl 3 rfl) ?_
            have hj26 : ∀ (v24 : Int32), v24 = (if v16 = 0 then x14 else (1 - x14)) → ∀ (H : Heap) (locs : List Loc) (ls : Array Slot), va_P D vwCl (fcW ac q w1 w2 ((fc_endWays u9), (fc_scoreWays u9), (fc_ways u9), (fc_waysBehind u9), (fc_grow u9), (fc_last u9), (fc_wonByA u9), (fc_wonByB u9), (fc_level u9), (fc_endlessA u9), (fc_endlessB u9), (fc_endless u9), x10, x11, x12) ++ (shW ac qs sh)) H → va_D A (fcW ac q w1 w2 ((fc_endWays u9), (fc_scoreWays u9), (fc_ways u9), (fc_waysBehind u9), (fc_grow u9), (fc_last u9), (fc_wonByA u9), (fc_wonByB u9), (fc_level u9), (fc_endlessA u9), (fc_endlessB u9), (fc_endless u9), x10, x11, x12) ++ (shW ac qs sh)) → va_S A s.heap H locs → lv_has ls 8 [(0, .ref (q 0)), (6, .int v20)] → W p l e ({ frames := 5, cells := 0, slots := 0, locals := 104 } : Room) s m (([.ref (q 0), .ref (qs 0)] : List Value).toArray) below meth c H locs 0 0 (MQ below (va_Qv (fun _ : Unit => True) (fun _ => zB D A (fcW ac q w1 w2 res ++ (shW ac qs sh))) A) ([.ref (q 0), .ref (qs 0)] : List Value).toArray s 0 0 A) (F0 m 117 ls [.int v24]) := by
              intro v24 hv24 H locs ls hP hD hS hl
              have hf := z_let_u hv24 hf
              refine lv_istore (lv' := [(7, .int v24), (0, .ref (q 0)), (6, .int v20)]) hx hb dX0_lookSudden_117 hl (Nat.le_of_ble_eq_true rfl) rfl (fun ls hl => ?_)
              refine lv_aload_n hx hb dX0_lookSudden_119 rfl (lv_at hl 1 rfl) ?_
              refine lv_iload hx hb dX0_lookSudden_120 (lv_at hl 2 rfl) ?_
              refine lv_i2l hx hb dX0_lookSudden_122 rfl ?_
              refine lv_aload_n hx hb dX0_lookSudden_123 rfl (lv_at hl 1 rfl) ?_
              refine va_get (D := D) (ci := 0) (v := .long (fc_endlessA u9)) (C := RX0) (T := TX0) (N := 15) hx hb htw WW_wsX00 hown hKX.1 hP 0 rfl rfl 9 (Nat.le_of_ble_eq_true rfl) (htw _ mF_RX0_83) (fun _ h9 => h9) rfl dX0_lookSudden_124 ?_
              refine lv_lmul hx hb dX0_lookSudden_127 ?_
              refine lv_iload hx hb dX0_lookSudden_128 (lv_at hl 0 rfl) ?_
              have hj30 : ∀ (v28 : Int64), v28 = (if v24 = 0 then (((6 - v20).toInt64) * (fc_endless u9)) else 0) → ∀ (H : Heap) (locs : List Loc) (ls : Array Slot), va_P D vwCl (fcW ac q w1 w2 ((fc_endWays u9), (fc_scoreWays u9), (fc_ways u9), (fc_waysBehind u9), (fc_grow u9), (fc_last u9), (fc_wonByA u9), (fc_wonByB u9), (fc_level u9), (fc_endlessA u9), (fc_endlessB u9), (fc_endless u9), x10, x11, x12) ++ (shW ac qs sh)) H → va_D A (fcW ac q w1 w2 ((fc_endWays u9), (fc_scoreWays u9), (fc_ways u9), (fc_waysBehind u9), (fc_grow u9), (fc_last u9), (fc_wonByA u9), (fc_wonByB u9), (fc_level u9), (fc_endlessA u9), (fc_endlessB u9), (fc_endless u9), x10, x11, x12) ++ (shW ac qs sh)) → va_S A s.heap H locs → lv_has ls 8 [(0, .ref (q 0)), (6, .int v20), (7, .int v24)] → W p l e ({ frames := 5, cells := 0, slots := 0, locals := 104 } : Room) s m (([.ref (q 0), .ref (qs 0)] : List Value).toArray) below meth c H locs 0 0 (MQ below (va_Qv (fun _ : Unit => True) (fun _ => zB D A (fcW ac q w1 w2 res ++ (shW ac qs sh))) A) ([.ref (q 0), .ref (qs 0)] : List Value).toArray s 0 0 A) (F0 m 148 ls [.long v28, .long (v20.toInt64 * (fc_endlessA u9)), .ref (q 0)]) := by
                intro v28 hv28 H locs ls hP hD hS hl
                have hf := z_let_u hv28 hf
                refine lv_ladd hx hb dX0_lookSudden_148 ?_
                refine lv_topl (fun x32 hx32 => ?_)
                have hf := z_let_u hx32 hf
                refine va_put (D := D) (ci := 0) (v := .long x32) (ty := tyX0 12) (C := RX0) (T := TX0) (N := 15) hx hb htw WW_wsX00 tyX0 tyX0_ok nmX0 hown hKX.1 hP hD hS 0 rfl rfl 12 (Nat.le_of_ble_eq_true rfl) (htw _ mF_RX0_28) (fun _ h9 => h9) rfl (tyX0_ok 12 (Nat.le_of_ble_eq_true rfl)) rfl rfl (Nat.le_of_ble_eq_true rfl) dX0_lookSudden_149 (fun H locs hP hD hS => ?_)
                have hP : va_P D vwCl (fcW ac q w1 w2 ((fc_endWays u9), (fc_scoreWays u9), (fc_ways u9), (fc_waysBehind u9), (fc_grow u9), (fc_last u9), (fc_wonByA u9), (fc_wonByB u9), (fc_level u9), (fc_endlessA u9), (fc_endlessB u9), (fc_endless u9), x32, x11, x12) ++ (shW ac qs sh)) H := hP
                have hD : va_D A (fcW ac q w1 w2 ((fc_endWays u9), (fc_scoreWays u9), (fc_ways u9), (fc_waysBehind u9), (fc_grow u9), (fc_last u9), (fc_wonByA u9), (fc_wonByB u9), (fc_level u9), (fc_endlessA u9), (fc_endlessB u9), (fc_endless u9), x32, x11, x12) ++ (shW ac qs sh)) := hD
                refine lv_aload_n hx hb dX0_lookSudden_152 rfl (lv_at hl 0 rfl) ?_
                refine lv_iload hx hb dX0_lookSudden_153 (lv_at hl 1 rfl) ?_
                refine lv_i2l hx hb dX0_lookSudden_155 rfl ?_
                refine lv_aload_n hx hb dX0_lookSudden_156 rfl (lv_at hl 0 rfl) ?_
                refine va_get (D := D) (ci := 0) (v := .long (fc_endlessB u9)) (C := RX0) (T := TX0) (N := 15) hx hb htw WW_wsX00 hown hKX.1 hP 0 rfl rfl 10 (Nat.le_of_ble_eq_true rfl) (htw _ mF_RX0_89) (fun _ h9 => h9) rfl dX0_lookSudden_157 ?_
                refine lv_lmul hx hb dX0_lookSudden_160 ?_
                refine lv_iload hx hb dX0_lookSudden_161 (lv_at hl 2 rfl) ?_
                refine lv_iconst (v := 1) hx hb dX0_lookSudden_163 rfl ?_
                have hj35 : ∀ (v33 : Int64), v33 = (if v24 = 1 then (((6 - v20).toInt64) * (fc_endless u9)) else 0) → ∀ (H : Heap) (locs : List Loc) (ls : Array Slot), va_P D vwCl (fcW ac q w1 w2 ((fc_endWays u9), (fc_scoreWays u9), (fc_ways u9), (fc_waysBehind u9), (fc_grow u9), (fc_last u9), (fc_wonByA u9), (fc_wonByB u9), (fc_level u9), (fc_endlessA u9), (fc_endlessB u9), (fc_endless u9), x32, x11, x12) ++ (shW ac qs sh)) H → va_D A (fcW ac q w1 w2 ((fc_endWays u9), (fc_scoreWays u9), (fc_ways u9), (fc_waysBehind u9), (fc_grow u9), (fc_last u9), (fc_wonByA u9), (fc_wonByB u9), (fc_level u9), (fc_endlessA u9), (fc_endlessB u9), (fc_endless u9), x32, x11, x12) ++ (shW ac qs sh)) → va_S A s.heap H locs → lv_has ls 8 [(0, .ref (q 0))] → W p l e ({ frames := 5, cells := 0, slots := 0, locals := 104 } : Room) s m (([.ref (q 0), .ref (qs 0)] : List Value).toArray) below meth c H locs 0 0 (MQ below (va_Qv (fun _ : Unit => True) (fun _ => zB D A (fcW ac q w1 w2 res ++ (shW ac qs sh))) A) ([.ref (q 0), .ref (qs 0)] : List Value).toArray s 0 0 A) (F0 m 182 ls [.long v33, .long (v20.toInt64 * (fc_endlessB u9)), .ref (q 0)]) := by
                  intro v33 hv33 H locs ls hP hD hS hl
                  have hf := z_let_u hv33 hf
                  refine lv_ladd hx hb dX0_lookSudden_182 ?_
                  refine lv_topl (fun x37 hx37 => ?_)
                  have hf := z_let_u hx37 hf
                  refine va_put (D := D) (ci := 0) (v := .long x37) (ty := tyX0 13) (C := RX0) (T := TX0) (N := 15) hx hb htw WW_wsX00 tyX0 tyX0_ok nmX0 hown hKX.1 hP hD hS 0 rfl rfl 13 (Nat.le_of_ble_eq_true rfl) (htw _ mF_RX0_31) (fun _ h9 => h9) rfl (tyX0_ok 13 (Nat.le_of_ble_eq_true rfl)) rfl rfl (Nat.le_of_ble_eq_true rfl) dX0_lookSudden_183 (fun H locs hP hD hS => ?_)
                  have hP : va_P D vwCl (fcW ac q w1 w2 ((fc_endWays u9), (fc_scoreWays u9), (fc_ways u9), (fc_waysBehind u9), (fc_grow u9), (fc_last u9), (fc_wonByA u9), (fc_wonByB u9), (fc_level u9), (fc_endlessA u9), (fc_endlessB u9), (fc_endless u9), x32, x37, x12) ++ (shW ac qs sh)) H := hP
                  have hD : va_D A (fcW ac q w1 w2 ((fc_endWays u9), (fc_scoreWays u9), (fc_ways u9), (fc_waysBehind u9), (fc_grow u9), (fc_last u9), (fc_wonByA u9), (fc_wonByB u9), (fc_level u9), (fc_endlessA u9), (fc_endlessB u9), (fc_endless u9), x32, x37, x12) ++ (shW ac qs sh)) := hD
                  refine lv_aload_n hx hb dX0_lookSudden_186 rfl (lv_at hl 0 rfl) ?_
                  refine lv_ldc2 (v := 6) hx hb hown (htw _ mG_RX0_114) dX0_lookSudden_187 ?_
                  refine lv_aload_n hx hb dX0_lookSudden_190 rfl (lv_at hl 0 rfl) ?_
                  refine va_get (D := D) (ci := 0) (v := .long (fc_endless u9)) (C := RX0) (T := TX0) (N := 15) hx hb htw WW_wsX00 hown hKX.1 hP 0 rfl rfl 11 (Nat.le_of_ble_eq_true rfl) (htw _ mF_RX0_77) (fun _ h9 => h9) rfl dX0_lookSudden_191 ?_
                  refine lv_lmul hx hb dX0_lookSudden_194 ?_
                  refine lv_topl (fun x38 hx38 => ?_)
                  have hf := z_let_u hx38 hf
                  refine va_put (D := D) (ci := 0) (v := .long x38) (ty := tyX0 14) (C := RX0) (T := TX0) (N := 15) hx hb htw WW_wsX00 tyX0 tyX0_ok nmX0 hown hKX.1 hP hD hS 0 rfl rfl 14 (Nat.le_of_ble_eq_true rfl) (htw _ mF_RX0_24) (fun _ h9 => h9) rfl (tyX0_ok 14 (Nat.le_of_ble_eq_true rfl)) rfl rfl (Nat.le_of_ble_eq_true rfl) dX0_lookSudden_195 (fun H locs hP hD hS => ?_)
                  have hP : va_P D vwCl (fcW ac q w1 w2 ((fc_endWays u9), (fc_scoreWays u9), (fc_ways u9), (fc_waysBehind u9), (fc_grow u9), (fc_last u9), (fc_wonByA u9), (fc_wonByB u9), (fc_level u9), (fc_endlessA u9), (fc_endlessB u9), (fc_endless u9), x32, x37, x38) ++ (shW ac qs sh)) H := hP
                  have hD : va_D A (fcW ac q w1 w2 ((fc_endWays u9), (fc_scoreWays u9), (fc_ways u9), (fc_waysBehind u9), (fc_grow u9), (fc_last u9), (fc_wonByA u9), (fc_wonByB u9), (fc_level u9), (fc_endlessA u9), (fc_endlessB u9), (fc_endless u9), x32, x37, x38) ++ (shW ac qs sh)) := hD
                  obtain rfl := Option.some.inj hf
                  exact zr_Mv hx hb hr hlocks hP hD hS dX0_lookSudden_198
                refine lv_icmp_ne (tgt := 181) hx hb dX0_lookSudden_164 (by decide) (fun c36 => ?_) (fun c36 => ?_)
                · skip
                  refine lv_lconst (v := 0) hx hb dX0_lookSudden_181 rfl ?_
                  exact hj35 0 (if_neg c36).symm _ _ ls hP hD hS (lv_sub hl [0] rfl)
                · skip
                  refine lv_bipush (v := 6) hx hb dX0_lookSudden_167 rfl ?_
                  refine lv_iload hx hb dX0_lookSudden_169 (lv_at hl 1 rfl) ?_
                  refine lv_isub hx hb dX0_lookSudden_171 ?_
                  refine lv_i2l hx hb dX0_lookSudden_172 rfl ?_
                  refine lv_aload_n hx hb dX0_lookSudden_173 rfl (lv_at hl 0 rfl) ?_
                  refine va_get (D := D) (ci := 0) (v := .long (fc_endless u9)) (C := RX0) (T := TX0) (N := 15) hx hb htw WW_wsX00 hown hKX.1 hP 0 rfl rfl 11 (Nat.le_of_ble_eq_true rfl) (htw _ mF_RX0_77) (fun _ h9 => h9) rfl dX0_lookSudden_174 ?_
                  refine lv_lmul hx hb dX0_lookSudden_177 ?_
                  refine lv_goto (tgt := 182) hx hb dX0_lookSudden_178 (by decide) ?_
                  exact hj35 (((6 - v20).toInt64) * (fc_endless u9)) (if_pos c36).symm _ _ ls hP hD hS (lv_sub hl [0] rfl)
              refine lv_if_ne (tgt := 147) hx hb dX0_lookSudden_130 (by decide) (fun c31 => ?_) (fun c31 => ?_)
              · skip
                refine lv_lconst (v := 0) hx hb dX0_lookSudden_147 rfl ?_
                exact hj30 0 (if_neg c31).symm _ _ ls hP hD hS (lv_sub hl [1, 2, 0] rfl)
              · skip
                refine lv_bipush (v := 6) hx hb dX0_lookSudden_133 rfl ?_
                refine lv_iload hx hb dX0_lookSudden_135 (lv_at hl 2 rfl) ?_
                refine lv_isub hx hb dX0_lookSudden_137 ?_
                refine lv_i2l hx hb dX0_lookSudden_138 rfl ?_
                refine lv_aload_n hx hb dX0_lookSudden_139 rfl (lv_at hl 1 rfl) ?_
                refine va_get (D := D) (ci := 0) (v := .long (fc_endless u9)) (C := RX0) (T := TX0) (N := 15) hx hb htw WW_wsX00 hown hKX.1 hP 0 rfl rfl 11 (Nat.le_of_ble_eq_true rfl) (htw _ mF_RX0_77) (fun _ h9 => h9) rfl dX0_lookSudden_140 ?_
                refine lv_lmul hx hb dX0_lookSudden_143 ?_
                refine lv_goto (tgt := 148) hx hb dX0_lookSudden_144 (by decide) ?_
                exact hj30 (((6 - v20).toInt64) * (fc_endless u9)) (if_pos c31).symm _ _ ls hP hD hS (lv_sub hl [1, 2, 0] rfl)
            refine lv_if_eq (tgt := 116) hx hb dX0_lookSudden_107 (by decide) (fun c27 => ?_) (fun c27 => ?_)
            · skip
              refine lv_iload_n hx hb dX0_lookSudden_116 rfl (lv_at hl 2 rfl) ?_
              exact hj26 x14 (if_pos c27).symm _ _ ls hP hD hS (lv_sub hl [1, 0] rfl)
            · skip
              refine lv_iconst (v := 1) hx hb dX0_lookSudden_110 rfl ?_
              refine lv_iload_n hx hb dX0_lookSudden_111 rfl (lv_at hl 2 rfl) ?_
              refine lv_isub hx hb dX0_lookSudden_112 ?_
              refine lv_goto (tgt := 117) hx hb dX0_lookSudden_113 (by decide) ?_
              exact hj26 (1 - x14) (if_neg c27).symm _ _ ls hP hD hS (lv_sub hl [1, 0] rfl)
          refine lv_if_eq (tgt := 98) hx hb dX0_lookSudden_90 (by decide) (fun c23 => ?_) (fun c23 => ?_)
          · skip
            refine lv_bipush (v := 6) hx hb dX0_lookSudden_98 rfl ?_
            refine lv_iload hx hb dX0_lookSudden_100 (lv_at hl 3 rfl) ?_
            refine lv_isub hx hb dX0_lookSudden_102 ?_
            exact hj22 (6 - x15) (if_pos c23).symm _ _ ls hP hD hS (lv_sub hl [1, 2, 0] rfl)
          · skip
            refine lv_iload hx hb dX0_lookSudden_93 (lv_at hl 3 rfl) ?_
            refine lv_goto (tgt := 103) hx hb dX0_lookSudden_95 (by decide) ?_
            exact hj22 x15 (if_neg c23).symm _ _ ls hP hD hS (lv_sub hl [1, 2, 0] rfl)
        refine lv_if_eq (tgt := 85) hx hb dX0_lookSudden_78 (by decide) (fun c19 => ?_) (fun c19 => ?_)
        · skip
          refine lv_iconst (v := 0) hx hb dX0_lookSudden_85 rfl ?_
          exact hj18 0 (if_pos c19).symm z_b0 _ _ ls hP hD hS (lv_sub hl [2, 1, 0] rfl)
        · skip
          refine lv_iconst (v := 1) hx hb dX0_lookSudden_81 rfl ?_
          refine lv_goto (tgt := 86) hx hb dX0_lookSudden_82 (by decide) ?_
          exact hj18 1 (if_neg c19).symm z_b1 _ _ ls hP hD hS (lv_sub hl [2, 1, 0] rfl)
    refine lv_if_eq (tgt := 30) hx hb dX0_lookSudden_23 (by decide) (fun c8 => ?_) (fun c8 => ?_)
    · skip
      refine lv_iconst (v := 0) hx hb dX0_lookSudden_30 rfl ?_
      exact hj7 0 (if_pos c8).symm z_b0 _ _ ls hP hD hS (lv_sub hl [1, 2, 0] rfl)
    · skip
      refine lv_iconst (v := 1) hx hb dX0_lookSudden_26 rfl ?_
      refine lv_goto (tgt := 31) hx hb dX0_lookSudden_27 (by decide) ?_
      exact hj7 1 (if_neg c8).symm z_b1 _ _ ls hP hD hS (lv_sub hl [1, 2, 0] rfl)
  refine lv_icmp_ne (tgt := 14) hx hb dX0_lookSudden_7 (by decide) (fun c4 => ?_) (fun c4 => ?_)
  · skip
    refine lv_iconst (v := 0) hx hb dX0_lookSudden_14 rfl ?_
    exact hj3 0 (if_neg c4).symm z_b0 _ _ ls hP hD hS (lv_sub hl [0, 1] rfl)
  · skip
    refine lv_iconst (v := 1) hx hb dX0_lookSudden_10 rfl ?_
    refine lv_goto (tgt := 15) hx hb dX0_lookSudden_11 (by decide) ?_
    exact hj3 1 (if_pos c4).symm z_b1 _ _ ls hP hD hS (lv_sub hl [0, 1] rfl)

theorem hd_yX0_look : hdY yX0_look 1 := by decide +kernel
def Fc_look (F : Nat) (fc : Fc) (sh : Sh) : Option (Fc) := if Sh_isOver sh = 0 then (if (2 * (sh_shooters sh)) ≤ (sh_kicks sh) then (z_bd (Fc_lookSudden F fc sh) (fun u3 : Fc => some u3)) else (z_bd (Fc_run F fc sh 0) (fun u4 : Fc => z_bd (Fc_goEndless F u4 sh 0) (fun u8 : Fc => z_let (((fc_wonByA u8) * (fc_endless u8)) + ((fc_level u8) * (fc_endlessA u8))) (fun x9 : Int64 => z_let (((fc_wonByB u8) * (fc_endless u8)) + ((fc_level u8) * (fc_endlessB u8))) (fun x10 : Int64 => z_let ((K_sixes ((fc_last u8) - (sh_kicks sh))) * (fc_endless u8)) (fun x11 : Int64 => some ((fc_endWays u8), (fc_scoreWays u8), (fc_ways u8), (fc_waysBehind u8), (fc_grow u8), (fc_last u8), (fc_wonByA u8), (fc_wonByB u8), (fc_level u8), (fc_endlessA u8), (fc_endlessB u8), (fc_endless u8), x9, x10, x11)))))))) else (z_let (if Sh_winner sh = 0 then 1 else 0) (fun v12 : Int64 => z_let (1 - v12) (fun x16 : Int64 => some ((fc_endWays fc), (fc_scoreWays fc), (fc_ways fc), (fc_waysBehind fc), (fc_grow fc), (fc_last fc), (fc_wonByA fc), (fc_wonByB fc), (fc_level fc), (fc_endlessA fc), (fc_endlessB fc), (fc_endless fc), v12, x16, 1))))
set_option maxHeartbeats 4000000 in
set_option maxRecDepth 100000 in
theorem ctX0_look (l : Launch) (D : va_G) (ac cs : Nat → Nat) (q : Nat → Nat) (w1 w2 : Nat) (qs : Nat → Nat) (sz : Nat) (fc : Fc) (sh : Sh) (F : Nat) (res : Fc) (hf : Fc_look F fc sh = some res) : Met l yX0_look (cWW yX0_look cX0_look 2 none) { frames := 6, cells := 0, slots := 0, locals := 138 } (zM D ac cs [.ref (q 0), .ref (qs 0)] (fcW ac q w1 w2 fc ++ (shW ac qs sh)) sz) (va_Qv (fun _ : Nat × Nat => True) (fun u => zB D (va_A (fcW ac q w1 w2 fc ++ (shW ac qs sh)) sz) (fcW ac q u.1 u.2 res ++ (shW ac qs sh))) (va_A (fcW ac q w1 w2 fc ++ (shW ac qs sh)) sz)) 0 0 (va_A (fcW ac q w1 w2 fc ++ (shW ac qs sh)) sz) := by
  refine Met.ofW (cc := cX0_look) (maxL := 2) (ret := none) (by decide) rfl ?_
  intro p e s m args below meth c s₁ B hml hv
  obtain ⟨rfl, hsz, hP, hKX, hD0, hC⟩ := hv
  have hx := B.exec
  have hb := B.bytes
  have hr := B.returns
  have hts := atoms_spec (ws := cWW yX0_look cX0_look 2 none) B.pre
  have htw : ∀ w ∈ WW, w.before _ s = true := fun w h => hts w (List.mem_cons_of_mem _ h)
  have hown : s.vm.findClass RX0 = some m.cls := findClass_of_methodNamed B.named
  have hlocks := B.notSynchronized
  clear hts B
  subst hsz
  have hD := hD0.self (sz := s.heap.size)
  generalize hAe : va_A (fcW ac q w1 w2 fc ++ (shW ac qs sh)) s.heap.size = A at hD hC ⊢
  have hA : ∀ q : Nat, s.heap.size ≤ q → A q := fun q h => by rw [← hAe]; exact Or.inr h
  have hS : va_S A s.heap s.heap [] := va_S.rf
  clear hD0 hAe
  have hP : va_P D vwCl (fcW ac q w1 w2 fc ++ (shW ac qs sh)) s.heap := hP
  have hl := lv_entry ([.ref (q 0), .ref (qs 0)]) (n := 2) (Nat.le_of_ble_eq_true rfl)
  rw [lg_entry_eq]
  generalize (lg_sl ([.ref (q 0), .ref (qs 0)]) ++ List.replicate (2 - (lg_sl ([.ref (q 0), .ref (qs 0)])).length) Slot.unset).toArray = ls at hl ⊢
  have hl : lv_has ls 2 [(0, .ref (q 0)), (1, .ref (qs 0))] := hl
  unfold Fc_look at hf
  show W p l e ({ frames := 6, cells := 0, slots := 0, locals := 138 } : Room) s m _ below meth c s.heap [] 0 0 _ (F0 m 0 ls [])
  refine lv_aload_n hx hb dX0_look_0 rfl (lv_at hl 1 rfl) ?_
  refine zc_RVi (As := []) (rest := []) hx hb hml hown htw (ctX4_isOver l D ac cs qs sh    _ rfl) (g_V mM_RX0_50 mI_yX4_isOver mS_RX4_yX4_isOver_yX4_isOver mN_RX4 mC_yX4_isOver) rfl (hd_yX4_isOver) ⟨rfl, rfl⟩ ⟨(Nat.le_of_ble_eq_true rfl), (Nat.le_of_ble_eq_true rfl)⟩ hKX hC hS (hP.sub [5, 6, 7] rfl) 4 rfl rfl rfl hl.1 rfl (Nat.le_of_ble_eq_true rfl) ⟨Nat.zero_le _, Nat.zero_le _⟩ dX0_look_1 ?_
  refine lv_if_eq (tgt := 41) hx hb dX0_look_4 (by decide) (fun c1 => ?_) (fun c1 => ?_)
  · have hf := z_p c1 hf
    refine lv_aload_n hx hb dX0_look_41 rfl (lv_at hl 1 rfl) ?_
    refine va_getN (D := D) (ci := 4) (v := .int (sh_kicks sh)) (C := RX4) (T := TX4) (N := 10) hx hb htw WW_wsX40 hown hKX.1 hP 5 rfl rfl 3 (Nat.le_of_ble_eq_true rfl) (va_Nw.use rfl (hKX.2 _ (List.mem_of_getElem? (i := 10) rfl))) (fun _ h9 => h9) rfl dX0_look_42 ?_
    refine lv_iconst (v := 2) hx hb dX0_look_45 rfl ?_
    refine lv_aload_n hx hb dX0_look_46 rfl (lv_at hl 1 rfl) ?_
    refine va_getN (D := D) (ci := 4) (v := .int (sh_shooters sh)) (C := RX4) (T := TX4) (N := 10) hx hb htw WW_wsX40 hown hKX.1 hP 5 rfl rfl 0 (Nat.le_of_ble_eq_true rfl) (va_Nw.use rfl (hKX.2 _ (List.mem_of_getElem? (i := 4) rfl))) (fun _ h9 => h9) rfl dX0_look_47 ?_
    refine lv_imul hx hb dX0_look_50 ?_
    refine lv_icmp_ge (tgt := 136) hx hb dX0_look_51 (by decide) (fun c2 => ?_) (fun c2 => ?_)
    · have hf := z_p c2 hf
      refine lv_aload_n hx hb dX0_look_136 rfl (lv_at hl 0 rfl) ?_
      refine lv_aload_n hx hb dX0_look_137 rfl (lv_at hl 1 rfl) ?_
      obtain ⟨u3, hu3, hf⟩ := z_bd_u hf
      refine zc_MVv (As := [.ref (qs 0)]) (rest := []) (wr := []) (wsc := fcW ac q w1 w2 fc ++ (shW ac qs sh)) (wsc' := fcW ac q w1 w2 u3 ++ (shW ac qs sh)) hx hb hml hown htw (ctX0_lookSudden l D ac cs q w1 w2 qs s.heap.size fc sh    F u3 hu3) (g_V mM_RX0_98 mI_yX0_lookSudden mS_RX0_yX0_lookSudden_yX0_lookSudden mN_RX0 mC_yX0_lookSudden) rfl (hd_yX0_lookSudden) ⟨rfl, rfl⟩ ⟨(Nat.le_of_ble_eq_true rfl), (Nat.le_of_ble_eq_true rfl)⟩ hKX hC hS hA hP hD [0, 1, 2, 3, 4, 5, 6, 7] [] rfl (by decide) rfl (by decide) (by decide) 0 rfl rfl rfl hl.1 rfl (Nat.le_of_ble_eq_true rfl) ⟨Nat.zero_le _, Nat.zero_le _⟩ dX0_look_138 (fun H locs hP hD hS => ?_)
      have hP : va_P D vwCl (fcW ac q w1 w2 u3 ++ (shW ac qs sh)) H := hP
      have hD : va_D A (fcW ac q w1 w2 u3 ++ (shW ac qs sh)) := hD
      obtain rfl := Option.some.inj hf
      exact zr_MvX (w1, w2) hx hb hr hlocks hP hD hS dX0_look_141
    · have hf := z_n c2 hf
      refine lv_aload_n hx hb dX0_look_54 rfl (lv_at hl 0 rfl) ?_
      refine lv_aload_n hx hb dX0_look_55 rfl (lv_at hl 1 rfl) ?_
      refine lv_iconst (v := 0) hx hb dX0_look_56 rfl ?_
      obtain ⟨u4, hu4, hf⟩ := z_bd_u hf
      refine zc_MVvX (As := [.ref (qs 0), .int 0]) (rest := []) (wr := []) (wsc := fcW ac q w1 w2 fc ++ (shW ac qs sh)) (wsc' := fun u5 : Nat × Nat => fcW ac q u5.1 u5.2 u4 ++ (shW ac qs sh)) hx hb hml hown htw (ctX0_run l D ac cs q w1 w2 qs s.heap.size fc sh 0   F u4 hu4) (g_V mM_RX0_67 mI_yX0_run mS_RX0_yX0_run_yX0_run mN_RX0 mC_yX0_run) rfl (hd_yX0_run) ⟨rfl, rfl⟩ ⟨(Nat.le_of_ble_eq_true rfl), (Nat.le_of_ble_eq_true rfl)⟩ hKX hC hS hA hP hD [0, 1, 2, 3, 4, 5, 6, 7] [] rfl (by decide) rfl (by decide) (by decide) 0 rfl rfl rfl hl.1 rfl (Nat.le_of_ble_eq_true rfl) ⟨Nat.zero_le _, Nat.zero_le _⟩ dX0_look_57 (fun u5 H locs hP hD hS => ?_)
      obtain ⟨w6, w7⟩ := u5
      have hP : va_P D vwCl (fcW ac q w6 w7 u4 ++ (shW ac qs sh)) H := hP
      have hD : va_D A (fcW ac q w6 w7 u4 ++ (shW ac qs sh)) := hD
      refine lv_aload_n hx hb dX0_look_60 rfl (lv_at hl 0 rfl) ?_
      refine lv_aload_n hx hb dX0_look_61 rfl (lv_at hl 1 rfl) ?_
      refine lv_iconst (v := 0) hx hb dX0_look_62 rfl ?_
      obtain ⟨u8, hu8, hf⟩ := z_bd_u hf
      refine zc_MVv (As := [.ref (qs 0), .int 0]) (rest := []) (wr := []) (wsc := fcW ac q w6 w7 u4 ++ (shW ac qs sh)) (wsc' := fcW ac q w6 w7 u8 ++ (shW ac qs sh)) hx hb hml hown htw (ctX0_goEndless l D ac cs q w6 w7 qs H.size u4 sh 0   F u8 hu8) (g_V mM_RX0_71 mI_yX0_goEndless mS_RX0_yX0_goEndless_yX0_goEndless mN_RX0 mC_yX0_goEndless) rfl (hd_yX0_goEndless) ⟨rfl, rfl⟩ ⟨(Nat.le_of_ble_eq_true rfl), (Nat.le_of_ble_eq_true rfl)⟩ hKX hC hS hA hP hD [0, 1, 2, 3, 4, 5, 6, 7] [] rfl (by decide) rfl (by decide) (by decide) 0 rfl rfl rfl hl.1 rfl (Nat.le_of_ble_eq_true rfl) ⟨Nat.zero_le _, Nat.zero_le _⟩ dX0_look_63 (fun H locs hP hD hS => ?_)
      have hP : va_P D vwCl (fcW ac q w6 w7 u8 ++ (shW ac qs sh)) H := hP
      have hD : va_D A (fcW ac q w6 w7 u8 ++ (shW ac qs sh)) := hD
      refine lv_aload_n hx hb dX0_look_66 rfl (lv_at hl 0 rfl) ?_
      refine lv_aload_n hx hb dX0_look_67 rfl (lv_at hl 0 rfl) ?_
      refine va_get (D := D) (ci := 0) (v := .long (fc_wonByA u8)) (C := RX0) (T := TX0) (N := 15) hx hb htw WW_wsX00 hown hKX.1 hP 0 rfl rfl 6 (Nat.le_of_ble_eq_true rfl) (htw _ mF_RX0_74) (fun _ h9 => h9) rfl dX0_look_68 ?_
      refine lv_aload_n hx hb dX0_look_71 rfl (lv_at hl 0 rfl) ?_
      refine va_get (D := D) (ci := 0) (v := .long (fc_endless u8)) (C := RX0) (T := TX0) (N := 15) hx hb htw WW_wsX00 hown hKX.1 hP 0 rfl rfl 11 (Nat.le_of_ble_eq_true rfl) (htw _ mF_RX0_77) (fun _ h9 => h9) rfl dX0_look_72 ?_
      refine lv_lmul hx hb dX0_look_75 ?_
      refine lv_aload_n hx hb dX0_look_76 rfl (lv_at hl 0 rfl) ?_
      refine va_get (D := D) (ci := 0) (v := .long (fc_level u8)) (C := RX0) (T := TX0) (N := 15) hx hb htw WW_wsX00 hown hKX.1 hP 0 rfl rfl 8 (Nat.le_of_ble_eq_true rfl) (htw _ mF_RX0_80) (fun _ h9 => h9) rfl dX0_look_77 ?_
      refine lv_aload_n hx hb dX0_look_80 rfl (lv_at hl 0 rfl) ?_
      refine va_get (D := D) (ci := 0) (v := .long (fc_endlessA u8)) (C := RX0) (T := TX0) (N := 15) hx hb htw WW_wsX00 hown hKX.1 hP 0 rfl rfl 9 (Nat.le_of_ble_eq_true rfl) (htw _ mF_RX0_83) (fun _ h9 => h9) rfl dX0_look_81 ?_
      refine lv_lmul hx hb dX0_look_84 ?_
      refine lv_ladd hx hb dX0_look_85 ?_
      refine lv_topl (fun x9 hx9 => ?_)
      have hf := z_let_u hx9 hf
      refine va_put (D := D) (ci := 0) (v := .long x9) (ty := tyX0 12) (C := RX0) (T := TX0) (N := 15) hx hb htw WW_wsX00 tyX0 tyX0_ok nmX0 hown hKX.1 hP hD hS 0 rfl rfl 12 (Nat.le_of_ble_eq_true rfl) (htw _ mF_RX0_28) (fun _ h9 => h9) rfl (tyX0_ok 12 (Nat.le_of_ble_eq_true rfl)) rfl rfl (Nat.le_of_ble_eq_true rfl) dX0_look_86 (fun H locs hP hD hS => ?_)
      have hP : va_P D vwCl (fcW ac q w6 w7 ((fc_endWays u8), (fc_scoreWays u8), (fc_ways u8), (fc_waysBehind u8), (fc_grow u8), (fc_last u8), (fc_wonByA u8), (fc_wonByB u8), (fc_level u8), (fc_endlessA u8), (fc_endlessB u8), (fc_endless u8), x9, (fc_winsOfB u8), (fc_whole u8)) ++ (shW ac qs sh)) H := hP
      have hD : va_D A (fcW ac q w6 w7 ((fc_endWays u8), (fc_scoreWays u8), (fc_ways u8), (fc_waysBehind u8), (fc_grow u8), (fc_last u8), (fc_wonByA u8), (fc_wonByB u8), (fc_level u8), (fc_endlessA u8), (fc_endlessB u8), (fc_endless u8), x9, (fc_winsOfB u8), (fc_whole u8)) ++ (shW ac qs sh)) := hD
      refine lv_aload_n hx hb dX0_look_89 rfl (lv_at hl 0 rfl) ?_
      refine lv_aload_n hx hb dX0_look_90 rfl (lv_at hl 0 rfl) ?_
      refine va_get (D := D) (ci := 0) (v := .long (fc_wonByB u8)) (C := RX0) (T := TX0) (N := 15) hx hb htw WW_wsX00 hown hKX.1 hP 0 rfl rfl 7 (Nat.le_of_ble_eq_true rfl) (htw _ mF_RX0_86) (fun _ h9 => h9) rfl dX0_look_91 ?_
      refine lv_aload_n hx hb dX0_look_94 rfl (lv_at hl 0 rfl) ?_
      refine va_get (D := D) (ci := 0) (v := .long (fc_endless u8)) (C := RX0) (T := TX0) (N := 15) hx hb htw WW_wsX00 hown hKX.1 hP 0 rfl rfl 11 (Nat.le_of_ble_eq_true rfl) (htw _ mF_RX0_77) (fun _ h9 => h9) rfl dX0_look_95 ?_
      refine lv_lmul hx hb dX0_look_98 ?_
      refine lv_aload_n hx hb dX0_look_99 rfl (lv_at hl 0 rfl) ?_
      refine va_get (D := D) (ci := 0) (v := .long (fc_level u8)) (C := RX0) (T := TX0) (N := 15) hx hb htw WW_wsX00 hown hKX.1 hP 0 rfl rfl 8 (Nat.le_of_ble_eq_true rfl) (htw _ mF_RX0_80) (fun _ h9 => h9) rfl dX0_look_100 ?_
      refine lv_aload_n hx hb dX0_look_103 rfl (lv_at hl 0 rfl) ?_
      refine va_get (D := D) (ci := 0) (v := .long (fc_endlessB u8)) (C := RX0) (T := TX0) (N := 15) hx hb htw WW_wsX00 hown hKX.1 hP 0 rfl rfl 10 (Nat.le_of_ble_eq_true rfl) (htw _ mF_RX0_89) (fun _ h9 => h9) rfl dX0_look_104 ?_
      refine lv_lmul hx hb dX0_look_107 ?_
      refine lv_ladd hx hb dX0_look_108 ?_
      refine lv_topl (fun x10 hx10 => ?_)
      have hf := z_let_u hx10 hf
      refine va_put (D := D) (ci := 0) (v := .long x10) (ty := tyX0 13) (C := RX0) (T := TX0) (N := 15) hx hb htw WW_wsX00 tyX0 tyX0_ok nmX0 hown hKX.1 hP hD hS 0 rfl rfl 13 (Nat.le_of_ble_eq_true rfl) (htw _ mF_RX0_31) (fun _ h9 => h9) rfl (tyX0_ok 13 (Nat.le_of_ble_eq_true rfl)) rfl rfl (Nat.le_of_ble_eq_true rfl) dX0_look_109 (fun H locs hP hD hS => ?_)
      have hP : va_P D vwCl (fcW ac q w6 w7 ((fc_endWays u8), (fc_scoreWays u8), (fc_ways u8), (fc_waysBehind u8), (fc_grow u8), (fc_last u8), (fc_wonByA u8), (fc_wonByB u8), (fc_level u8), (fc_endlessA u8), (fc_endlessB u8), (fc_endless u8), x9, x10, (fc_whole u8)) ++ (shW ac qs sh)) H := hP
      have hD : va_D A (fcW ac q w6 w7 ((fc_endWays u8), (fc_scoreWays u8), (fc_ways u8), (fc_waysBehind u8), (fc_grow u8), (fc_last u8), (fc_wonByA u8), (fc_wonByB u8), (fc_level u8), (fc_endlessA u8), (fc_endlessB u8), (fc_endless u8), x9, x10, (fc_whole u8)) ++ (shW ac qs sh)) := hD
      refine lv_aload_n hx hb dX0_look_112 rfl (lv_at hl 0 rfl) ?_
      refine lv_aload_n hx hb dX0_look_113 rfl (lv_at hl 0 rfl) ?_
      refine va_get (D := D) (ci := 0) (v := .int (fc_last u8)) (C := RX0) (T := TX0) (N := 15) hx hb htw WW_wsX00 hown hKX.1 hP 0 rfl rfl 5 (Nat.le_of_ble_eq_true rfl) (htw _ mF_RX0_92) (fun _ h9 => h9) rfl dX0_look_114 ?_
      refine lv_aload_n hx hb dX0_look_117 rfl (lv_at hl 1 rfl) ?_
      refine va_getN (D := D) (ci := 4) (v := .int (sh_kicks sh)) (C := RX4) (T := TX4) (N := 10) hx hb htw WW_wsX40 hown hKX.1 hP 5 rfl rfl 3 (Nat.le_of_ble_eq_true rfl) (va_Nw.use rfl (hKX.2 _ (List.mem_of_getElem? (i := 10) rfl))) (fun _ h9 => h9) rfl dX0_look_118 ?_
      refine lv_isub hx hb dX0_look_121 ?_
      refine zc_RSNl (As := [.int ((fc_last u8) - (sh_kicks sh))]) (rest := [.ref (q 0)]) hx hb hml hown htw (ctX7_sixes l D ac cs   ((fc_last u8) - (sh_kicks sh))   _ rfl) (va_Nw.of rfl (va_Nw.use (A := #[]) rfl (hKX.2 _ (List.mem_of_getElem? (i := 36) rfl)))) mN_RX7 mT_yX7_sixes mC_yX7_sixes (hd_yX7_sixes) ⟨rfl, rfl⟩ ⟨(Nat.le_of_ble_eq_true rfl), (Nat.le_of_ble_eq_true rfl)⟩ hKX hC hS zP0 rfl hl.1 rfl (Nat.le_of_ble_eq_true rfl) ⟨Nat.zero_le _, Nat.zero_le _⟩ dX0_look_122 ?_
      refine lv_aload_n hx hb dX0_look_125 rfl (lv_at hl 0 rfl) ?_
      refine va_get (D := D) (ci := 0) (v := .long (fc_endless u8)) (C := RX0) (T := TX0) (N := 15) hx hb htw WW_wsX00 hown hKX.1 hP 0 rfl rfl 11 (Nat.le_of_ble_eq_true rfl) (htw _ mF_RX0_77) (fun _ h9 => h9) rfl dX0_look_126 ?_
      refine lv_lmul hx hb dX0_look_129 ?_
      refine lv_topl (fun x11 hx11 => ?_)
      have hf := z_let_u hx11 hf
      refine va_put (D := D) (ci := 0) (v := .long x11) (ty := tyX0 14) (C := RX0) (T := TX0) (N := 15) hx hb htw WW_wsX00 tyX0 tyX0_ok nmX0 hown hKX.1 hP hD hS 0 rfl rfl 14 (Nat.le_of_ble_eq_true rfl) (htw _ mF_RX0_24) (fun _ h9 => h9) rfl (tyX0_ok 14 (Nat.le_of_ble_eq_true rfl)) rfl rfl (Nat.le_of_ble_eq_true rfl) dX0_look_130 (fun H locs hP hD hS => ?_)
      have hP : va_P D vwCl (fcW ac q w6 w7 ((fc_endWays u8), (fc_scoreWays u8), (fc_ways u8), (fc_waysBehind u8), (fc_grow u8), (fc_last u8), (fc_wonByA u8), (fc_wonByB u8), (fc_level u8), (fc_endlessA u8), (fc_endlessB u8), (fc_endless u8), x9, x10, x11) ++ (shW ac qs sh)) H := hP
      have hD : va_D A (fcW ac q w6 w7 ((fc_endWays u8), (fc_scoreWays u8), (fc_ways u8), (fc_waysBehind u8), (fc_grow u8), (fc_last u8), (fc_wonByA u8), (fc_wonByB u8), (fc_level u8), (fc_endlessA u8), (fc_endlessB u8), (fc_endless u8), x9, x10, x11) ++ (shW ac qs sh)) := hD
      refine lv_goto (tgt := 141) hx hb dX0_look_133 (by decide) ?_
      obtain rfl := Option.some.inj hf
      exact zr_MvX (w6, w7) hx hb hr hlocks hP hD hS dX0_look_141
  · have hf := z_n c1 hf
    refine lv_aload_n hx hb dX0_look_7 rfl (lv_at hl 0 rfl) ?_
    refine lv_aload_n hx hb dX0_look_8 rfl (lv_at hl 1 rfl) ?_
    refine zc_RVi (As := []) (rest := [.ref (q 0)]) hx hb hml hown htw (ctX4_winner l D ac cs qs sh    _ rfl) (g_V mM_RX0_56 mI_yX4_winner mS_RX4_yX4_winner_yX4_winner mN_RX4 mC_yX4_winner) rfl (hd_yX4_winner) ⟨rfl, rfl⟩ ⟨(Nat.le_of_ble_eq_true rfl), (Nat.le_of_ble_eq_true rfl)⟩ hKX hC hS (hP.sub [5, 6, 7] rfl) 4 rfl rfl rfl hl.1 rfl (Nat.le_of_ble_eq_true rfl) ⟨Nat.zero_le _, Nat.zero_le _⟩ dX0_look_9 ?_
    have hj14 : ∀ (v12 : Int64), v12 = (if Sh_winner sh = 0 then 1 else 0) → ∀ (H : Heap) (locs : List Loc) (ls : Array Slot), va_P D vwCl (fcW ac q w1 w2 fc ++ (shW ac qs sh)) H → va_D A (fcW ac q w1 w2 fc ++ (shW ac qs sh)) → va_S A s.heap H locs → lv_has ls 2 [(0, .ref (q 0))] → W p l e ({ frames := 6, cells := 0, slots := 0, locals := 138 } : Room) s m (([.ref (q 0), .ref (qs 0)] : List Value).toArray) below meth c H locs 0 0 (MQ below (va_Qv (fun _ : Nat × Nat => True) (fun u => zB D A (fcW ac q u.1 u.2 res ++ (shW ac qs sh))) A) ([.ref (q 0), .ref (qs 0)] : List Value).toArray s 0 0 A) (F0 m 20 ls [.long v12, .ref (q 0)]) := by
      intro v12 hv12 H locs ls hP hD hS hl
      have hf := z_let_u hv12 hf
      refine va_put (D := D) (ci := 0) (v := .long v12) (ty := tyX0 12) (C := RX0) (T := TX0) (N := 15) hx hb htw WW_wsX00 tyX0 tyX0_ok nmX0 hown hKX.1 hP hD hS 0 rfl rfl 12 (Nat.le_of_ble_eq_true rfl) (htw _ mF_RX0_28) (fun _ h9 => h9) rfl (tyX0_ok 12 (Nat.le_of_ble_eq_true rfl)) rfl rfl (Nat.le_of_ble_eq_true rfl) dX0_look_20 (fun H locs hP hD hS => ?_)
      have hP : va_P D vwCl (fcW ac q w1 w2 ((fc_endWays fc), (fc_scoreWays fc), (fc_ways fc), (fc_waysBehind fc), (fc_grow fc), (fc_last fc), (fc_wonByA fc), (fc_wonByB fc), (fc_level fc), (fc_endlessA fc), (fc_endlessB fc), (fc_endless fc), v12, (fc_winsOfB fc), (fc_whole fc)) ++ (shW ac qs sh)) H := hP
      have hD : va_D A (fcW ac q w1 w2 ((fc_endWays fc), (fc_scoreWays fc), (fc_ways fc), (fc_waysBehind fc), (fc_grow fc), (fc_last fc), (fc_wonByA fc), (fc_wonByB fc), (fc_level fc), (fc_endlessA fc), (fc_endlessB fc), (fc_endless fc), v12, (fc_winsOfB fc), (fc_whole fc)) ++ (shW ac qs sh)) := hD
      refine lv_aload_n hx hb dX0_look_23 rfl (lv_at hl 0 rfl) ?_
      refine lv_lconst (v := 1) hx hb dX0_look_24 rfl ?_
      refine lv_aload_n hx hb dX0_look_25 rfl (lv_at hl 0 rfl) ?_
      refine va_get (D := D) (ci := 0) (v := .long v12) (C := RX0) (T := TX0) (N := 15) hx hb htw WW_wsX00 hown hKX.1 hP 0 rfl rfl 12 (Nat.le_of_ble_eq_true rfl) (htw _ mF_RX0_28) (fun _ h9 => h9) rfl dX0_look_26 ?_
      refine lv_lsub hx hb dX0_look_29 ?_
      refine lv_topl (fun x16 hx16 => ?_)
      have hf := z_let_u hx16 hf
      refine va_put (D := D) (ci := 0) (v := .long x16) (ty := tyX0 13) (C := RX0) (T := TX0) (N := 15) hx hb htw WW_wsX00 tyX0 tyX0_ok nmX0 hown hKX.1 hP hD hS 0 rfl rfl 13 (Nat.le_of_ble_eq_true rfl) (htw _ mF_RX0_31) (fun _ h9 => h9) rfl (tyX0_ok 13 (Nat.le_of_ble_eq_true rfl)) rfl rfl (Nat.le_of_ble_eq_true rfl) dX0_look_30 (fun H locs hP hD hS => ?_)
      have hP : va_P D vwCl (fcW ac q w1 w2 ((fc_endWays fc), (fc_scoreWays fc), (fc_ways fc), (fc_waysBehind fc), (fc_grow fc), (fc_last fc), (fc_wonByA fc), (fc_wonByB fc), (fc_level fc), (fc_endlessA fc), (fc_endlessB fc), (fc_endless fc), v12, x16, (fc_whole fc)) ++ (shW ac qs sh)) H := hP
      have hD : va_D A (fcW ac q w1 w2 ((fc_endWays fc), (fc_scoreWays fc), (fc_ways fc), (fc_waysBehind fc), (fc_grow fc), (fc_last fc), (fc_wonByA fc), (fc_wonByB fc), (fc_level fc), (fc_endlessA fc), (fc_endlessB fc), (fc_endless fc), v12, x16, (fc_whole fc)) ++ (shW ac qs sh)) := hD
      refine lv_aload_n hx hb dX0_look_33 rfl (lv_at hl 0 rfl) ?_
      refine lv_lconst (v := 1) hx hb dX0_look_34 rfl ?_
      refine va_put (D := D) (ci := 0) (v := .long 1) (ty := tyX0 14) (C := RX0) (T := TX0) (N := 15) hx hb htw WW_wsX00 tyX0 tyX0_ok nmX0 hown hKX.1 hP hD hS 0 rfl rfl 14 (Nat.le_of_ble_eq_true rfl) (htw _ mF_RX0_24) (fun _ h9 => h9) rfl (tyX0_ok 14 (Nat.le_of_ble_eq_true rfl)) rfl rfl (Nat.le_of_ble_eq_true rfl) dX0_look_35 (fun H locs hP hD hS => ?_)
      have hP : va_P D vwCl (fcW ac q w1 w2 ((fc_endWays fc), (fc_scoreWays fc), (fc_ways fc), (fc_waysBehind fc), (fc_grow fc), (fc_last fc), (fc_wonByA fc), (fc_wonByB fc), (fc_level fc), (fc_endlessA fc), (fc_endlessB fc), (fc_endless fc), v12, x16, 1) ++ (shW ac qs sh)) H := hP
      have hD : va_D A (fcW ac q w1 w2 ((fc_endWays fc), (fc_scoreWays fc), (fc_ways fc), (fc_waysBehind fc), (fc_grow fc), (fc_last fc), (fc_wonByA fc), (fc_wonByB fc), (fc_level fc), (fc_endlessA fc), (fc_endlessB fc), (fc_endless fc), v12, x16, 1) ++ (shW ac qs sh)) := hD
      refine lv_goto (tgt := 141) hx hb dX0_look_38 (by decide) ?_
      obtain rfl := Option.some.inj hf
      exact zr_MvX (w1, w2) hx hb hr hlocks hP hD hS dX0_look_141
    refine lv_if_ne (tgt := 19) hx hb dX0_look_12 (by decide) (fun c15 => ?_) (fun c15 => ?_)
    · skip
      refine lv_lconst (v := 0) hx hb dX0_look_19 rfl ?_
      exact hj14 0 (if_neg c15).symm _ _ ls hP hD hS (lv_sub hl [0] rfl)
    · skip
      refine lv_lconst (v := 1) hx hb dX0_look_15 rfl ?_
      refine lv_goto (tgt := 20) hx hb dX0_look_16 (by decide) ?_
      exact hj14 1 (if_pos c15).symm _ _ ls hP hD hS (lv_sub hl [0] rfl)

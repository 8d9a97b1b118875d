theorem hd_yJ6_bitCount_0f7a4 : hdY yJ6_bitCount_0f7a4 1 := by decide +kernel
def Int_bitCount_0f7a4 (a1 : Int32) : Int32 := z_let (a1 - (((a1.toUInt32 >>> ((1 : Int32).toUInt32 &&& Int32.toUInt32 31)).toInt32) &&& 1431655765)) (fun x1 : Int32 => z_let ((x1 &&& 858993459) + (((x1.toUInt32 >>> ((2 : Int32).toUInt32 &&& Int32.toUInt32 31)).toInt32) &&& 858993459)) (fun x2 : Int32 => z_let ((x2 + ((x2.toUInt32 >>> ((4 : Int32).toUInt32 &&& Int32.toUInt32 31)).toInt32)) &&& 252645135) (fun x3 : Int32 => z_let (x3 + ((x3.toUInt32 >>> ((8 : Int32).toUInt32 &&& Int32.toUInt32 31)).toInt32)) (fun x4 : Int32 => z_let (x4 + ((x4.toUInt32 >>> ((16 : Int32).toUInt32 &&& Int32.toUInt32 31)).toInt32)) (fun x5 : Int32 => (x5 &&& 63))))))
set_option maxHeartbeats 4000000 in
set_option maxRecDepth 100000 in
theorem ctJ6_bitCount_0f7a4 (l : Launch) (D : va_G) (ac cs : Nat → Nat) (a1 : Int32) (res : Int32) (hf : Int_bitCount_0f7a4 a1 = res) : Met l yJ6_bitCount_0f7a4 (cWW yJ6_bitCount_0f7a4 cJ6_bitCount_0f7a4 1 (some .int)) { frames := 0, cells := 0, slots := 0, locals := 0 } (zR D ac cs [.int a1] ([])) (vp_Si (fun r => r = res)) 0 0 (fun _ => False) := by
  refine Met.ofW (cc := cJ6_bitCount_0f7a4) (maxL := 1) (ret := (some .int)) (by decide) rfl ?_
  intro p e s m args below meth c s₁ B hml hv
  obtain ⟨rfl, hP, hKX, hC⟩ := hv
  have hx := B.exec
  have hb := B.bytes
  have hr := B.returns
  have hts := atoms_spec (ws := cWW yJ6_bitCount_0f7a4 cJ6_bitCount_0f7a4 1 (some .int)) B.pre
  have htw : ∀ w ∈ WW, w.before _ s = true := fun w h => hts w (List.mem_cons_of_mem _ h)
  have hown : s.vm.findClass RJ6 = some m.cls := findClass_of_methodNamed B.named
  have hlocks := B.notSynchronized
  clear hts B
  have hS : va_S (fun _ => False) s.heap s.heap [] := va_S.rf
  have hl := lv_entry ([.int a1]) (n := 1) (Nat.le_of_ble_eq_true rfl)
  rw [lg_entry_eq]
  generalize (lg_sl ([.int a1]) ++ List.replicate (1 - (lg_sl ([.int a1])).length) Slot.unset).toArray = ls at hl ⊢
  have hl : lv_has ls 1 [(0, .int a1)] := hl
  unfold Int_bitCount_0f7a4 at hf
  show W p l e ({ frames := 0, cells := 0, slots := 0, locals := 0 } : Room) s m _ below meth c s.heap [] 0 0 _ (F0 m 0 ls [])
  refine lv_iload_n hx hb dJ6_bitCount_0f7a4_0 rfl (lv_at hl 0 rfl) ?_
  refine lv_iload_n hx hb dJ6_bitCount_0f7a4_1 rfl (lv_at hl 0 rfl) ?_
  refine lv_iconst (v := 1) hx hb dJ6_bitCount_0f7a4_2 rfl ?_
  refine lv_iushr hx hb dJ6_bitCount_0f7a4_3 rfl ?_
  refine lv_ldcw (v := 1431655765) hx hb hown (htw _ mG_RJ6_265) dJ6_bitCount_0f7a4_4 ?_
  refine lv_iand hx hb dJ6_bitCount_0f7a4_7 ?_
  refine lv_isub hx hb dJ6_bitCount_0f7a4_8 ?_
  refine lv_topi (fun x1 hx1 => ?_)
  have hf := z_let_u hx1 hf
  refine lv_istore_n (lv' := [(0, .int x1)]) hx hb dJ6_bitCount_0f7a4_9 rfl hl (Nat.le_of_ble_eq_true rfl) rfl (fun ls hl => ?_)
  refine lv_iload_n hx hb dJ6_bitCount_0f7a4_10 rfl (lv_at hl 0 rfl) ?_
  refine lv_ldcw (v := 858993459) hx hb hown (htw _ mG_RJ6_266) dJ6_bitCount_0f7a4_11 ?_
  refine lv_iand hx hb dJ6_bitCount_0f7a4_14 ?_
  refine lv_iload_n hx hb dJ6_bitCount_0f7a4_15 rfl (lv_at hl 0 rfl) ?_
  refine lv_iconst (v := 2) hx hb dJ6_bitCount_0f7a4_16 rfl ?_
  refine lv_iushr hx hb dJ6_bitCount_0f7a4_17 rfl ?_
  refine lv_ldcw (v := 858993459) hx hb hown (htw _ mG_RJ6_266) dJ6_bitCount_0f7a4_18 ?_
  refine lv_iand hx hb dJ6_bitCount_0f7a4_21 ?_
  refine lv_iadd hx hb dJ6_bitCount_0f7a4_22 ?_
  refine lv_topi (fun x2 hx2 => ?_)
  have hf := z_let_u hx2 hf
  refine lv_istore_n (lv' := [(0, .int x2)]) hx hb dJ6_bitCount_0f7a4_23 rfl hl (Nat.le_of_ble_eq_true rfl) rfl (fun ls hl => ?_)
  refine lv_iload_n hx hb dJ6_bitCount_0f7a4_24 rfl (lv_at hl 0 rfl) ?_
  refine lv_iload_n hx hb dJ6_bitCount_0f7a4_25 rfl (lv_at hl 0 rfl) ?_
  refine lv_iconst (v := 4) hx hb dJ6_bitCount_0f7a4_26 rfl ?_
  refine lv_iushr hx hb dJ6_bitCount_0f7a4_27 rfl ?_
  refine lv_iadd hx hb dJ6_bitCount_0f7a4_28 ?_
  refine lv_ldcw (v := 252645135) hx hb hown (htw _ mG_RJ6_267) dJ6_bitCount_0f7a4_29 ?_
  refine lv_iand hx hb dJ6_bitCount_0f7a4_32 ?_
  refine lv_topi (fun x3 hx3 => ?_)
  have hf := z_let_u hx3 hf
  refine lv_istore_n (lv' := [(0, .int x3)]) hx hb dJ6_bitCount_0f7a4_33 rfl hl (Nat.le_of_ble_eq_true rfl) rfl (fun ls hl => ?_)
  refine lv_iload_n hx hb dJ6_bitCount_0f7a4_34 rfl (lv_at hl 0 rfl) ?_
  refine lv_iload_n hx hb dJ6_bitCount_0f7a4_35 rfl (lv_at hl 0 rfl) ?_
  refine lv_bipush (v := 8) hx hb dJ6_bitCount_0f7a4_36 rfl ?_
  refine lv_iushr hx hb dJ6_bitCount_0f7a4_38 rfl ?_
  refine lv_iadd hx hb dJ6_bitCount_0f7a4_39 ?_
  refine lv_topi (fun x4 hx4 => ?_)
  have hf := z_let_u hx4 hf
  refine lv_istore_n (lv' := [(0, .int x4)]) hx hb dJ6_bitCount_0f7a4_40 rfl hl (Nat.le_of_ble_eq_true rfl) rfl (fun ls hl => ?_)
  refine lv_iload_n hx hb dJ6_bitCount_0f7a4_41 rfl (lv_at hl 0 rfl) ?_
  refine lv_iload_n hx hb dJ6_bitCount_0f7a4_42 rfl (lv_at hl 0 rfl) ?_
  refine lv_bipush (v := 16) hx hb dJ6_bitCount_0f7a4_43 rfl ?_
  refine lv_iushr hx hb dJ6_bitCount_0f7a4_45 rfl ?_
  refine lv_iadd hx hb dJ6_bitCount_0f7a4_46 ?_
  refine lv_topi (fun x5 hx5 => ?_)
  have hf := z_let_u hx5 hf
  refine lv_istore_n (lv' := [(0, .int x5)]) hx hb dJ6_bitCount_0f7a4_47 rfl hl (Nat.le_of_ble_eq_true rfl) rfl (fun ls hl => ?_)
  refine lv_iload_n hx hb dJ6_bitCount_0f7a4_48 rfl (lv_at hl 0 rfl) ?_
  refine lv_bipush (v := 63) hx hb dJ6_bitCount_0f7a4_49 rfl ?_
  refine lv_iand hx hb dJ6_bitCount_0f7a4_51 ?_
  exact zr_Ri hx hb hr hlocks hf dJ6_bitCount_0f7a4_52

theorem hd_yX4_restart : hdY yX4_restart 0 := by decide +kernel
def Sh_restart (sh : Sh) : Sh := ((sh_shooters sh), (sh_order sh), (sh_first sh), 0, 0, 0, 0, 0, (sh_nerves sh), (sh_skills sh))
set_option maxHeartbeats 4000000 in
set_option maxRecDepth 100000 in
theorem ctX4_restart (l : Launch) (D : va_G) (ac cs : Nat → Nat) (q : Nat → Nat) (sz : Nat) (sh : Sh) (res : Sh) (hf : Sh_restart sh = res) : Met l yX4_restart (cWW yX4_restart cX4_restart 1 none) { frames := 0, cells := 0, slots := 0, locals := 0 } (zM D ac cs [.ref (q 0)] (shW ac q sh) sz) (va_Qv (fun _ : Unit => True) (fun _ => zB D (va_A (shW ac q sh) sz) (shW ac q res)) (va_A (shW ac q sh) sz)) 0 0 (va_A (shW ac q sh) sz) := by
  refine Met.ofW (cc := cX4_restart) (maxL := 1) (ret := none) (by decide) rfl ?_
  intro p e s m args below meth c s₁ B hml hv
  obtain ⟨rfl, hsz, hP, hKX, hD0, hC⟩ := hv
  have hx := B.exec
  have hb := B.bytes
  have hr := B.returns
  have hts := atoms_spec (ws := cWW yX4_restart cX4_restart 1 none) B.pre
  have htw : ∀ w ∈ WW, w.before _ s = true := fun w h => hts w (List.mem_cons_of_mem _ h)
  have hown : s.vm.findClass RX4 = some m.cls := findClass_of_methodNamed B.named
  have hlocks := B.notSynchronized
  clear hts B
  subst hsz
  have hD := hD0.self (sz := s.heap.size)
  generalize hAe : va_A (shW ac q sh) s.heap.size = A at hD hC ⊢
  have hA : ∀ q : Nat, s.heap.size ≤ q → A q := fun q h => by rw [← hAe]; exact Or.inr h
  have hS : va_S A s.heap s.heap [] := va_S.rf
  clear hD0 hAe
  have hP : va_P D vwCl (shW ac q sh) s.heap := hP
  have hl := lv_entry ([.ref (q 0)]) (n := 1) (Nat.le_of_ble_eq_true rfl)
  rw [lg_entry_eq]
  generalize (lg_sl ([.ref (q 0)]) ++ List.replicate (1 - (lg_sl ([.ref (q 0)])).length) Slot.unset).toArray = ls at hl ⊢
  have hl : lv_has ls 1 [(0, .ref (q 0))] := hl
  unfold Sh_restart at hf
  show W p l e ({ frames := 0, cells := 0, slots := 0, locals := 0 } : Room) s m _ below meth c s.heap [] 0 0 _ (F0 m 0 ls [])
  refine lv_aload_n hx hb dX4_restart_0 rfl (lv_at hl 0 rfl) ?_
  refine lv_iconst (v := 0) hx hb dX4_restart_1 rfl ?_
  refine va_put (D := D) (ci := 4) (v := .int 0) (ty := tyX4 3) (C := RX4) (T := TX4) (N := 10) hx hb htw WW_wsX40 tyX4 tyX4_ok nmX4 hown hKX.1 hP hD hS 0 rfl rfl 3 (Nat.le_of_ble_eq_true rfl) (htw _ mF_RX4_28) (fun _ h9 => h9) rfl (tyX4_ok 3 (Nat.le_of_ble_eq_true rfl)) rfl rfl (Nat.le_of_ble_eq_true rfl) dX4_restart_2 (fun H locs hP hD hS => ?_)
  have hP : va_P D vwCl (shW ac q ((sh_shooters sh), (sh_order sh), (sh_first sh), 0, (sh_goalBits sh), (sh_sideBits sh), (sh_goalsOfA sh), (sh_goalsOfB sh), (sh_nerves sh), (sh_skills sh))) H := hP
  have hD : va_D A (shW ac q ((sh_shooters sh), (sh_order sh), (sh_first sh), 0, (sh_goalBits sh), (sh_sideBits sh), (sh_goalsOfA sh), (sh_goalsOfB sh), (sh_nerves sh), (sh_skills sh))) := hD
  refine lv_aload_n hx hb dX4_restart_5 rfl (lv_at hl 0 rfl) ?_
  refine lv_lconst (v := 0) hx hb dX4_restart_6 rfl ?_
  refine va_put (D := D) (ci := 4) (v := .long 0) (ty := tyX4 4) (C := RX4) (T := TX4) (N := 10) hx hb htw WW_wsX40 tyX4 tyX4_ok nmX4 hown hKX.1 hP hD hS 0 rfl rfl 4 (Nat.le_of_ble_eq_true rfl) (htw _ mF_RX4_31) (fun _ h9 => h9) rfl (tyX4_ok 4 (Nat.le_of_ble_eq_true rfl)) rfl rfl (Nat.le_of_ble_eq_true rfl) dX4_restart_7 (fun H locs hP hD hS => ?_)
  have hP : va_P D vwCl (shW ac q ((sh_shooters sh), (sh_order sh), (sh_first sh), 0, 0, (sh_sideBits sh), (sh_goalsOfA sh), (sh_goalsOfB sh), (sh_nerves sh), (sh_skills sh))) H := hP
  have hD : va_D A (shW ac q ((sh_shooters sh), (sh_order sh), (sh_first sh), 0, 0, (sh_sideBits sh), (sh_goalsOfA sh), (sh_goalsOfB sh), (sh_nerves sh), (sh_skills sh))) := hD
  refine lv_aload_n hx hb dX4_restart_10 rfl (lv_at hl 0 rfl) ?_
  refine lv_lconst (v := 0) hx hb dX4_restart_11 rfl ?_
  refine va_put (D := D) (ci := 4) (v := .long 0) (ty := tyX4 5) (C := RX4) (T := TX4) (N := 10) hx hb htw WW_wsX40 tyX4 tyX4_ok nmX4 hown hKX.1 hP hD hS 0 rfl rfl 5 (Nat.le_of_ble_eq_true rfl) (htw _ mF_RX4_35) (fun _ h9 => h9) rfl (tyX4_ok 5 (Nat.le_of_ble_eq_true rfl)) rfl rfl (Nat.le_of_ble_eq_true rfl) dX4_restart_12 (fun H locs hP hD hS => ?_)
  have hP : va_P D vwCl (shW ac q ((sh_shooters sh), (sh_order sh), (sh_first sh), 0, 0, 0, (sh_goalsOfA sh), (sh_goalsOfB sh), (sh_nerves sh), (sh_skills sh))) H := hP
  have hD : va_D A (shW ac q ((sh_shooters sh), (sh_order sh), (sh_first sh), 0, 0, 0, (sh_goalsOfA sh), (sh_goalsOfB sh), (sh_nerves sh), (sh_skills sh))) := hD
  refine lv_aload_n hx hb dX4_restart_15 rfl (lv_at hl 0 rfl) ?_
  refine lv_iconst (v := 0) hx hb dX4_restart_16 rfl ?_
  refine va_put (D := D) (ci := 4) (v := .int 0) (ty := tyX4 6) (C := RX4) (T := TX4) (N := 10) hx hb htw WW_wsX40 tyX4 tyX4_ok nmX4 hown hKX.1 hP hD hS 0 rfl rfl 6 (Nat.le_of_ble_eq_true rfl) (htw _ mF_RX4_38) (fun _ h9 => h9) rfl (tyX4_ok 6 (Nat.le_of_ble_eq_true rfl)) rfl rfl (Nat.le_of_ble_eq_true rfl) dX4_restart_17 (fun H locs hP hD hS => ?_)
  have hP : va_P D vwCl (shW ac q ((sh_shooters sh), (sh_order sh), (sh_first sh), 0, 0, 0, 0, (sh_goalsOfB sh), (sh_nerves sh), (sh_skills sh))) H := hP
  have hD : va_D A (shW ac q ((sh_shooters sh), (sh_order sh), (sh_first sh), 0, 0, 0, 0, (sh_goalsOfB sh), (sh_nerves sh), (sh_skills sh))) := hD
  refine lv_aload_n hx hb dX4_restart_20 rfl (lv_at hl 0 rfl) ?_
  refine lv_iconst (v := 0) hx hb dX4_restart_21 rfl ?_
  refine va_put (D := D) (ci := 4) (v := .int 0) (ty := tyX4 7) (C := RX4) (T := TX4) (N := 10) hx hb htw WW_wsX40 tyX4 tyX4_ok nmX4 hown hKX.1 hP hD hS 0 rfl rfl 7 (Nat.le_of_ble_eq_true rfl) (htw _ mF_RX4_41) (fun _ h9 => h9) rfl (tyX4_ok 7 (Nat.le_of_ble_eq_true rfl)) rfl rfl (Nat.le_of_ble_eq_true rfl) dX4_restart_22 (fun H locs hP hD hS => ?_)
  have hP : va_P D vwCl (shW ac q ((sh_shooters sh), (sh_order sh), (sh_first sh), 0, 0, 0, 0, 0, (sh_nerves sh), (sh_skills sh))) H := hP
  have hD : va_D A (shW ac q ((sh_shooters sh), (sh_order sh), (sh_first sh), 0, 0, 0, 0, 0, (sh_nerves sh), (sh_skills sh))) := hD
  subst hf
  exact zr_Mv hx hb hr hlocks hP hD hS dX4_restart_25

theorem hd_yX4_skillOf : hdY yX4_skillOf 2 := by decide +kernel
def Sh_skillOf (sh : Sh) (a1 : Int32) (a2 : Int32) : Int32 := z_let ((a1 * 5) + a2) (fun x1 : Int32 => if x1 < 0 then 0 else (if 10 ≤ x1 then 0 else ((sh_skills sh) x1.toNatClampNeg)))
set_option maxHeartbeats 4000000 in
set_option maxRecDepth 100000 in
theorem ctX4_skillOf (l : Launch) (D : va_G) (ac cs : Nat → Nat) (q : Nat → Nat) (sh : Sh) (a1 : Int32) (a2 : Int32) (res : Int32) (hf : Sh_skillOf sh a1 a2 = res) : Met l yX4_skillOf (cWW yX4_skillOf cX4_skillOf 4 (some .int)) { frames := 0, cells := 0, slots := 0, locals := 0 } (zR D ac cs [.ref (q 0), .int a1, .int a2] (shW ac q sh)) (vp_Si (fun r => r = res)) 0 0 (fun _ => False) := by
  refine Met.ofW (cc := cX4_skillOf) (maxL := 4) (ret := (some .int)) (by decide) rfl ?_
  intro p e s m args below meth c s₁ B hml hv
  obtain ⟨rfl, hP, hKX, hC⟩ := hv
  have hx := B.exec
  have hb := B.bytes
  have hr := B.returns
  have hts := atoms_spec (ws := cWW yX4_skillOf cX4_skillOf 4 (some .int)) B.pre
  have htw : ∀ w ∈ WW, w.before _ s = true := fun w h => hts w (List.mem_cons_of_mem _ h)
  have hown : s.vm.findClass RX4 = some m.cls := findClass_of_methodNamed B.named
  have hlocks := B.notSynchronized
  clear hts B
  have hS : va_S (fun _ => False) s.heap s.heap [] := va_S.rf
  have hl := lv_entry ([.ref (q 0), .int a1, .int a2]) (n := 4) (Nat.le_of_ble_eq_true rfl)
  rw [lg_entry_eq]
  generalize (lg_sl ([.ref (q 0), .int a1, .int a2]) ++ List.replicate (4 - (lg_sl ([.ref (q 0), .int a1, .int a2])).length) Slot.unset).toArray = ls at hl ⊢
  have hl : lv_has ls 4 [(0, .ref (q 0)), (1, .int a1), (2, .int a2)] := hl
  unfold Sh_skillOf at hf
  show W p l e ({ frames := 0, cells := 0, slots := 0, locals := 0 } : Room) s m _ below meth c s.heap [] 0 0 _ (F0 m 0 ls [])
  refine lv_iload_n hx hb dX4_skillOf_0 rfl (lv_at hl 1 rfl) ?_
  refine lv_iconst (v := 5) hx hb dX4_skillOf_1 rfl ?_
  refine lv_imul hx hb dX4_skillOf_2 ?_
  refine lv_iload_n hx hb dX4_skillOf_3 rfl (lv_at hl 2 rfl) ?_
  refine lv_iadd hx hb dX4_skillOf_4 ?_
  refine lv_topi (fun x1 hx1 => ?_)
  have hf := z_let_u hx1 hf
  refine lv_istore_n (lv' := [(3, .int x1), (0, .ref (q 0)), (1, .int a1), (2, .int a2)]) hx hb dX4_skillOf_5 rfl hl (Nat.le_of_ble_eq_true rfl) rfl (fun ls hl => ?_)
  refine lv_iload_n hx hb dX4_skillOf_6 rfl (lv_at hl 0 rfl) ?_
  refine lv_if_lt (tgt := 28) hx hb dX4_skillOf_7 (by decide) (fun c2 => ?_) (fun c2 => ?_)
  · have hf := z_p c2 hf
    refine lv_iconst (v := 0) hx hb dX4_skillOf_28 rfl ?_
    exact zr_Ri hx hb hr hlocks hf dX4_skillOf_29
  · have hf := z_n c2 hf
    refine lv_iload_n hx hb dX4_skillOf_10 rfl (lv_at hl 0 rfl) ?_
    refine lv_aload_n hx hb dX4_skillOf_11 rfl (lv_at hl 1 rfl) ?_
    refine va_get (D := D) (ci := 4) (v := .ref (q 2)) (C := RX4) (T := TX4) (N := 10) hx hb htw WW_wsX40 hown hKX.1 hP 0 rfl rfl 9 (Nat.le_of_ble_eq_true rfl) (htw _ mF_RX4_15) (fun _ h9 => h9) rfl dX4_skillOf_12 ?_
    refine va_alen hx hb hKX.1 hP 2 0 rfl rfl (v := 10) rfl dX4_skillOf_15 ?_
    refine lv_icmp_ge (tgt := 28) hx hb dX4_skillOf_16 (by decide) (fun c3 => ?_) (fun c3 => ?_)
    · have hf := z_p c3 hf
      refine lv_iconst (v := 0) hx hb dX4_skillOf_28 rfl ?_
      exact zr_Ri hx hb hr hlocks hf dX4_skillOf_29
    · have hf := z_n c3 hf
      refine lv_aload_n hx hb dX4_skillOf_19 rfl (lv_at hl 1 rfl) ?_
      refine va_get (D := D) (ci := 4) (v := .ref (q 2)) (C := RX4) (T := TX4) (N := 10) hx hb htw WW_wsX40 hown hKX.1 hP 0 rfl rfl 9 (Nat.le_of_ble_eq_true rfl) (htw _ mF_RX4_15) (fun _ h9 => h9) rfl dX4_skillOf_20 ?_
      refine lv_iload_n hx hb dX4_skillOf_23 rfl (lv_at hl 0 rfl) ?_
      refine va_iald hx hb hKX.1 hP 2 0 rfl rfl (z_in_c rfl (Nat.le_of_ble_eq_true rfl) c2 c3) dX4_skillOf_24 ?_
      refine lv_goto (tgt := 29) hx hb dX4_skillOf_25 (by decide) ?_
      exact zr_Ri hx hb hr hlocks hf dX4_skillOf_29

theorem hd_yX4_setSkill : hdY yX4_setSkill 3 := by decide +kernel
def Sh_setSkill (sh : Sh) (a1 : Int32) (a2 : Int32) (a3 : Int32) : Sh := z_let ((a1 * 5) + a2) (fun x1 : Int32 => if x1 < 0 then sh else (if 10 ≤ x1 then sh else ((sh_shooters sh), (sh_order sh), (sh_first sh), (sh_kicks sh), (sh_goalBits sh), (sh_sideBits sh), (sh_goalsOfA sh), (sh_goalsOfB sh), (sh_nerves sh), (upd (sh_skills sh) x1.toNatClampNeg a3))))
set_option maxHeartbeats 4000000 in
set_option maxRecDepth 100000 in
theorem ctX4_setSkill (l : Launch) (D : va_G) (ac cs : Nat → Nat) (q : Nat → Nat) (sz : Nat) (sh : Sh) (a1 : Int32) (a2 : Int32) (a3 : Int32) (res : Sh) (hf : Sh_setSkill sh a1 a2 a3 = res) : Met l yX4_setSkill (cWW yX4_setSkill cX4_setSkill 5 none) { frames := 0, cells := 0, slots := 0, locals := 0 } (zM D ac cs [.ref (q 0), .int a1, .int a2, .int a3] (shW ac q sh) sz) (va_Qv (fun _ : Unit => True) (fun _ => zB D (va_A (shW ac q sh) sz) (shW ac q res)) (va_A (shW ac q sh) sz)) 0 0 (va_A (shW ac q sh) sz) := by
  refine Met.ofW (cc := cX4_setSkill) (maxL := 5) (ret := none) (by decide) rfl ?_
  intro p e s m args below meth c s₁ B hml hv
  obtain ⟨rfl, hsz, hP, hKX, hD0, hC⟩ := hv
  have hx := B.exec
  have hb := B.bytes
  have hr := B.returns
  have hts := atoms_spec (ws := cWW yX4_setSkill cX4_setSkill 5 none) B.pre
  have htw : ∀ w ∈ WW, w.before _ s = true := fun w h => hts w (List.mem_cons_of_mem _ h)
  have hown : s.vm.findClass RX4 = some m.cls := findClass_of_methodNamed B.named
  have hlocks := B.notSynchronized
  clear hts B
  subst hsz
  have hD := hD0.self (sz := s.heap.size)
  generalize hAe : va_A (shW ac q sh) s.heap.size = A at hD hC ⊢
  have hA : ∀ q : Nat, s.heap.size ≤ q → A q := fun q h => by rw [← hAe]; exact Or.inr h
  have hS : va_S A s.heap s.heap [] := va_S.rf
  clear hD0 hAe
  have hP : va_P D vwCl (shW ac q sh) s.heap := hP
  have hl := lv_entry ([.ref (q 0), .int a1, .int a2, .int a3]) (n := 5) (Nat.le_of_ble_eq_true rfl)
  rw [lg_entry_eq]
  generalize (lg_sl ([.ref (q 0), .int a1, .int a2, .int a3]) ++ List.replicate (5 - (lg_sl ([.ref (q 0), .int a1, .int a2, .int a3])).length) Slot.unset).toArray = ls at hl ⊢
  have hl : lv_has ls 5 [(0, .ref (q 0)), (1, .int a1), (2, .int a2), (3, .int a3)] := hl
  unfold Sh_setSkill at hf
  show W p l e ({ frames := 0, cells := 0, slots := 0, locals := 0 } : Room) s m _ below meth c s.heap [] 0 0 _ (F0 m 0 ls [])
  refine lv_iload_n hx hb dX4_setSkill_0 rfl (lv_at hl 1 rfl) ?_
  refine lv_iconst (v := 5) hx hb dX4_setSkill_1 rfl ?_
  refine lv_imul hx hb dX4_setSkill_2 ?_
  refine lv_iload_n hx hb dX4_setSkill_3 rfl (lv_at hl 2 rfl) ?_
  refine lv_iadd hx hb dX4_setSkill_4 ?_
  refine lv_topi (fun x1 hx1 => ?_)
  have hf := z_let_u hx1 hf
  refine lv_istore (lv' := [(4, .int x1), (0, .ref (q 0)), (1, .int a1), (2, .int a2), (3, .int a3)]) hx hb dX4_setSkill_5 hl (Nat.le_of_ble_eq_true rfl) rfl (fun ls hl => ?_)
  refine lv_iload hx hb dX4_setSkill_7 (lv_at hl 0 rfl) ?_
  refine lv_if_lt (tgt := 30) hx hb dX4_setSkill_9 (by decide) (fun c2 => ?_) (fun c2 => ?_)
  · have hf := z_p c2 hf
    subst hf
    exact zr_Mv hx hb hr hlocks hP hD hS dX4_setSkill_30
  · have hf := z_n c2 hf
    refine lv_iload hx hb dX4_setSkill_12 (lv_at hl 0 rfl) ?_
    refine lv_aload_n hx hb dX4_setSkill_14 rfl (lv_at hl 1 rfl) ?_
    refine va_get (D := D) (ci := 4) (v := .ref (q 2)) (C := RX4) (T := TX4) (N := 10) hx hb htw WW_wsX40 hown hKX.1 hP 0 rfl rfl 9 (Nat.le_of_ble_eq_true rfl) (htw _ mF_RX4_15) (fun _ h9 => h9) rfl dX4_setSkill_15 ?_
    refine va_alen hx hb hKX.1 hP 2 0 rfl rfl (v := 10) rfl dX4_setSkill_18 ?_
    refine lv_icmp_ge (tgt := 30) hx hb dX4_setSkill_19 (by decide) (fun c3 => ?_) (fun c3 => ?_)
    · have hf := z_p c3 hf
      subst hf
      exact zr_Mv hx hb hr hlocks hP hD hS dX4_setSkill_30
    · have hf := z_n c3 hf
      refine lv_aload_n hx hb dX4_setSkill_22 rfl (lv_at hl 1 rfl) ?_
      refine va_get (D := D) (ci := 4) (v := .ref (q 2)) (C := RX4) (T := TX4) (N := 10) hx hb htw WW_wsX40 hown hKX.1 hP 0 rfl rfl 9 (Nat.le_of_ble_eq_true rfl) (htw _ mF_RX4_15) (fun _ h9 => h9) rfl dX4_setSkill_23 ?_
      refine lv_iload hx hb dX4_setSkill_26 (lv_at hl 0 rfl) ?_
      refine lv_iload_n hx hb dX4_setSkill_28 rfl (lv_at hl 4 rfl) ?_
      refine va_iast hx hb hKX.1 hP hD hS 2 0 rfl rfl (z_in_c rfl (Nat.le_of_ble_eq_true rfl) c2 c3) dX4_setSkill_29 (fun H locs hP hD hS => ?_)
      have hP : va_P D vwCl (shW ac q ((sh_shooters sh), (sh_order sh), (sh_first sh), (sh_kicks sh), (sh_goalBits sh), (sh_sideBits sh), (sh_goalsOfA sh), (sh_goalsOfB sh), (sh_nerves sh), (upd (sh_skills sh) x1.toNatClampNeg a3))) H := hP
      have hD : va_D A (shW ac q ((sh_shooters sh), (sh_order sh), (sh_first sh), (sh_kicks sh), (sh_goalBits sh), (sh_sideBits sh), (sh_goalsOfA sh), (sh_goalsOfB sh), (sh_nerves sh), (upd (sh_skills sh) x1.toNatClampNeg a3))) := hD
      subst hf
      exact zr_Mv hx hb hr hlocks hP hD hS dX4_setSkill_30

theorem hd_yX4_nerveOf : hdY yX4_nerveOf 2 := by decide +kernel
def Sh_nerveOf (sh : Sh) (a1 : Int32) (a2 : Int32) : Int32 := z_let (if a2 = 0 then 0 else 2) (fun v1 : Int32 => z_let (v1 + a1) (fun x5 : Int32 => if x5 < 0 then 0 else (if 4 ≤ x5 then 0 else ((sh_nerves sh) x5.toNatClampNeg))))
set_option maxHeartbeats 4000000 in
set_option maxRecDepth 100000 in
theorem ctX4_nerveOf (l : Launch) (D : va_G) (ac cs : Nat → Nat) (q : Nat → Nat) (sh : Sh) (a1 : Int32) (a2 : Int32) (res : Int32) (hf : Sh_nerveOf sh a1 a2 = res) : Met l yX4_nerveOf (cWW yX4_nerveOf cX4_nerveOf 4 (some .int)) { frames := 0, cells := 0, slots := 0, locals := 0 } (zR D ac cs [.ref (q 0), .int a1, .int a2] (shW ac q sh)) (vp_Si (fun r => r = res)) 0 0 (fun _ => False) := by
  refine Met.ofW (cc := cX4_nerveOf) (maxL := 4) (ret := (some .int)) (by decide) rfl ?_
  intro p e s m args below meth c s₁ B hml hv
  obtain ⟨rfl, hP, hKX, hC⟩ := hv
  have hx := B.exec
  have hb := B.bytes
  have hr := B.returns
  have hts := atoms_spec (ws := cWW yX4_nerveOf cX4_nerveOf 4 (some .int)) B.pre
  have htw : ∀ w ∈ WW, w.before _ s = true := fun w h => hts w (List.mem_cons_of_mem _ h)
  have hown : s.vm.findClass RX4 = some m.cls := findClass_of_methodNamed B.named
  have hlocks := B.notSynchronized
  clear hts B
  have hS : va_S (fun _ => False) s.heap s.heap [] := va_S.rf
  have hl := lv_entry ([.ref (q 0), .int a1, .int a2]) (n := 4) (Nat.le_of_ble_eq_true rfl)
  rw [lg_entry_eq]
  generalize (lg_sl ([.ref (q 0), .int a1, .int a2]) ++ List.replicate (4 - (lg_sl ([.ref (q 0), .int a1, .int a2])).length) Slot.unset).toArray = ls at hl ⊢
  have hl : lv_has ls 4 [(0, .ref (q 0)), (1, .int a1), (2, .int a2)] := hl
  unfold Sh_nerveOf at hf
  show W p l e ({ frames := 0, cells := 0, slots := 0, locals := 0 } : Room) s m _ below meth c s.heap [] 0 0 _ (F0 m 0 ls [])
  refine lv_iload_n hx hb dX4_nerveOf_0 rfl (lv_at hl 2 rfl) ?_
  have hj3 : ∀ (v1 : Int32), v1 = (if a2 = 0 then 0 else 2) → ∀ (ls : Array Slot), lv_has ls 4 [(0, .ref (q 0)), (1, .int a1)] → W p l e ({ frames := 0, cells := 0, slots := 0, locals := 0 } : Room) s m (([.ref (q 0), .int a1, .int a2] : List Value).toArray) below meth c s.heap [] 0 0 (MQ below (vp_Si (fun r => r = res)) ([.ref (q 0), .int a1, .int a2] : List Value).toArray s 0 0 (fun _ => False)) (F0 m 9 ls [.int v1]) := by
    intro v1 hv1 ls hl
    have hf := z_let_u hv1 hf
    refine lv_iload_n hx hb dX4_nerveOf_9 rfl (lv_at hl 1 rfl) ?_
    refine lv_iadd hx hb dX4_nerveOf_10 ?_
    refine lv_topi (fun x5 hx5 => ?_)
    have hf := z_let_u hx5 hf
    refine lv_istore_n (lv' := [(3, .int x5), (0, .ref (q 0)), (1, .int a1)]) hx hb dX4_nerveOf_11 rfl hl (Nat.le_of_ble_eq_true rfl) rfl (fun ls hl => ?_)
    refine lv_iload_n hx hb dX4_nerveOf_12 rfl (lv_at hl 0 rfl) ?_
    refine lv_if_lt (tgt := 34) hx hb dX4_nerveOf_13 (by decide) (fun c6 => ?_) (fun c6 => ?_)
    · have hf := z_p c6 hf
      refine lv_iconst (v := 0) hx hb dX4_nerveOf_34 rfl ?_
      exact zr_Ri hx hb hr hlocks hf dX4_nerveOf_35
    · have hf := z_n c6 hf
      refine lv_iload_n hx hb dX4_nerveOf_16 rfl (lv_at hl 0 rfl) ?_
      refine lv_aload_n hx hb dX4_nerveOf_17 rfl (lv_at hl 1 rfl) ?_
      refine va_get (D := D) (ci := 4) (v := .ref (q 1)) (C := RX4) (T := TX4) (N := 10) hx hb htw WW_wsX40 hown hKX.1 hP 0 rfl rfl 8 (Nat.le_of_ble_eq_true rfl) (htw _ mF_RX4_9) (fun _ h9 => h9) rfl dX4_nerveOf_18 ?_
      refine va_alen hx hb hKX.1 hP 1 0 rfl rfl (v := 4) rfl dX4_nerveOf_21 ?_
      refine lv_icmp_ge (tgt := 34) hx hb dX4_nerveOf_22 (by decide) (fun c7 => ?_) (fun c7 => ?_)
      · have hf := z_p c7 hf
        refine lv_iconst (v := 0) hx hb dX4_nerveOf_34 rfl ?_
        exact zr_Ri hx hb hr hlocks hf dX4_nerveOf_35
      · have hf := z_n c7 hf
        refine lv_aload_n hx hb dX4_nerveOf_25 rfl (lv_at hl 1 rfl) ?_
        refine va_get (D := D) (ci := 4) (v := .ref (q 1)) (C := RX4) (T := TX4) (N := 10) hx hb htw WW_wsX40 hown hKX.1 hP 0 rfl rfl 8 (Nat.le_of_ble_eq_true rfl) (htw _ mF_RX4_9) (fun _ h9 => h9) rfl dX4_nerveOf_26 ?_
        refine lv_iload_n hx hb dX4_nerveOf_29 rfl (lv_at hl 0 rfl) ?_
        refine va_iald hx hb hKX.1 hP 1 0 rfl rfl (z_in_c rfl (Nat.le_of_ble_eq_true rfl) c6 c7) dX4_nerveOf_30 ?_
        refine lv_goto (tgt := 35) hx hb dX4_nerveOf_31 (by decide) ?_
        exact zr_Ri hx hb hr hlocks hf dX4_nerveOf_35
  refine lv_if_eq (tgt := 8) hx hb dX4_nerveOf_1 (by decide) (fun c4 => ?_) (fun c4 => ?_)
  · skip
    refine lv_iconst (v := 0) hx hb dX4_nerveOf_8 rfl ?_
    exact hj3 0 (if_pos c4).symm ls (lv_sub hl [0, 1] rfl)
  · skip
    refine lv_iconst (v := 2) hx hb dX4_nerveOf_4 rfl ?_
    refine lv_goto (tgt := 9) hx hb dX4_nerveOf_5 (by decide) ?_
    exact hj3 2 (if_neg c4).symm ls (lv_sub hl [0, 1] rfl)

theorem hd_yX4_setNerve : hdY yX4_setNerve 3 := by decide +kernel
def Sh_setNerve (sh : Sh) (a1 : Int32) (a2 : Int32) (a3 : Int32) : Sh := z_let (if a2 = 0 then 0 else 2) (fun v1 : Int32 => z_let (v1 + a1) (fun x5 : Int32 => if x5 < 0 then sh else (if 4 ≤ x5 then sh else ((sh_shooters sh), (sh_order sh), (sh_first sh), (sh_kicks sh), (sh_goalBits sh), (sh_sideBits sh), (sh_goalsOfA sh), (sh_goalsOfB sh), (upd (sh_nerves sh) x5.toNatClampNeg a3), (sh_skills sh)))))
set_option maxHeartbeats 4000000 in
set_option maxRecDepth 100000 in
theorem ctX4_setNerve (l : Launch) (D : va_G) (ac cs : Nat → Nat) (q : Nat → Nat) (sz : Nat) (sh : Sh) (a1 : Int32) (a2 : Int32) (a3 : Int32) (res : Sh) (hf : Sh_setNerve sh a1 a2 a3 = res) : Met l yX4_setNerve (cWW yX4_setNerve cX4_setNerve 5 none) { frames := 0, cells := 0, slots := 0, locals := 0 } (zM D ac cs [.ref (q 0), .int a1, .int a2, .int a3] (shW ac q sh) sz) (va_Qv (fun _ : Unit => True) (fun _ => zB D (va_A (shW ac q sh) sz) (shW ac q res)) (va_A (shW ac q sh) sz)) 0 0 (va_A (shW ac q sh) sz) := by
  refine Met.ofW (cc := cX4_setNerve) (maxL := 5) (ret := none) (by decide) rfl ?_
  intro p e s m args below meth c s₁ B hml hv
  obtain ⟨rfl, hsz, hP, hKX, hD0, hC⟩ := hv
  have hx := B.exec
  have hb := B.bytes
  have hr := B.returns
  have hts := atoms_spec (ws := cWW yX4_setNerve cX4_setNerve 5 none) B.pre
  have htw : ∀ w ∈ WW, w.before _ s = true := fun w h => hts w (List.mem_cons_of_mem _ h)
  have hown : s.vm.findClass RX4 = some m.cls := findClass_of_methodNamed B.named
  have hlocks := B.notSynchronized
  clear hts B
  subst hsz
  have hD := hD0.self (sz := s.heap.size)
  generalize hAe : va_A (shW ac q sh) s.heap.size = A at hD hC ⊢
  have hA : ∀ q : Nat, s.heap.size ≤ q → A q := fun q h => by rw [← hAe]; exact Or.inr h
  have hS : va_S A s.heap s.heap [] := va_S.rf
  clear hD0 hAe
  have hP : va_P D vwCl (shW ac q sh) s.heap := hP
  have hl := lv_entry ([.ref (q 0), .int a1, .int a2, .int a3]) (n := 5) (Nat.le_of_ble_eq_true rfl)
  rw [lg_entry_eq]
  generalize (lg_sl ([.ref (q 0), .int a1, .int a2, .int a3]) ++ List.replicate (5 - (lg_sl ([.ref (q 0), .int a1, .int a2, .int a3])).length) Slot.unset).toArray = ls at hl ⊢
  have hl : lv_has ls 5 [(0, .ref (q 0)), (1, .int a1), (2, .int a2), (3, .int a3)] := hl
  unfold Sh_setNerve at hf
  show W p l e ({ frames := 0, cells := 0, slots := 0, locals := 0 } : Room) s m _ below meth c s.heap [] 0 0 _ (F0 m 0 ls [])
  refine lv_iload_n hx hb dX4_setNerve_0 rfl (lv_at hl 2 rfl) ?_
  have hj3 : ∀ (v1 : Int32), v1 = (if a2 = 0 then 0 else 2) → ∀ (H : Heap) (locs : List Loc) (ls : Array Slot), va_P D vwCl (shW ac q sh) H → va_D A (shW ac q sh) → va_S A s.heap H locs → lv_has ls 5 [(0, .ref (q 0)), (1, .int a1), (3, .int a3)] → W p l e ({ frames := 0, cells := 0, slots := 0, locals := 0 } : Room) s m (([.ref (q 0), .int a1, .int a2, .int a3] : List Value).toArray) below meth c H locs 0 0 (MQ below (va_Qv (fun _ : Unit => True) (fun _ => zB D A (shW ac q res)) A) ([.ref (q 0), .int a1, .int a2, .int a3] : List Value).toArray s 0 0 A) (F0 m 9 ls [.int v1]) := by
    intro v1 hv1 H locs ls hP hD hS hl
    have hf := z_let_u hv1 hf
    refine lv_iload_n hx hb dX4_setNerve_9 rfl (lv_at hl 1 rfl) ?_
    refine lv_iadd hx hb dX4_setNerve_10 ?_
    refine lv_topi (fun x5 hx5 => ?_)
    have hf := z_let_u hx5 hf
    refine lv_istore (lv' := [(4, .int x5), (0, .ref (q 0)), (1, .int a1), (3, .int a3)]) hx hb dX4_setNerve_11 hl (Nat.le_of_ble_eq_true rfl) rfl (fun ls hl => ?_)
    refine lv_iload hx hb dX4_setNerve_13 (lv_at hl 0 rfl) ?_
    refine lv_if_lt (tgt := 36) hx hb dX4_setNerve_15 (by decide) (fun c6 => ?_) (fun c6 => ?_)
    · have hf := z_p c6 hf
      subst hf
      exact zr_Mv hx hb hr hlocks hP hD hS dX4_setNerve_36
    · have hf := z_n c6 hf
      refine lv_iload hx hb dX4_setNerve_18 (lv_at hl 0 rfl) ?_
      refine lv_aload_n hx hb dX4_setNerve_20 rfl (lv_at hl 1 rfl) ?_
      refine va_get (D := D) (ci := 4) (v := .ref (q 1)) (C := RX4) (T := TX4) (N := 10) hx hb htw WW_wsX40 hown hKX.1 hP 0 rfl rfl 8 (Nat.le_of_ble_eq_true rfl) (htw _ mF_RX4_9) (fun _ h9 => h9) rfl dX4_setNerve_21 ?_
      refine va_alen hx hb hKX.1 hP 1 0 rfl rfl (v := 4) rfl dX4_setNerve_24 ?_
      refine lv_icmp_ge (tgt := 36) hx hb dX4_setNerve_25 (by decide) (fun c7 => ?_) (fun c7 => ?_)
      · have hf := z_p c7 hf
        subst hf
        exact zr_Mv hx hb hr hlocks hP hD hS dX4_setNerve_36
      · have hf := z_n c7 hf
        refine lv_aload_n hx hb dX4_setNerve_28 rfl (lv_at hl 1 rfl) ?_
        refine va_get (D := D) (ci := 4) (v := .ref (q 1)) (C := RX4) (T := TX4) (N := 10) hx hb htw WW_wsX40 hown hKX.1 hP 0 rfl rfl 8 (Nat.le_of_ble_eq_true rfl) (htw _ mF_RX4_9) (fun _ h9 => h9) rfl dX4_setNerve_29 ?_
        refine lv_iload hx hb dX4_setNerve_32 (lv_at hl 0 rfl) ?_
        refine lv_iload_n hx hb dX4_setNerve_34 rfl (lv_at hl 3 rfl) ?_
        refine va_iast hx hb hKX.1 hP hD hS 1 0 rfl rfl (z_in_c rfl (Nat.le_of_ble_eq_true rfl) c6 c7) dX4_setNerve_35 (fun H locs hP hD hS => ?_)
        have hP : va_P D vwCl (shW ac q ((sh_shooters sh), (sh_order sh), (sh_first sh), (sh_kicks sh), (sh_goalBits sh), (sh_sideBits sh), (sh_goalsOfA sh), (sh_goalsOfB sh), (upd (sh_nerves sh) x5.toNatClampNeg a3), (sh_skills sh))) H := hP
        have hD : va_D A (shW ac q ((sh_shooters sh), (sh_order sh), (sh_first sh), (sh_kicks sh), (sh_goalBits sh), (sh_sideBits sh), (sh_goalsOfA sh), (sh_goalsOfB sh), (upd (sh_nerves sh) x5.toNatClampNeg a3), (sh_skills sh))) := hD
        subst hf
        exact zr_Mv hx hb hr hlocks hP hD hS dX4_setNerve_36
  refine lv_if_eq (tgt := 8) hx hb dX4_setNerve_1 (by decide) (fun c4 => ?_) (fun c4 => ?_)
  · skip
    refine lv_iconst (v := 0) hx hb dX4_setNerve_8 rfl ?_
    exact hj3 0 (if_pos c4).symm _ _ ls hP hD hS (lv_sub hl [0, 1, 3] rfl)
  · skip
    refine lv_iconst (v := 2) hx hb dX4_setNerve_4 rfl ?_
    refine lv_goto (tgt := 9) hx hb dX4_setNerve_5 (by decide) ?_
    exact hj3 2 (if_neg c4).symm _ _ ls hP hD hS (lv_sub hl [0, 1, 3] rfl)

theorem hd_yX4_goalsOf : hdY yX4_goalsOf 1 := by decide +kernel
def Sh_goalsOf (sh : Sh) (a1 : Int32) : Int32 := if a1 = 0 then (sh_goalsOfA sh) else (sh_goalsOfB sh)
set_option maxHeartbeats 4000000 in
set_option maxRecDepth 100000 in
theorem ctX4_goalsOf (l : Launch) (D : va_G) (ac cs : Nat → Nat) (q : Nat → Nat) (sh : Sh) (a1 : Int32) (res : Int32) (hf : Sh_goalsOf sh a1 = res) : Met l yX4_goalsOf (cWW yX4_goalsOf cX4_goalsOf 2 (some .int)) { frames := 0, cells := 0, slots := 0, locals := 0 } (zR D ac cs [.ref (q 0), .int a1] (shW ac q sh)) (vp_Si (fun r => r = res)) 0 0 (fun _ => False) := by
  refine Met.ofW (cc := cX4_goalsOf) (maxL := 2) (ret := (some .int)) (by decide) rfl ?_
  intro p e s m args below meth c s₁ B hml hv
  obtain ⟨rfl, hP, hKX, hC⟩ := hv
  have hx := B.exec
  have hb := B.bytes
  have hr := B.returns
  have hts := atoms_spec (ws := cWW yX4_goalsOf cX4_goalsOf 2 (some .int)) B.pre
  have htw : ∀ w ∈ WW, w.before _ s = true := fun w h => hts w (List.mem_cons_of_mem _ h)
  have hown : s.vm.findClass RX4 = some m.cls := findClass_of_methodNamed B.named
  have hlocks := B.notSynchronized
  clear hts B
  have hS : va_S (fun _ => False) s.heap s.heap [] := va_S.rf
  have hl := lv_entry ([.ref (q 0), .int a1]) (n := 2) (Nat.le_of_ble_eq_true rfl)
  rw [lg_entry_eq]
  generalize (lg_sl ([.ref (q 0), .int a1]) ++ List.replicate (2 - (lg_sl ([.ref (q 0), .int a1])).length) Slot.unset).toArray = ls at hl ⊢
  have hl : lv_has ls 2 [(0, .ref (q 0)), (1, .int a1)] := hl
  unfold Sh_goalsOf at hf
  show W p l e ({ frames := 0, cells := 0, slots := 0, locals := 0 } : Room) s m _ below meth c s.heap [] 0 0 _ (F0 m 0 ls [])
  refine lv_iload_n hx hb dX4_goalsOf_0 rfl (lv_at hl 1 rfl) ?_
  refine lv_if_ne (tgt := 11) hx hb dX4_goalsOf_1 (by decide) (fun c1 => ?_) (fun c1 => ?_)
  · have hf := z_n c1 hf
    refine lv_aload_n hx hb dX4_goalsOf_11 rfl (lv_at hl 0 rfl) ?_
    refine va_get (D := D) (ci := 4) (v := .int (sh_goalsOfB sh)) (C := RX4) (T := TX4) (N := 10) hx hb htw WW_wsX40 hown hKX.1 hP 0 rfl rfl 7 (Nat.le_of_ble_eq_true rfl) (htw _ mF_RX4_41) (fun _ h9 => h9) rfl dX4_goalsOf_12 ?_
    exact zr_Ri hx hb hr hlocks hf dX4_goalsOf_15
  · have hf := z_p c1 hf
    refine lv_aload_n hx hb dX4_goalsOf_4 rfl (lv_at hl 0 rfl) ?_
    refine va_get (D := D) (ci := 4) (v := .int (sh_goalsOfA sh)) (C := RX4) (T := TX4) (N := 10) hx hb htw WW_wsX40 hown hKX.1 hP 0 rfl rfl 6 (Nat.le_of_ble_eq_true rfl) (htw _ mF_RX4_38) (fun _ h9 => h9) rfl dX4_goalsOf_5 ?_
    refine lv_goto (tgt := 15) hx hb dX4_goalsOf_8 (by decide) ?_
    exact zr_Ri hx hb hr hlocks hf dX4_goalsOf_15

theorem hd_yX4_sideOfKick : hdY yX4_sideOfKick 1 := by decide +kernel
def Sh_sideOfKick (sh : Sh) (a1 : Int32) : Int32 := ((((sh_sideBits sh).toUInt64 >>> (a1.toInt64.toUInt64 &&& Int64.toUInt64 63)).toInt64) &&& 1).toInt32
set_option maxHeartbeats 4000000 in
set_option maxRecDepth 100000 in
theorem ctX4_sideOfKick (l : Launch) (D : va_G) (ac cs : Nat → Nat) (q : Nat → Nat) (sh : Sh) (a1 : Int32) (res : Int32) (hf : Sh_sideOfKick sh a1 = res) : Met l yX4_sideOfKick (cWW yX4_sideOfKick cX4_sideOfKick 2 (some .int)) { frames := 0, cells := 0, slots := 0, locals := 0 } (zR D ac cs [.ref (q 0), .int a1] (shW ac q sh)) (vp_Si (fun r => r = res)) 0 0 (fun _ => False) := by
  refine Met.ofW (cc := cX4_sideOfKick) (maxL := 2) (ret := (some .int)) (by decide) rfl ?_
  intro p e s m args below meth c s₁ B hml hv
  obtain ⟨rfl, hP, hKX, hC⟩ := hv
  have hx := B.exec
  have hb := B.bytes
  have hr := B.returns
  have hts := atoms_spec (ws := cWW yX4_sideOfKick cX4_sideOfKick 2 (some .int)) B.pre
  have htw : ∀ w ∈ WW, w.before _ s = true := fun w h => hts w (List.mem_cons_of_mem _ h)
  have hown : s.vm.findClass RX4 = some m.cls := findClass_of_methodNamed B.named
  have hlocks := B.notSynchronized
  clear hts B
  have hS : va_S (fun _ => False) s.heap s.heap [] := va_S.rf
  have hl := lv_entry ([.ref (q 0), .int a1]) (n := 2) (Nat.le_of_ble_eq_true rfl)
  rw [lg_entry_eq]
  generalize (lg_sl ([.ref (q 0), .int a1]) ++ List.replicate (2 - (lg_sl ([.ref (q 0), .int a1])).length) Slot.unset).toArray = ls at hl ⊢
  have hl : lv_has ls 2 [(0, .ref (q 0)), (1, .int a1)] := hl
  unfold Sh_sideOfKick at hf
  show W p l e ({ frames := 0, cells := 0, slots := 0, locals := 0 } : Room) s m _ below meth c s.heap [] 0 0 _ (F0 m 0 ls [])
  refine lv_aload_n hx hb dX4_sideOfKick_0 rfl (lv_at hl 0 rfl) ?_
  refine va_get (D := D) (ci := 4) (v := .long (sh_sideBits sh)) (C := RX4) (T := TX4) (N := 10) hx hb htw WW_wsX40 hown hKX.1 hP 0 rfl rfl 5 (Nat.le_of_ble_eq_true rfl) (htw _ mF_RX4_35) (fun _ h9 => h9) rfl dX4_sideOfKick_1 ?_
  refine lv_iload_n hx hb dX4_sideOfKick_4 rfl (lv_at hl 1 rfl) ?_
  refine lv_lushr hx hb dX4_sideOfKick_5 rfl ?_
  refine lv_lconst (v := 1) hx hb dX4_sideOfKick_6 rfl ?_
  refine lv_land hx hb dX4_sideOfKick_7 ?_
  refine lv_l2i hx hb dX4_sideOfKick_8 rfl ?_
  exact zr_Ri hx hb hr hlocks hf dX4_sideOfKick_9

theorem hd_yX4_goalOfKick : hdY yX4_goalOfKick 1 := by decide +kernel
def Sh_goalOfKick (sh : Sh) (a1 : Int32) : Int32 := ((((sh_goalBits sh).toUInt64 >>> (a1.toInt64.toUInt64 &&& Int64.toUInt64 63)).toInt64) &&& 1).toInt32
set_option maxHeartbeats 4000000 in
set_option maxRecDepth 100000 in
theorem ctX4_goalOfKick (l : Launch) (D : va_G) (ac cs : Nat → Nat) (q : Nat → Nat) (sh : Sh) (a1 : Int32) (res : Int32) (hf : Sh_goalOfKick sh a1 = res) : Met l yX4_goalOfKick (cWW yX4_goalOfKick cX4_goalOfKick 2 (some .int)) { frames := 0, cells := 0, slots := 0, locals := 0 } (zR D ac cs [.ref (q 0), .int a1] (shW ac q sh)) (vp_Si (fun r => r = res)) 0 0 (fun _ => False) := by
  refine Met.ofW (cc := cX4_goalOfKick) (maxL := 2) (ret := (some .int)) (by decide) rfl ?_
  intro p e s m args below meth c s₁ B hml hv
  obtain ⟨rfl, hP, hKX, hC⟩ := hv
  have hx := B.exec
  have hb := B.bytes
  have hr := B.returns
  have hts := atoms_spec (ws := cWW yX4_goalOfKick cX4_goalOfKick 2 (some .int)) B.pre
  have htw : ∀ w ∈ WW, w.before _ s = true := fun w h => hts w (List.mem_cons_of_mem _ h)
  have hown : s.vm.findClass RX4 = some m.cls := findClass_of_methodNamed B.named
  have hlocks := B.notSynchronized
  clear hts B
  have hS : va_S (fun _ => False) s.heap s.heap [] := va_S.rf
  have hl := lv_entry ([.ref (q 0), .int a1]) (n := 2) (Nat.le_of_ble_eq_true rfl)
  rw [lg_entry_eq]
  generalize (lg_sl ([.ref (q 0), .int a1]) ++ List.replicate (2 - (lg_sl ([.ref (q 0), .int a1])).length) Slot.unset).toArray = ls at hl ⊢
  have hl : lv_has ls 2 [(0, .ref (q 0)), (1, .int a1)] := hl
  unfold Sh_goalOfKick at hf
  show W p l e ({ frames := 0, cells := 0, slots := 0, locals := 0 } : Room) s m _ below meth c s.heap [] 0 0 _ (F0 m 0 ls [])
  refine lv_aload_n hx hb dX4_goalOfKick_0 rfl (lv_at hl 0 rfl) ?_
  refine va_get (D := D) (ci := 4) (v := .long (sh_goalBits sh)) (C := RX4) (T := TX4) (N := 10) hx hb htw WW_wsX40 hown hKX.1 hP 0 rfl rfl 4 (Nat.le_of_ble_eq_true rfl) (htw _ mF_RX4_31) (fun _ h9 => h9) rfl dX4_goalOfKick_1 ?_
  refine lv_iload_n hx hb dX4_goalOfKick_4 rfl (lv_at hl 1 rfl) ?_
  refine lv_lushr hx hb dX4_goalOfKick_5 rfl ?_
  refine lv_lconst (v := 1) hx hb dX4_goalOfKick_6 rfl ?_
  refine lv_land hx hb dX4_goalOfKick_7 ?_
  refine lv_l2i hx hb dX4_goalOfKick_8 rfl ?_
  exact zr_Ri hx hb hr hlocks hf dX4_goalOfKick_9

theorem hd_yX4_lead : hdY yX4_lead 0 := by decide +kernel
def Sh_lead (sh : Sh) : Int32 := ((sh_goalsOfA sh) - (sh_goalsOfB sh))
set_option maxHeartbeats 4000000 in
set_option maxRecDepth 100000 in
theorem ctX4_lead (l : Launch) (D : va_G) (ac cs : Nat → Nat) (q : Nat → Nat) (sh : Sh) (res : Int32) (hf : Sh_lead sh = res) : Met l yX4_lead (cWW yX4_lead cX4_lead 1 (some .int)) { frames := 0, cells := 0, slots := 0, locals := 0 } (zR D ac cs [.ref (q 0)] (shW ac q sh)) (vp_Si (fun r => r = res)) 0 0 (fun _ => False) := by
  refine Met.ofW (cc := cX4_lead) (maxL := 1) (ret := (some .int)) (by decide) rfl ?_
  intro p e s m args below meth c s₁ B hml hv
  obtain ⟨rfl, hP, hKX, hC⟩ := hv
  have hx := B.exec
  have hb := B.bytes
  have hr := B.returns
  have hts := atoms_spec (ws := cWW yX4_lead cX4_lead 1 (some .int)) B.pre
  have htw : ∀ w ∈ WW, w.before _ s = true := fun w h => hts w (List.mem_cons_of_mem _ h)
  have hown : s.vm.findClass RX4 = some m.cls := findClass_of_methodNamed B.named
  have hlocks := B.notSynchronized
  clear hts B
  have hS : va_S (fun _ => False) s.heap s.heap [] := va_S.rf
  have hl := lv_entry ([.ref (q 0)]) (n := 1) (Nat.le_of_ble_eq_true rfl)
  rw [lg_entry_eq]
  generalize (lg_sl ([.ref (q 0)]) ++ List.replicate (1 - (lg_sl ([.ref (q 0)])).length) Slot.unset).toArray = ls at hl ⊢
  have hl : lv_has ls 1 [(0, .ref (q 0))] := hl
  unfold Sh_lead at hf
  show W p l e ({ frames := 0, cells := 0, slots := 0, locals := 0 } : Room) s m _ below meth c s.heap [] 0 0 _ (F0 m 0 ls [])
  refine lv_aload_n hx hb dX4_lead_0 rfl (lv_at hl 0 rfl) ?_
  refine va_get (D := D) (ci := 4) (v := .int (sh_goalsOfA sh)) (C := RX4) (T := TX4) (N := 10) hx hb htw WW_wsX40 hown hKX.1 hP 0 rfl rfl 6 (Nat.le_of_ble_eq_true rfl) (htw _ mF_RX4_38) (fun _ h9 => h9) rfl dX4_lead_1 ?_
  refine lv_aload_n hx hb dX4_lead_4 rfl (lv_at hl 0 rfl) ?_
  refine va_get (D := D) (ci := 4) (v := .int (sh_goalsOfB sh)) (C := RX4) (T := TX4) (N := 10) hx hb htw WW_wsX40 hown hKX.1 hP 0 rfl rfl 7 (Nat.le_of_ble_eq_true rfl) (htw _ mF_RX4_41) (fun _ h9 => h9) rfl dX4_lead_5 ?_
  refine lv_isub hx hb dX4_lead_8 ?_
  exact zr_Ri hx hb hr hlocks hf dX4_lead_9

theorem hd_yX4_round : hdY yX4_round 0 := by decide +kernel
def Sh_round (sh : Sh) : Int32 := ((sh_kicks sh) / 2)
set_option maxHeartbeats 4000000 in
set_option maxRecDepth 100000 in
theorem ctX4_round (l : Launch) (D : va_G) (ac cs : Nat → Nat) (q : Nat → Nat) (sh : Sh) (res : Int32) (hf : Sh_round sh = res) : Met l yX4_round (cWW yX4_round cX4_round 1 (some .int)) { frames := 0, cells := 0, slots := 0, locals := 0 } (zR D ac cs [.ref (q 0)] (shW ac q sh)) (vp_Si (fun r => r = res)) 0 0 (fun _ => False) := by
  refine Met.ofW (cc := cX4_round) (maxL := 1) (ret := (some .int)) (by decide) rfl ?_
  intro p e s m args below meth c s₁ B hml hv
  obtain ⟨rfl, hP, hKX, hC⟩ := hv
  have hx := B.exec
  have hb := B.bytes
  have hr := B.returns
  have hts := atoms_spec (ws := cWW yX4_round cX4_round 1 (some .int)) B.pre
  have htw : ∀ w ∈ WW, w.before _ s = true := fun w h => hts w (List.mem_cons_of_mem _ h)
  have hown : s.vm.findClass RX4 = some m.cls := findClass_of_methodNamed B.named
  have hlocks := B.notSynchronized
  clear hts B
  have hS : va_S (fun _ => False) s.heap s.heap [] := va_S.rf
  have hl := lv_entry ([.ref (q 0)]) (n := 1) (Nat.le_of_ble_eq_true rfl)
  rw [lg_entry_eq]
  generalize (lg_sl ([.ref (q 0)]) ++ List.replicate (1 - (lg_sl ([.ref (q 0)])).length) Slot.unset).toArray = ls at hl ⊢
  have hl : lv_has ls 1 [(0, .ref (q 0))] := hl
  unfold Sh_round at hf
  show W p l e ({ frames := 0, cells := 0, slots := 0, locals := 0 } : Room) s m _ below meth c s.heap [] 0 0 _ (F0 m 0 ls [])
  refine lv_aload_n hx hb dX4_round_0 rfl (lv_at hl 0 rfl) ?_
  refine va_get (D := D) (ci := 4) (v := .int (sh_kicks sh)) (C := RX4) (T := TX4) (N := 10) hx hb htw WW_wsX40 hown hKX.1 hP 0 rfl rfl 3 (Nat.le_of_ble_eq_true rfl) (htw _ mF_RX4_28) (fun _ h9 => h9) rfl dX4_round_1 ?_
  refine lv_iconst (v := 2) hx hb dX4_round_4 rfl ?_
  refine lv_idiv hx hb dX4_round_5 (by decide) ?_
  exact zr_Ri hx hb hr hlocks hf dX4_round_6

theorem hd_yX4_shooter : hdY yX4_shooter 0 := by decide +kernel
def Sh_shooter (sh : Sh) : Int32 := if (sh_shooters sh) ≤ 0 then 0 else (z_rem (Sh_round sh) (sh_shooters sh))
set_option maxHeartbeats 4000000 in
set_option maxRecDepth 100000 in
theorem ctX4_shooter (l : Launch) (D : va_G) (ac cs : Nat → Nat) (q : Nat → Nat) (sh : Sh) (res : Int32) (hf : Sh_shooter sh = res) : Met l yX4_shooter (cWW yX4_shooter cX4_shooter 1 (some .int)) { frames := 1, cells := 0, slots := 0, locals := 20 } (zR D ac cs [.ref (q 0)] (shW ac q sh)) (vp_Si (fun r => r = res)) 0 0 (fun _ => False) := by
  refine Met.ofW (cc := cX4_shooter) (maxL := 1) (ret := (some .int)) (by decide) rfl ?_
  intro p e s m args below meth c s₁ B hml hv
  obtain ⟨rfl, hP, hKX, hC⟩ := hv
  have hx := B.exec
  have hb := B.bytes
  have hr := B.returns
  have hts := atoms_spec (ws := cWW yX4_shooter cX4_shooter 1 (some .int)) B.pre
  have htw : ∀ w ∈ WW, w.before _ s = true := fun w h => hts w (List.mem_cons_of_mem _ h)
  have hown : s.vm.findClass RX4 = some m.cls := findClass_of_methodNamed B.named
  have hlocks := B.notSynchronized
  clear hts B
  have hS : va_S (fun _ => False) s.heap s.heap [] := va_S.rf
  have hl := lv_entry ([.ref (q 0)]) (n := 1) (Nat.le_of_ble_eq_true rfl)
  rw [lg_entry_eq]
  generalize (lg_sl ([.ref (q 0)]) ++ List.replicate (1 - (lg_sl ([.ref (q 0)])).length) Slot.unset).toArray = ls at hl ⊢
  have hl : lv_has ls 1 [(0, .ref (q 0))] := hl
  unfold Sh_shooter at hf
  show W p l e ({ frames := 1, cells := 0, slots := 0, locals := 20 } : Room) s m _ below meth c s.heap [] 0 0 _ (F0 m 0 ls [])
  refine lv_aload_n hx hb dX4_shooter_0 rfl (lv_at hl 0 rfl) ?_
  refine va_get (D := D) (ci := 4) (v := .int (sh_shooters sh)) (C := RX4) (T := TX4) (N := 10) hx hb htw WW_wsX40 hown hKX.1 hP 0 rfl rfl 0 (Nat.le_of_ble_eq_true rfl) (htw _ mF_RX4_18) (fun _ h9 => h9) rfl dX4_shooter_1 ?_
  refine lv_if_le (tgt := 19) hx hb dX4_shooter_4 (by decide) (fun c1 => ?_) (fun c1 => ?_)
  · have hf := z_p c1 hf
    refine lv_iconst (v := 0) hx hb dX4_shooter_19 rfl ?_
    exact zr_Ri hx hb hr hlocks hf dX4_shooter_20
  · have hf := z_n c1 hf
    refine lv_aload_n hx hb dX4_shooter_7 rfl (lv_at hl 0 rfl) ?_
    refine zc_RVi (As := []) (rest := []) hx hb hml hown htw (ctX4_round l D ac cs q sh    _ rfl) (g_V mM_RX4_51 mI_yX4_round mS_RX4_yX4_round_yX4_round mN_RX4 mC_yX4_round) rfl (hd_yX4_round) ⟨rfl, rfl⟩ ⟨(Nat.le_of_ble_eq_true rfl), (Nat.le_of_ble_eq_true rfl)⟩ hKX hC hS hP 4 rfl rfl rfl hl.1 rfl (Nat.le_of_ble_eq_true rfl) ⟨Nat.zero_le _, Nat.zero_le _⟩ dX4_shooter_8 ?_
    refine lv_aload_n hx hb dX4_shooter_11 rfl (lv_at hl 0 rfl) ?_
    refine va_get (D := D) (ci := 4) (v := .int (sh_shooters sh)) (C := RX4) (T := TX4) (N := 10) hx hb htw WW_wsX40 hown hKX.1 hP 0 rfl rfl 0 (Nat.le_of_ble_eq_true rfl) (htw _ mF_RX4_18) (fun _ h9 => h9) rfl dX4_shooter_12 ?_
    refine zv_irem hx hb dX4_shooter_15 (z_npos c1) ?_
    refine lv_goto (tgt := 20) hx hb dX4_shooter_16 (by decide) ?_
    exact zr_Ri hx hb hr hlocks hf dX4_shooter_20

theorem hd_yX4_chanceOf : hdY yX4_chanceOf 3 := by decide +kernel
def Sh_chanceOf (sh : Sh) (a1 : Int32) (a2 : Int32) (a3 : Int32) : Int32 := z_let (Sh_skillOf sh a1 a2) (fun x1 : Int32 => z_let (if a3 = 0 then x1 else (if a3 ≤ 0 then (x1 + (Sh_nerveOf sh a1 0)) else (x1 + (Sh_nerveOf sh a1 1)))) (fun v2 : Int32 => if 0 ≤ v2 then (if v2 ≤ 6 then v2 else 6) else 0))
set_option maxHeartbeats 4000000 in
set_option maxRecDepth 100000 in
theorem ctX4_chanceOf (l : Launch) (D : va_G) (ac cs : Nat → Nat) (q : Nat → Nat) (sh : Sh) (a1 : Int32) (a2 : Int32) (a3 : Int32) (res : Int32) (hf : Sh_chanceOf sh a1 a2 a3 = res) : Met l yX4_chanceOf (cWW yX4_chanceOf cX4_chanceOf 5 (some .int)) { frames := 1, cells := 0, slots := 0, locals := 23 } (zR D ac cs [.ref (q 0), .int a1, .int a2, .int a3] (shW ac q sh)) (vp_Si (fun r => r = res)) 0 0 (fun _ => False) := by
  refine Met.ofW (cc := cX4_chanceOf) (maxL := 5) (ret := (some .int)) (by decide) rfl ?_
  intro p e s m args below meth c s₁ B hml hv
  obtain ⟨rfl, hP, hKX, hC⟩ := hv
  have hx := B.exec
  have hb := B.bytes
  have hr := B.returns
  have hts := atoms_spec (ws := cWW yX4_chanceOf cX4_chanceOf 5 (some .int)) B.pre
  have htw : ∀ w ∈ WW, w.before _ s = true := fun w h => hts w (List.mem_cons_of_mem _ h)
  have hown : s.vm.findClass RX4 = some m.cls := findClass_of_methodNamed B.named
  have hlocks := B.notSynchronized
  clear hts B
  have hS : va_S (fun _ => False) s.heap s.heap [] := va_S.rf
  have hl := lv_entry ([.ref (q 0), .int a1, .int a2, .int a3]) (n := 5) (Nat.le_of_ble_eq_true rfl)
  rw [lg_entry_eq]
  generalize (lg_sl ([.ref (q 0), .int a1, .int a2, .int a3]) ++ List.replicate (5 - (lg_sl ([.ref (q 0), .int a1, .int a2, .int a3])).length) Slot.unset).toArray = ls at hl ⊢
  have hl : lv_has ls 5 [(0, .ref (q 0)), (1, .int a1), (2, .int a2), (3, .int a3)] := hl
  unfold Sh_chanceOf at hf
  show W p l e ({ frames := 1, cells := 0, slots := 0, locals := 23 } : Room) s m _ below meth c s.heap [] 0 0 _ (F0 m 0 ls [])
  refine lv_aload_n hx hb dX4_chanceOf_0 rfl (lv_at hl 0 rfl) ?_
  refine lv_iload_n hx hb dX4_chanceOf_1 rfl (lv_at hl 1 rfl) ?_
  refine lv_iload_n hx hb dX4_chanceOf_2 rfl (lv_at hl 2 rfl) ?_
  refine zc_RVi (As := [.int a1, .int a2]) (rest := []) hx hb hml hown htw (ctX4_skillOf l D ac cs q sh a1 a2   _ rfl) (g_V mM_RX4_55 mI_yX4_skillOf mS_RX4_yX4_skillOf_yX4_skillOf mN_RX4 mC_yX4_skillOf) rfl (hd_yX4_skillOf) ⟨rfl, rfl⟩ ⟨(Nat.le_of_ble_eq_true rfl), (Nat.le_of_ble_eq_true rfl)⟩ hKX hC hS hP 4 rfl rfl rfl hl.1 rfl (Nat.le_of_ble_eq_true rfl) ⟨Nat.zero_le _, Nat.zero_le _⟩ dX4_chanceOf_3 ?_
  refine lv_topi (fun x1 hx1 => ?_)
  have hf := z_let_u hx1 hf
  refine lv_istore (lv' := [(4, .int x1), (0, .ref (q 0)), (1, .int a1), (2, .int a2), (3, .int a3)]) hx hb dX4_chanceOf_6 hl (Nat.le_of_ble_eq_true rfl) rfl (fun ls hl => ?_)
  refine lv_iload_n hx hb dX4_chanceOf_8 rfl (lv_at hl 4 rfl) ?_
  have hj4 : ∀ (v2 : Int32), v2 = (if a3 = 0 then x1 else (if a3 ≤ 0 then (x1 + (Sh_nerveOf sh a1 0)) else (x1 + (Sh_nerveOf sh a1 1)))) → ∀ (ls : Array Slot), lv_has ls 5 [(4, .int v2)] → W p l e ({ frames := 1, cells := 0, slots := 0, locals := 23 } : Room) s m (([.ref (q 0), .int a1, .int a2, .int a3] : List Value).toArray) below meth c s.heap [] 0 0 (MQ below (vp_Si (fun r => r = res)) ([.ref (q 0), .int a1, .int a2, .int a3] : List Value).toArray s 0 0 (fun _ => False)) (F0 m 31 ls []) := by
    intro v2 hv2 ls hl
    have hf := z_let_u hv2 hf
    refine lv_iload hx hb dX4_chanceOf_31 (lv_at hl 0 rfl) ?_
    refine lv_if_ge (tgt := 40) hx hb dX4_chanceOf_33 (by decide) (fun c7 => ?_) (fun c7 => ?_)
    · have hf := z_p c7 hf
      refine lv_iload hx hb dX4_chanceOf_40 (lv_at hl 0 rfl) ?_
      refine lv_bipush (v := 6) hx hb dX4_chanceOf_42 rfl ?_
      refine lv_icmp_le (tgt := 52) hx hb dX4_chanceOf_44 (by decide) (fun c8 => ?_) (fun c8 => ?_)
      · have hf := z_p c8 hf
        refine lv_iload hx hb dX4_chanceOf_52 (lv_at hl 0 rfl) ?_
        exact zr_Ri hx hb hr hlocks hf dX4_chanceOf_54
      · have hf := z_n c8 hf
        refine lv_bipush (v := 6) hx hb dX4_chanceOf_47 rfl ?_
        refine lv_goto (tgt := 54) hx hb dX4_chanceOf_49 (by decide) ?_
        exact zr_Ri hx hb hr hlocks hf dX4_chanceOf_54
    · have hf := z_n c7 hf
      refine lv_iconst (v := 0) hx hb dX4_chanceOf_36 rfl ?_
      refine lv_goto (tgt := 54) hx hb dX4_chanceOf_37 (by decide) ?_
      exact zr_Ri hx hb hr hlocks hf dX4_chanceOf_54
  refine lv_if_eq (tgt := 31) hx hb dX4_chanceOf_9 (by decide) (fun c5 => ?_) (fun c5 => ?_)
  · skip
    exact hj4 x1 (if_pos c5).symm ls (lv_sub hl [0] rfl)
  · skip
    refine lv_iload hx hb dX4_chanceOf_12 (lv_at hl 0 rfl) ?_
    refine lv_aload_n hx hb dX4_chanceOf_14 rfl (lv_at hl 1 rfl) ?_
    refine lv_iload_n hx hb dX4_chanceOf_15 rfl (lv_at hl 2 rfl) ?_
    refine lv_iload_n hx hb dX4_chanceOf_16 rfl (lv_at hl 4 rfl) ?_
    refine lv_if_le (tgt := 24) hx hb dX4_chanceOf_17 (by decide) (fun c6 => ?_) (fun c6 => ?_)
    · skip
      refine lv_iconst (v := 0) hx hb dX4_chanceOf_24 rfl ?_
      refine zc_RVi (As := [.int a1, .int 0]) (rest := [.int x1]) hx hb hml hown htw (ctX4_nerveOf l D ac cs q sh a1 0   _ rfl) (g_V mM_RX4_59 mI_yX4_nerveOf mS_RX4_yX4_nerveOf_yX4_nerveOf mN_RX4 mC_yX4_nerveOf) rfl (hd_yX4_nerveOf) ⟨rfl, rfl⟩ ⟨(Nat.le_of_ble_eq_true rfl), (Nat.le_of_ble_eq_true rfl)⟩ hKX hC hS hP 4 rfl rfl rfl hl.1 rfl (Nat.le_of_ble_eq_true rfl) ⟨Nat.zero_le _, Nat.zero_le _⟩ dX4_chanceOf_25 ?_
      refine lv_iadd hx hb dX4_chanceOf_28 ?_
      refine lv_istore (lv' := [(4, .int (x1 + (Sh_nerveOf sh a1 0))), (0, .ref (q 0)), (1, .int a1), (2, .int a2), (3, .int a3)]) hx hb dX4_chanceOf_29 hl (Nat.le_of_ble_eq_true rfl) rfl (fun ls hl => ?_)
      exact hj4 (x1 + (Sh_nerveOf sh a1 0)) ((if_neg c5).trans (if_pos c6)).symm ls (lv_sub hl [0] rfl)
    · skip
      refine lv_iconst (v := 1) hx hb dX4_chanceOf_20 rfl ?_
      refine lv_goto (tgt := 25) hx hb dX4_chanceOf_21 (by decide) ?_
      refine zc_RVi (As := [.int a1, .int 1]) (rest := [.int x1]) hx hb hml hown htw (ctX4_nerveOf l D ac cs q sh a1 1   _ rfl) (g_V mM_RX4_59 mI_yX4_nerveOf mS_RX4_yX4_nerveOf_yX4_nerveOf mN_RX4 mC_yX4_nerveOf) rfl (hd_yX4_nerveOf) ⟨rfl, rfl⟩ ⟨(Nat.le_of_ble_eq_true rfl), (Nat.le_of_ble_eq_true rfl)⟩ hKX hC hS hP 4 rfl rfl rfl hl.1 rfl (Nat.le_of_ble_eq_true rfl) ⟨Nat.zero_le _, Nat.zero_le _⟩ dX4_chanceOf_25 ?_
      refine lv_iadd hx hb dX4_chanceOf_28 ?_
      refine lv_istore (lv' := [(4, .int (x1 + (Sh_nerveOf sh a1 1))), (0, .ref (q 0)), (1, .int a1), (2, .int a2), (3, .int a3)]) hx hb dX4_chanceOf_29 hl (Nat.le_of_ble_eq_true rfl) rfl (fun ls hl => ?_)
      exact hj4 (x1 + (Sh_nerveOf sh a1 1)) ((if_neg c5).trans (if_neg c6)).symm ls (lv_sub hl [0] rfl)

theorem hd_yX4_leaderOf : hdY yX4_leaderOf 3 := by decide +kernel
def Sh_leaderOf (sh : Sh) (a1 : Int32) (a2 : Int32) (a3 : Int32) : Int32 := if a1 = 0 then (sh_first sh) else (if a1 < (sh_shooters sh) then (if (sh_order sh) = 1 then (if (z_rem a1 2) = 0 then (sh_first sh) else (1 - (sh_first sh))) else (if (sh_order sh) = 2 then (if (z_rem (Int_bitCount_0f7a4 a1) 2) = 0 then (sh_first sh) else (1 - (sh_first sh))) else (if (sh_order sh) = 3 then (if 0 ≤ a2 then (if a2 ≤ 0 then (1 - a3) else 1) else 0) else (sh_first sh)))) else (sh_first sh))
set_option maxHeartbeats 4000000 in
set_option maxRecDepth 100000 in
theorem ctX4_leaderOf (l : Launch) (D : va_G) (ac cs : Nat → Nat) (q : Nat → Nat) (sh : Sh) (a1 : Int32) (a2 : Int32) (a3 : Int32) (res : Int32) (hf : Sh_leaderOf sh a1 a2 a3 = res) : Met l yX4_leaderOf (cWW yX4_leaderOf cX4_leaderOf 4 (some .int)) { frames := 1, cells := 0, slots := 0, locals := 20 } (zR D ac cs [.ref (q 0), .int a1, .int a2, .int a3] (shW ac q sh)) (vp_Si (fun r => r = res)) 0 0 (fun _ => False) := by
  refine Met.ofW (cc := cX4_leaderOf) (maxL := 4) (ret := (some .int)) (by decide) rfl ?_
  intro p e s m args below meth c s₁ B hml hv
  obtain ⟨rfl, hP, hKX, hC⟩ := hv
  have hx := B.exec
  have hb := B.bytes
  have hr := B.returns
  have hts := atoms_spec (ws := cWW yX4_leaderOf cX4_leaderOf 4 (some .int)) B.pre
  have htw : ∀ w ∈ WW, w.before _ s = true := fun w h => hts w (List.mem_cons_of_mem _ h)
  have hown : s.vm.findClass RX4 = some m.cls := findClass_of_methodNamed B.named
  have hlocks := B.notSynchronized
  clear hts B
  have hS : va_S (fun _ => False) s.heap s.heap [] := va_S.rf
  have hl := lv_entry ([.ref (q 0), .int a1, .int a2, .int a3]) (n := 4) (Nat.le_of_ble_eq_true rfl)
  rw [lg_entry_eq]
  generalize (lg_sl ([.ref (q 0), .int a1, .int a2, .int a3]) ++ List.replicate (4 - (lg_sl ([.ref (q 0), .int a1, .int a2, .int a3])).length) Slot.unset).toArray = ls at hl ⊢
  have hl : lv_has ls 4 [(0, .ref (q 0)), (1, .int a1), (2, .int a2), (3, .int a3)] := hl
  unfold Sh_leaderOf at hf
  show W p l e ({ frames := 1, cells := 0, slots := 0, locals := 20 } : Room) s m _ below meth c s.heap [] 0 0 _ (F0 m 0 ls [])
  refine lv_iload_n hx hb dX4_leaderOf_0 rfl (lv_at hl 1 rfl) ?_
  refine lv_if_eq (tgt := 12) hx hb dX4_leaderOf_1 (by decide) (fun c1 => ?_) (fun c1 => ?_)
  · have hf := z_p c1 hf
    refine lv_aload_n hx hb dX4_leaderOf_12 rfl (lv_at hl 0 rfl) ?_
    refine va_get (D := D) (ci := 4) (v := .int (sh_first sh)) (C := RX4) (T := TX4) (N := 10) hx hb htw WW_wsX40 hown hKX.1 hP 0 rfl rfl 2 (Nat.le_of_ble_eq_true rfl) (htw _ mF_RX4_25) (fun _ h9 => h9) rfl dX4_leaderOf_13 ?_
    exact zr_Ri hx hb hr hlocks hf dX4_leaderOf_16
  · have hf := z_n c1 hf
    refine lv_iload_n hx hb dX4_leaderOf_4 rfl (lv_at hl 1 rfl) ?_
    refine lv_aload_n hx hb dX4_leaderOf_5 rfl (lv_at hl 0 rfl) ?_
    refine va_get (D := D) (ci := 4) (v := .int (sh_shooters sh)) (C := RX4) (T := TX4) (N := 10) hx hb htw WW_wsX40 hown hKX.1 hP 0 rfl rfl 0 (Nat.le_of_ble_eq_true rfl) (htw _ mF_RX4_18) (fun _ h9 => h9) rfl dX4_leaderOf_6 ?_
    refine lv_icmp_lt (tgt := 17) hx hb dX4_leaderOf_9 (by decide) (fun c2 => ?_) (fun c2 => ?_)
    · have hf := z_p c2 hf
      refine lv_aload_n hx hb dX4_leaderOf_17 rfl (lv_at hl 0 rfl) ?_
      refine va_get (D := D) (ci := 4) (v := .int (sh_order sh)) (C := RX4) (T := TX4) (N := 10) hx hb htw WW_wsX40 hown hKX.1 hP 0 rfl rfl 1 (Nat.le_of_ble_eq_true rfl) (htw _ mF_RX4_22) (fun _ h9 => h9) rfl dX4_leaderOf_18 ?_
      by_cases c3 : (sh_order sh) = 1
      · have hf := z_p c3 hf
        refine lv_tableIn (tgt := 48) hx hb dX4_leaderOf_21 (by rw [c3]; decide +kernel) (by rw [c3]; decide +kernel) (by rw [c3]; rfl) (by decide +kernel) ?_
        refine lv_iload_n hx hb dX4_leaderOf_48 rfl (lv_at hl 1 rfl) ?_
        refine lv_iconst (v := 2) hx hb dX4_leaderOf_49 rfl ?_
        refine zv_irem hx hb dX4_leaderOf_50 (by decide) ?_
        refine lv_if_ne (tgt := 61) hx hb dX4_leaderOf_51 (by decide) (fun c4 => ?_) (fun c4 => ?_)
        · have hf := z_n c4 hf
          refine lv_iconst (v := 1) hx hb dX4_leaderOf_61 rfl ?_
          refine lv_aload_n hx hb dX4_leaderOf_62 rfl (lv_at hl 0 rfl) ?_
          refine va_get (D := D) (ci := 4) (v := .int (sh_first sh)) (C := RX4) (T := TX4) (N := 10) hx hb htw WW_wsX40 hown hKX.1 hP 0 rfl rfl 2 (Nat.le_of_ble_eq_true rfl) (htw _ mF_RX4_25) (fun _ h9 => h9) rfl dX4_leaderOf_63 ?_
          refine lv_isub hx hb dX4_leaderOf_66 ?_
          exact zr_Ri hx hb hr hlocks hf dX4_leaderOf_67
        · have hf := z_p c4 hf
          refine lv_aload_n hx hb dX4_leaderOf_54 rfl (lv_at hl 0 rfl) ?_
          refine va_get (D := D) (ci := 4) (v := .int (sh_first sh)) (C := RX4) (T := TX4) (N := 10) hx hb htw WW_wsX40 hown hKX.1 hP 0 rfl rfl 2 (Nat.le_of_ble_eq_true rfl) (htw _ mF_RX4_25) (fun _ h9 => h9) rfl dX4_leaderOf_55 ?_
          refine lv_goto (tgt := 67) hx hb dX4_leaderOf_58 (by decide) ?_
          exact zr_Ri hx hb hr hlocks hf dX4_leaderOf_67
      have hf := z_n c3 hf
      by_cases c5 : (sh_order sh) = 2
      · have hf := z_p c5 hf
        refine lv_tableIn (tgt := 68) hx hb dX4_leaderOf_21 (by rw [c5]; decide +kernel) (by rw [c5]; decide +kernel) (by rw [c5]; rfl) (by decide +kernel) ?_
        refine lv_iload_n hx hb dX4_leaderOf_68 rfl (lv_at hl 1 rfl) ?_
        refine zc_RSi (As := [.int a1]) (rest := []) hx hb hml hown htw (ctJ6_bitCount_0f7a4 l D ac cs   a1   _ rfl) (g_S mM_RX4_63 mT_yJ6_bitCount_0f7a4 mN_RJ6 mC_yJ6_bitCount_0f7a4) (hd_yJ6_bitCount_0f7a4) ⟨rfl, rfl⟩ ⟨(Nat.le_of_ble_eq_true rfl), (Nat.le_of_ble_eq_true rfl)⟩ hKX hC hS zP0 rfl hl.1 rfl (Nat.le_of_ble_eq_true rfl) ⟨Nat.zero_le _, Nat.zero_le _⟩ dX4_leaderOf_69 ?_
        refine lv_iconst (v := 2) hx hb dX4_leaderOf_72 rfl ?_
        refine zv_irem hx hb dX4_leaderOf_73 (by decide) ?_
        refine lv_if_ne (tgt := 84) hx hb dX4_leaderOf_74 (by decide) (fun c6 => ?_) (fun c6 => ?_)
        · have hf := z_n c6 hf
          refine lv_iconst (v := 1) hx hb dX4_leaderOf_84 rfl ?_
          refine lv_aload_n hx hb dX4_leaderOf_85 rfl (lv_at hl 0 rfl) ?_
          refine va_get (D := D) (ci := 4) (v := .int (sh_first sh)) (C := RX4) (T := TX4) (N := 10) hx hb htw WW_wsX40 hown hKX.1 hP 0 rfl rfl 2 (Nat.le_of_ble_eq_true rfl) (htw _ mF_RX4_25) (fun _ h9 => h9) rfl dX4_leaderOf_86 ?_
          refine lv_isub hx hb dX4_leaderOf_89 ?_
          exact zr_Ri hx hb hr hlocks hf dX4_leaderOf_90
        · have hf := z_p c6 hf
          refine lv_aload_n hx hb dX4_leaderOf_77 rfl (lv_at hl 0 rfl) ?_
          refine va_get (D := D) (ci := 4) (v := .int (sh_first sh)) (C := RX4) (T := TX4) (N := 10) hx hb htw WW_wsX40 hown hKX.1 hP 0 rfl rfl 2 (Nat.le_of_ble_eq_true rfl) (htw _ mF_RX4_25) (fun _ h9 => h9) rfl dX4_leaderOf_78 ?_
          refine lv_goto (tgt := 90) hx hb dX4_leaderOf_81 (by decide) ?_
          exact zr_Ri hx hb hr hlocks hf dX4_leaderOf_90
      have hf := z_n c5 hf
      by_cases c7 : (sh_order sh) = 3
      · have hf := z_p c7 hf
        refine lv_tableIn (tgt := 91) hx hb dX4_leaderOf_21 (by rw [c7]; decide +kernel) (by rw [c7]; decide +kernel) (by rw [c7]; rfl) (by decide +kernel) ?_
        refine lv_iload_n hx hb dX4_leaderOf_91 rfl (lv_at hl 2 rfl) ?_
        refine lv_if_ge (tgt := 99) hx hb dX4_leaderOf_92 (by decide) (fun c8 => ?_) (fun c8 => ?_)
        · have hf := z_p c8 hf
          refine lv_iload_n hx hb dX4_leaderOf_99 rfl (lv_at hl 2 rfl) ?_
          refine lv_if_le (tgt := 107) hx hb dX4_leaderOf_100 (by decide) (fun c9 => ?_) (fun c9 => ?_)
          · have hf := z_p c9 hf
            refine lv_iconst (v := 1) hx hb dX4_leaderOf_107 rfl ?_
            refine lv_iload_n hx hb dX4_leaderOf_108 rfl (lv_at hl 3 rfl) ?_
            refine lv_isub hx hb dX4_leaderOf_109 ?_
            exact zr_Ri hx hb hr hlocks hf dX4_leaderOf_110
          · have hf := z_n c9 hf
            refine lv_iconst (v := 1) hx hb dX4_leaderOf_103 rfl ?_
            refine lv_goto (tgt := 110) hx hb dX4_leaderOf_104 (by decide) ?_
            exact zr_Ri hx hb hr hlocks hf dX4_leaderOf_110
        · have hf := z_n c8 hf
          refine lv_iconst (v := 0) hx hb dX4_leaderOf_95 rfl ?_
          refine lv_goto (tgt := 110) hx hb dX4_leaderOf_96 (by decide) ?_
          exact zr_Ri hx hb hr hlocks hf dX4_leaderOf_110
      have hf := z_n c7 hf
      refine lv_tableOut (tgt := 111) hx hb dX4_leaderOf_21 (z_tout1_3 c3 c5 c7) (by decide +kernel) ?_
      refine lv_aload_n hx hb dX4_leaderOf_111 rfl (lv_at hl 0 rfl) ?_
      refine va_get (D := D) (ci := 4) (v := .int (sh_first sh)) (C := RX4) (T := TX4) (N := 10) hx hb htw WW_wsX40 hown hKX.1 hP 0 rfl rfl 2 (Nat.le_of_ble_eq_true rfl) (htw _ mF_RX4_25) (fun _ h9 => h9) rfl dX4_leaderOf_112 ?_
      exact zr_Ri hx hb hr hlocks hf dX4_leaderOf_115
    · have hf := z_n c2 hf
      refine lv_aload_n hx hb dX4_leaderOf_12 rfl (lv_at hl 0 rfl) ?_
      refine va_get (D := D) (ci := 4) (v := .int (sh_first sh)) (C := RX4) (T := TX4) (N := 10) hx hb htw WW_wsX40 hown hKX.1 hP 0 rfl rfl 2 (Nat.le_of_ble_eq_true rfl) (htw _ mF_RX4_25) (fun _ h9 => h9) rfl dX4_leaderOf_13 ?_
      exact zr_Ri hx hb hr hlocks hf dX4_leaderOf_16

theorem hd_yX4_isOverAt : hdY yX4_isOverAt 3 := by decide +kernel
def Sh_isOverAt (sh : Sh) (a1 : Int32) (a2 : Int32) (a3 : Int32) : Int32 := if a1 ≤ (2 * (sh_shooters sh)) then (z_let ((sh_shooters sh) - ((a1 + 1) / 2)) (fun x2 : Int32 => z_let ((sh_shooters sh) - (a1 / 2)) (fun x3 : Int32 => z_let (if a3 = 0 then a2 else (-a2)) (fun v4 : Int32 => if x3 < v4 then 1 else (if (-v4) ≤ x2 then 0 else 1))))) else (if (z_rem a1 2) = 0 then (if a2 = 0 then 0 else 1) else 0)
set_option maxHeartbeats 4000000 in
set_option maxRecDepth 100000 in
theorem ctX4_isOverAt (l : Launch) (D : va_G) (ac cs : Nat → Nat) (q : Nat → Nat) (sh : Sh) (a1 : Int32) (a2 : Int32) (a3 : Int32) (res : Int32) (hf : Sh_isOverAt sh a1 a2 a3 = res) : Met l yX4_isOverAt (cWW yX4_isOverAt cX4_isOverAt 7 (some .boolean)) { frames := 0, cells := 0, slots := 0, locals := 0 } (zR D ac cs [.ref (q 0), .int a1, .int a2, .int a3] (shW ac q sh)) (vp_Si (fun r => r = res)) 0 0 (fun _ => False) := by
  refine Met.ofW (cc := cX4_isOverAt) (maxL := 7) (ret := (some .boolean)) (by decide) rfl ?_
  intro p e s m args below meth c s₁ B hml hv
  obtain ⟨rfl, hP, hKX, hC⟩ := hv
  have hx := B.exec
  have hb := B.bytes
  have hr := B.returns
  have hts := atoms_spec (ws := cWW yX4_isOverAt cX4_isOverAt 7 (some .boolean)) B.pre
  have htw : ∀ w ∈ WW, w.before _ s = true := fun w h => hts w (List.mem_cons_of_mem _ h)
  have hown : s.vm.findClass RX4 = some m.cls := findClass_of_methodNamed B.named
  have hlocks := B.notSynchronized
  clear hts B
  have hS : va_S (fun _ => False) s.heap s.heap [] := va_S.rf
  have hl := lv_entry ([.ref (q 0), .int a1, .int a2, .int a3]) (n := 7) (Nat.le_of_ble_eq_true rfl)
  rw [lg_entry_eq]
  generalize (lg_sl ([.ref (q 0), .int a1, .int a2, .int a3]) ++ List.replicate (7 - (lg_sl ([.ref (q 0), .int a1, .int a2, .int a3])).length) Slot.unset).toArray = ls at hl ⊢
  have hl : lv_has ls 7 [(0, .ref (q 0)), (1, .int a1), (2, .int a2), (3, .int a3)] := hl
  unfold Sh_isOverAt at hf
  show W p l e ({ frames := 0, cells := 0, slots := 0, locals := 0 } : Room) s m _ below meth c s.heap [] 0 0 _ (F0 m 0 ls [])
  refine lv_iload_n hx hb dX4_isOverAt_0 rfl (lv_at hl 1 rfl) ?_
  refine lv_iconst (v := 2) hx hb dX4_isOverAt_1 rfl ?_
  refine lv_aload_n hx hb dX4_isOverAt_2 rfl (lv_at hl 0 rfl) ?_
  refine va_get (D := D) (ci := 4) (v := .int (sh_shooters sh)) (C := RX4) (T := TX4) (N := 10) hx hb htw WW_wsX40 hown hKX.1 hP 0 rfl rfl 0 (Nat.le_of_ble_eq_true rfl) (htw _ mF_RX4_18) (fun _ h9 => h9) rfl dX4_isOverAt_3 ?_
  refine lv_imul hx hb dX4_isOverAt_6 ?_
  refine lv_icmp_le (tgt := 26) hx hb dX4_isOverAt_7 (by decide) (fun c1 => ?_) (fun c1 => ?_)
  · have hf := z_p c1 hf
    refine lv_aload_n hx hb dX4_isOverAt_26 rfl (lv_at hl 0 rfl) ?_
    refine va_get (D := D) (ci := 4) (v := .int (sh_shooters sh)) (C := RX4) (T := TX4) (N := 10) hx hb htw WW_wsX40 hown hKX.1 hP 0 rfl rfl 0 (Nat.le_of_ble_eq_true rfl) (htw _ mF_RX4_18) (fun _ h9 => h9) rfl dX4_isOverAt_27 ?_
    refine lv_iload_n hx hb dX4_isOverAt_30 rfl (lv_at hl 1 rfl) ?_
    refine lv_iconst (v := 1) hx hb dX4_isOverAt_31 rfl ?_
    refine lv_iadd hx hb dX4_isOverAt_32 ?_
    refine lv_iconst (v := 2) hx hb dX4_isOverAt_33 rfl ?_
    refine lv_idiv hx hb dX4_isOverAt_34 (by decide) ?_
    refine lv_isub hx hb dX4_isOverAt_35 ?_
    refine lv_topi (fun x2 hx2 => ?_)
    have hf := z_let_u hx2 hf
    refine lv_istore (lv' := [(4, .int x2), (0, .ref (q 0)), (1, .int a1), (2, .int a2), (3, .int a3)]) hx hb dX4_isOverAt_36 hl (Nat.le_of_ble_eq_true rfl) rfl (fun ls hl => ?_)
    refine lv_aload_n hx hb dX4_isOverAt_38 rfl (lv_at hl 1 rfl) ?_
    refine va_get (D := D) (ci := 4) (v := .int (sh_shooters sh)) (C := RX4) (T := TX4) (N := 10) hx hb htw WW_wsX40 hown hKX.1 hP 0 rfl rfl 0 (Nat.le_of_ble_eq_true rfl) (htw _ mF_RX4_18) (fun _ h9 => h9) rfl dX4_isOverAt_39 ?_
    refine lv_iload_n hx hb dX4_isOverAt_42 rfl (lv_at hl 2 rfl) ?_
    refine lv_iconst (v := 2) hx hb dX4_isOverAt_43 rfl ?_
    refine lv_idiv hx hb dX4_isOverAt_44 (by decide) ?_
    refine lv_isub hx hb dX4_isOverAt_45 ?_
    refine lv_topi (fun x3 hx3 => ?_)
    have hf := z_let_u hx3 hf
    refine lv_istore (lv' := [(5, .int x3), (4, .int x2), (0, .ref (q 0)), (1, .int a1), (2, .int a2), (3, .int a3)]) hx hb dX4_isOverAt_46 hl (Nat.le_of_ble_eq_true rfl) rfl (fun ls hl => ?_)
    refine lv_iload_n hx hb dX4_isOverAt_48 rfl (lv_at hl 5 rfl) ?_
    have hj6 : ∀ (v4 : Int32), v4 = (if a3 = 0 then a2 else (-a2)) → ∀ (ls : Array Slot), lv_has ls 7 [(4, .int x2), (5, .int x3)] → W p l e ({ frames := 0, cells := 0, slots := 0, locals := 0 } : Room) s m (([.ref (q 0), .int a1, .int a2, .int a3] : List Value).toArray) below meth c s.heap [] 0 0 (MQ below (vp_Si (fun r => r = res)) ([.ref (q 0), .int a1, .int a2, .int a3] : List Value).toArray s 0 0 (fun _ => False)) (F0 m 58 ls [.int v4]) := by
      intro v4 hv4 ls hl
      have hf := z_let_u hv4 hf
      refine lv_istore (lv' := [(6, .int v4), (4, .int x2), (5, .int x3)]) hx hb dX4_isOverAt_58 hl (Nat.le_of_ble_eq_true rfl) rfl (fun ls hl => ?_)
      refine lv_iload hx hb dX4_isOverAt_60 (lv_at hl 0 rfl) ?_
      refine lv_iload hx hb dX4_isOverAt_62 (lv_at hl 2 rfl) ?_
      refine lv_icmp_gt (tgt := 75) hx hb dX4_isOverAt_64 (by decide) (fun c8 => ?_) (fun c8 => ?_)
      · have hf := z_p c8 hf
        refine lv_iconst (v := 1) hx hb dX4_isOverAt_75 rfl ?_
        refine lv_goto (tgt := 80) hx hb dX4_isOverAt_76 (by decide) ?_
        exact zr_Rz hx hb hr hlocks (z_b_n z_b1) hf dX4_isOverAt_80
      · have hf := z_n c8 hf
        refine lv_iload hx hb dX4_isOverAt_67 (lv_at hl 0 rfl) ?_
        refine lv_ineg hx hb dX4_isOverAt_69 ?_
        refine lv_iload hx hb dX4_isOverAt_70 (lv_at hl 1 rfl) ?_
        refine lv_icmp_le (tgt := 79) hx hb dX4_isOverAt_72 (by decide) (fun c9 => ?_) (fun c9 => ?_)
        · have hf := z_p c9 hf
          refine lv_iconst (v := 0) hx hb dX4_isOverAt_79 rfl ?_
          exact zr_Rz hx hb hr hlocks (z_b_n z_b0) hf dX4_isOverAt_80
        · have hf := z_n c9 hf
          refine lv_iconst (v := 1) hx hb dX4_isOverAt_75 rfl ?_
          refine lv_goto (tgt := 80) hx hb dX4_isOverAt_76 (by decide) ?_
          exact zr_Rz hx hb hr hlocks (z_b_n z_b1) hf dX4_isOverAt_80
    refine lv_if_ne (tgt := 56) hx hb dX4_isOverAt_49 (by decide) (fun c7 => ?_) (fun c7 => ?_)
    · skip
      refine lv_iload_n hx hb dX4_isOverAt_56 rfl (lv_at hl 4 rfl) ?_
      refine lv_ineg hx hb dX4_isOverAt_57 ?_
      exact hj6 (-a2) (if_neg c7).symm ls (lv_sub hl [1, 0] rfl)
    · skip
      refine lv_iload_n hx hb dX4_isOverAt_52 rfl (lv_at hl 4 rfl) ?_
      refine lv_goto (tgt := 58) hx hb dX4_isOverAt_53 (by decide) ?_
      exact hj6 a2 (if_pos c7).symm ls (lv_sub hl [1, 0] rfl)
  · have hf := z_n c1 hf
    refine lv_iload_n hx hb dX4_isOverAt_10 rfl (lv_at hl 1 rfl) ?_
    refine lv_iconst (v := 2) hx hb dX4_isOverAt_11 rfl ?_
    refine zv_irem hx hb dX4_isOverAt_12 (by decide) ?_
    refine lv_if_ne (tgt := 24) hx hb dX4_isOverAt_13 (by decide) (fun c10 => ?_) (fun c10 => ?_)
    · have hf := z_n c10 hf
      refine lv_iconst (v := 0) hx hb dX4_isOverAt_24 rfl ?_
      exact zr_Rz hx hb hr hlocks (z_b_n z_b0) hf dX4_isOverAt_25
    · have hf := z_p c10 hf
      refine lv_iload_n hx hb dX4_isOverAt_16 rfl (lv_at hl 2 rfl) ?_
      refine lv_if_eq (tgt := 24) hx hb dX4_isOverAt_17 (by decide) (fun c11 => ?_) (fun c11 => ?_)
      · have hf := z_p c11 hf
        refine lv_iconst (v := 0) hx hb dX4_isOverAt_24 rfl ?_
        exact zr_Rz hx hb hr hlocks (z_b_n z_b0) hf dX4_isOverAt_25
      · have hf := z_n c11 hf
        refine lv_iconst (v := 1) hx hb dX4_isOverAt_20 rfl ?_
        refine lv_goto (tgt := 25) hx hb dX4_isOverAt_21 (by decide) ?_
        exact zr_Rz hx hb hr hlocks (z_b_n z_b1) hf dX4_isOverAt_25
theorem b_Sh_isOverAt (sh : Sh) (a1 : Int32) (a2 : Int32) (a3 : Int32) : z_b (Sh_isOverAt sh a1 a2 a3) = true := by
  unfold Sh_isOverAt
  (repeat' (first | split | (unfold z_let; dsimp only) | (unfold z_jn; dsimp only))) <;> first | decide +kernel

theorem hd_yX4_isOver : hdY yX4_isOver 0 := by decide +kernel
def Sh_isOver (sh : Sh) : Int32 := z_let (if (z_rem (sh_kicks sh) 2) = 1 then (Sh_sideOfKick sh ((sh_kicks sh) - 1)) else 0) (fun v1 : Int32 => Sh_isOverAt sh (sh_kicks sh) (Sh_lead sh) v1)
set_option maxHeartbeats 4000000 in
set_option maxRecDepth 100000 in
theorem ctX4_isOver (l : Launch) (D : va_G) (ac cs : Nat → Nat) (q : Nat → Nat) (sh : Sh) (res : Int32) (hf : Sh_isOver sh = res) : Met l yX4_isOver (cWW yX4_isOver cX4_isOver 1 (some .boolean)) { frames := 1, cells := 0, slots := 0, locals := 26 } (zR D ac cs [.ref (q 0)] (shW ac q sh)) (vp_Si (fun r => r = res)) 0 0 (fun _ => False) := by
  refine Met.ofW (cc := cX4_isOver) (maxL := 1) (ret := (some .boolean)) (by decide) rfl ?_
  intro p e s m args below meth c s₁ B hml hv
  obtain ⟨rfl, hP, hKX, hC⟩ := hv
  have hx := B.exec
  have hb := B.bytes
  have hr := B.returns
  have hts := atoms_spec (ws := cWW yX4_isOver cX4_isOver 1 (some .boolean)) B.pre
  have htw : ∀ w ∈ WW, w.before _ s = true := fun w h => hts w (List.mem_cons_of_mem _ h)
  have hown : s.vm.findClass RX4 = some m.cls := findClass_of_methodNamed B.named
  have hlocks := B.notSynchronized
  clear hts B
  have hS : va_S (fun _ => False) s.heap s.heap [] := va_S.rf
  have hl := lv_entry ([.ref (q 0)]) (n := 1) (Nat.le_of_ble_eq_true rfl)
  rw [lg_entry_eq]
  generalize (lg_sl ([.ref (q 0)]) ++ List.replicate (1 - (lg_sl ([.ref (q 0)])).length) Slot.unset).toArray = ls at hl ⊢
  have hl : lv_has ls 1 [(0, .ref (q 0))] := hl
  unfold Sh_isOver at hf
  show W p l e ({ frames := 1, cells := 0, slots := 0, locals := 26 } : Room) s m _ below meth c s.heap [] 0 0 _ (F0 m 0 ls [])
  refine lv_aload_n hx hb dX4_isOver_0 rfl (lv_at hl 0 rfl) ?_
  refine lv_aload_n hx hb dX4_isOver_1 rfl (lv_at hl 0 rfl) ?_
  refine va_get (D := D) (ci := 4) (v := .int (sh_kicks sh)) (C := RX4) (T := TX4) (N := 10) hx hb htw WW_wsX40 hown hKX.1 hP 0 rfl rfl 3 (Nat.le_of_ble_eq_true rfl) (htw _ mF_RX4_28) (fun _ h9 => h9) rfl dX4_isOver_2 ?_
  refine lv_aload_n hx hb dX4_isOver_5 rfl (lv_at hl 0 rfl) ?_
  refine zc_RVi (As := []) (rest := [.int (sh_kicks sh), .ref (q 0)]) hx hb hml hown htw (ctX4_lead l D ac cs q sh    _ rfl) (g_V mM_RX4_68 mI_yX4_lead mS_RX4_yX4_lead_yX4_lead mN_RX4 mC_yX4_lead) rfl (hd_yX4_lead) ⟨rfl, rfl⟩ ⟨(Nat.le_of_ble_eq_true rfl), (Nat.le_of_ble_eq_true rfl)⟩ hKX hC hS hP 4 rfl rfl rfl hl.1 rfl (Nat.le_of_ble_eq_true rfl) ⟨Nat.zero_le _, Nat.zero_le _⟩ dX4_isOver_6 ?_
  refine lv_aload_n hx hb dX4_isOver_9 rfl (lv_at hl 0 rfl) ?_
  refine va_get (D := D) (ci := 4) (v := .int (sh_kicks sh)) (C := RX4) (T := TX4) (N := 10) hx hb htw WW_wsX40 hown hKX.1 hP 0 rfl rfl 3 (Nat.le_of_ble_eq_true rfl) (htw _ mF_RX4_28) (fun _ h9 => h9) rfl dX4_isOver_10 ?_
  refine lv_iconst (v := 2) hx hb dX4_isOver_13 rfl ?_
  refine zv_irem hx hb dX4_isOver_14 (by decide) ?_
  refine lv_iconst (v := 1) hx hb dX4_isOver_15 rfl ?_
  have hj3 : ∀ (v1 : Int32), v1 = (if (z_rem (sh_kicks sh) 2) = 1 then (Sh_sideOfKick sh ((sh_kicks sh) - 1)) else 0) → ∀ (ls : Array Slot), lv_has ls 1 [] → W p l e ({ frames := 1, cells := 0, slots := 0, locals := 26 } : Room) s m (([.ref (q 0)] : List Value).toArray) below meth c s.heap [] 0 0 (MQ below (vp_Si (fun r => r = res)) ([.ref (q 0)] : List Value).toArray s 0 0 (fun _ => False)) (F0 m 33 ls [.int v1, .int (Sh_lead sh), .int (sh_kicks sh), .ref (q 0)]) := by
    intro v1 hv1 ls hl
    have hf := z_let_u hv1 hf
    refine zc_RVi (As := [.int (sh_kicks sh), .int (Sh_lead sh), .int v1]) (rest := []) hx hb hml hown htw (ctX4_isOverAt l D ac cs q sh (sh_kicks sh) (Sh_lead sh) v1   _ rfl) (g_V mM_RX4_71 mI_yX4_isOverAt mS_RX4_yX4_isOverAt_yX4_isOverAt mN_RX4 mC_yX4_isOverAt) rfl (hd_yX4_isOverAt) ⟨rfl, rfl⟩ ⟨(Nat.le_of_ble_eq_true rfl), (Nat.le_of_ble_eq_true rfl)⟩ hKX hC hS hP 4 rfl rfl rfl hl.1 rfl (Nat.le_of_ble_eq_true rfl) ⟨Nat.zero_le _, Nat.zero_le _⟩ dX4_isOver_33 ?_
    exact zr_Rz hx hb hr hlocks (z_b_n (b_Sh_isOverAt sh (sh_kicks sh) (Sh_lead sh) v1)) hf dX4_isOver_36
  refine lv_icmp_ne (tgt := 32) hx hb dX4_isOver_16 (by decide) (fun c4 => ?_) (fun c4 => ?_)
  · skip
    refine lv_iconst (v := 0) hx hb dX4_isOver_32 rfl ?_
    exact hj3 0 (if_neg c4).symm ls (lv_sub hl [] rfl)
  · skip
    refine lv_aload_n hx hb dX4_isOver_19 rfl (lv_at hl 0 rfl) ?_
    refine lv_aload_n hx hb dX4_isOver_20 rfl (lv_at hl 0 rfl) ?_
    refine va_get (D := D) (ci := 4) (v := .int (sh_kicks sh)) (C := RX4) (T := TX4) (N := 10) hx hb htw WW_wsX40 hown hKX.1 hP 0 rfl rfl 3 (Nat.le_of_ble_eq_true rfl) (htw _ mF_RX4_28) (fun _ h9 => h9) rfl dX4_isOver_21 ?_
    refine lv_iconst (v := 1) hx hb dX4_isOver_24 rfl ?_
    refine lv_isub hx hb dX4_isOver_25 ?_
    refine zc_RVi (As := [.int ((sh_kicks sh) - 1)]) (rest := [.int (Sh_lead sh), .int (sh_kicks sh), .ref (q 0)]) hx hb hml hown htw (ctX4_sideOfKick l D ac cs q sh ((sh_kicks sh) - 1)   _ rfl) (g_V mM_RX4_47 mI_yX4_sideOfKick mS_RX4_yX4_sideOfKick_yX4_sideOfKick mN_RX4 mC_yX4_sideOfKick) rfl (hd_yX4_sideOfKick) ⟨rfl, rfl⟩ ⟨(Nat.le_of_ble_eq_true rfl), (Nat.le_of_ble_eq_true rfl)⟩ hKX hC hS hP 4 rfl rfl rfl hl.1 rfl (Nat.le_of_ble_eq_true rfl) ⟨Nat.zero_le _, Nat.zero_le _⟩ dX4_isOver_26 ?_
    refine lv_goto (tgt := 33) hx hb dX4_isOver_29 (by decide) ?_
    exact hj3 (Sh_sideOfKick sh ((sh_kicks sh) - 1)) (if_pos c4).symm ls (lv_sub hl [] rfl)
theorem b_Sh_isOver (sh : Sh) : z_b (Sh_isOver sh) = true := by
  unfold Sh_isOver
  (repeat' (first | split | (unfold z_let; dsimp only) | (unfold z_jn; dsimp only))) <;> first | decide +kernel | apply b_Sh_isOverAt

theorem hd_yX4_goesOn : hdY yX4_goesOn 0 := by decide +kernel
def Sh_goesOn (sh : Sh) : Int32 := if 60 ≤ (sh_kicks sh) then 0 else (if Sh_isOver sh = 0 then 1 else 0)
set_option maxHeartbeats 4000000 in
set_option maxRecDepth 100000 in
theorem ctX4_goesOn (l : Launch) (D : va_G) (ac cs : Nat → Nat) (q : Nat → Nat) (sh : Sh) (res : Int32) (hf : Sh_goesOn sh = res) : Met l yX4_goesOn (cWW yX4_goesOn cX4_goesOn 1 (some .boolean)) { frames := 2, cells := 0, slots := 0, locals := 46 } (zR D ac cs [.ref (q 0)] (shW ac q sh)) (vp_Si (fun r => r = res)) 0 0 (fun _ => False) := by
  refine Met.ofW (cc := cX4_goesOn) (maxL := 1) (ret := (some .boolean)) (by decide) rfl ?_
  intro p e s m args below meth c s₁ B hml hv
  obtain ⟨rfl, hP, hKX, hC⟩ := hv
  have hx := B.exec
  have hb := B.bytes
  have hr := B.returns
  have hts := atoms_spec (ws := cWW yX4_goesOn cX4_goesOn 1 (some .boolean)) B.pre
  have htw : ∀ w ∈ WW, w.before _ s = true := fun w h => hts w (List.mem_cons_of_mem _ h)
  have hown : s.vm.findClass RX4 = some m.cls := findClass_of_methodNamed B.named
  have hlocks := B.notSynchronized
  clear hts B
  have hS : va_S (fun _ => False) s.heap s.heap [] := va_S.rf
  have hl := lv_entry ([.ref (q 0)]) (n := 1) (Nat.le_of_ble_eq_true rfl)
  rw [lg_entry_eq]
  generalize (lg_sl ([.ref (q 0)]) ++ List.replicate (1 - (lg_sl ([.ref (q 0)])).length) Slot.unset).toArray = ls at hl ⊢
  have hl : lv_has ls 1 [(0, .ref (q 0))] := hl
  unfold Sh_goesOn at hf
  show W p l e ({ frames := 2, cells := 0, slots := 0, locals := 46 } : Room) s m _ below meth c s.heap [] 0 0 _ (F0 m 0 ls [])
  refine lv_aload_n hx hb dX4_goesOn_0 rfl (lv_at hl 0 rfl) ?_
  refine va_get (D := D) (ci := 4) (v := .int (sh_kicks sh)) (C := RX4) (T := TX4) (N := 10) hx hb htw WW_wsX40 hown hKX.1 hP 0 rfl rfl 3 (Nat.le_of_ble_eq_true rfl) (htw _ mF_RX4_28) (fun _ h9 => h9) rfl dX4_goesOn_1 ?_
  refine lv_bipush (v := 60) hx hb dX4_goesOn_4 rfl ?_
  refine lv_icmp_ge (tgt := 20) hx hb dX4_goesOn_6 (by decide) (fun c1 => ?_) (fun c1 => ?_)
  · have hf := z_p c1 hf
    refine lv_iconst (v := 0) hx hb dX4_goesOn_20 rfl ?_
    exact zr_Rz hx hb hr hlocks (z_b_n z_b0) hf dX4_goesOn_21
  · have hf := z_n c1 hf
    refine lv_aload_n hx hb dX4_goesOn_9 rfl (lv_at hl 0 rfl) ?_
    refine zc_RVi (As := []) (rest := []) hx hb hml hown htw (ctX4_isOver l D ac cs q sh    _ rfl) (g_V mM_RX4_75 mI_yX4_isOver mS_RX4_yX4_isOver_yX4_isOver mN_RX4 mC_yX4_isOver) rfl (hd_yX4_isOver) ⟨rfl, rfl⟩ ⟨(Nat.le_of_ble_eq_true rfl), (Nat.le_of_ble_eq_true rfl)⟩ hKX hC hS hP 4 rfl rfl rfl hl.1 rfl (Nat.le_of_ble_eq_true rfl) ⟨Nat.zero_le _, Nat.zero_le _⟩ dX4_goesOn_10 ?_
    refine lv_if_ne (tgt := 20) hx hb dX4_goesOn_13 (by decide) (fun c2 => ?_) (fun c2 => ?_)
    · have hf := z_n c2 hf
      refine lv_iconst (v := 0) hx hb dX4_goesOn_20 rfl ?_
      exact zr_Rz hx hb hr hlocks (z_b_n z_b0) hf dX4_goesOn_21
    · have hf := z_p c2 hf
      refine lv_iconst (v := 1) hx hb dX4_goesOn_16 rfl ?_
      refine lv_goto (tgt := 21) hx hb dX4_goesOn_17 (by decide) ?_
      exact zr_Rz hx hb hr hlocks (z_b_n z_b1) hf dX4_goesOn_21
theorem b_Sh_goesOn (sh : Sh) : z_b (Sh_goesOn sh) = true := by
  unfold Sh_goesOn
  (repeat' (first | split | (unfold z_let; dsimp only) | (unfold z_jn; dsimp only))) <;> first | decide +kernel | apply b_Sh_isOver

theorem hd_yX4_winner : hdY yX4_winner 0 := by decide +kernel
def Sh_winner (sh : Sh) : Int32 := if Sh_isOver sh = 0 then 2 else (if Sh_lead sh ≤ 0 then 1 else 0)
set_option maxHeartbeats 4000000 in
set_option maxRecDepth 100000 in
theorem ctX4_winner (l : Launch) (D : va_G) (ac cs : Nat → Nat) (q : Nat → Nat) (sh : Sh) (res : Int32) (hf : Sh_winner sh = res) : Met l yX4_winner (cWW yX4_winner cX4_winner 1 (some .int)) { frames := 2, cells := 0, slots := 0, locals := 46 } (zR D ac cs [.ref (q 0)] (shW ac q sh)) (vp_Si (fun r => r = res)) 0 0 (fun _ => False) := by
  refine Met.ofW (cc := cX4_winner) (maxL := 1) (ret := (some .int)) (by decide) rfl ?_
  intro p e s m args below meth c s₁ B hml hv
  obtain ⟨rfl, hP, hKX, hC⟩ := hv
  have hx := B.exec
  have hb := B.bytes
  have hr := B.returns
  have hts := atoms_spec (ws := cWW yX4_winner cX4_winner 1 (some .int)) B.pre
  have htw : ∀ w ∈ WW, w.before _ s = true := fun w h => hts w (List.mem_cons_of_mem _ h)
  have hown : s.vm.findClass RX4 = some m.cls := findClass_of_methodNamed B.named
  have hlocks := B.notSynchronized
  clear hts B
  have hS : va_S (fun _ => False) s.heap s.heap [] := va_S.rf
  have hl := lv_entry ([.ref (q 0)]) (n := 1) (Nat.le_of_ble_eq_true rfl)
  rw [lg_entry_eq]
  generalize (lg_sl ([.ref (q 0)]) ++ List.replicate (1 - (lg_sl ([.ref (q 0)])).length) Slot.unset).toArray = ls at hl ⊢
  have hl : lv_has ls 1 [(0, .ref (q 0))] := hl
  unfold Sh_winner at hf
  show W p l e ({ frames := 2, cells := 0, slots := 0, locals := 46 } : Room) s m _ below meth c s.heap [] 0 0 _ (F0 m 0 ls [])
  refine lv_aload_n hx hb dX4_winner_0 rfl (lv_at hl 0 rfl) ?_
  refine zc_RVi (As := []) (rest := []) hx hb hml hown htw (ctX4_isOver l D ac cs q sh    _ rfl) (g_V mM_RX4_75 mI_yX4_isOver mS_RX4_yX4_isOver_yX4_isOver mN_RX4 mC_yX4_isOver) rfl (hd_yX4_isOver) ⟨rfl, rfl⟩ ⟨(Nat.le_of_ble_eq_true rfl), (Nat.le_of_ble_eq_true rfl)⟩ hKX hC hS hP 4 rfl rfl rfl hl.1 rfl (Nat.le_of_ble_eq_true rfl) ⟨Nat.zero_le _, Nat.zero_le _⟩ dX4_winner_1 ?_
  refine lv_if_ne (tgt := 11) hx hb dX4_winner_4 (by decide) (fun c1 => ?_) (fun c1 => ?_)
  · have hf := z_n c1 hf
    refine lv_aload_n hx hb dX4_winner_11 rfl (lv_at hl 0 rfl) ?_
    refine zc_RVi (As := []) (rest := []) hx hb hml hown htw (ctX4_lead l D ac cs q sh    _ rfl) (g_V mM_RX4_68 mI_yX4_lead mS_RX4_yX4_lead_yX4_lead mN_RX4 mC_yX4_lead) rfl (hd_yX4_lead) ⟨rfl, rfl⟩ ⟨(Nat.le_of_ble_eq_true rfl), (Nat.le_of_ble_eq_true rfl)⟩ hKX hC hS hP 4 rfl rfl rfl hl.1 rfl (Nat.le_of_ble_eq_true rfl) ⟨Nat.zero_le _, Nat.zero_le _⟩ dX4_winner_12 ?_
    refine lv_if_le (tgt := 22) hx hb dX4_winner_15 (by decide) (fun c2 => ?_) (fun c2 => ?_)
    · have hf := z_p c2 hf
      refine lv_iconst (v := 1) hx hb dX4_winner_22 rfl ?_
      exact zr_Ri hx hb hr hlocks hf dX4_winner_23
    · have hf := z_n c2 hf
      refine lv_iconst (v := 0) hx hb dX4_winner_18 rfl ?_
      refine lv_goto (tgt := 23) hx hb dX4_winner_19 (by decide) ?_
      exact zr_Ri hx hb hr hlocks hf dX4_winner_23
  · have hf := z_p c1 hf
    refine lv_iconst (v := 2) hx hb dX4_winner_7 rfl ?_
    refine lv_goto (tgt := 23) hx hb dX4_winner_8 (by decide) ?_
    exact zr_Ri hx hb hr hlocks hf dX4_winner_23

theorem hd_yX4_leader : hdY yX4_leader 0 := by decide +kernel
def Sh_leader (sh : Sh) : Int32 := if (z_rem (sh_kicks sh) 2) = 1 then (Sh_sideOfKick sh ((sh_kicks sh) - 1)) else (z_let (if (sh_kicks sh) < 2 then (sh_first sh) else (Sh_sideOfKick sh ((sh_kicks sh) - 2))) (fun v2 : Int32 => Sh_leaderOf sh (Sh_round sh) (Sh_lead sh) v2))
set_option maxHeartbeats 4000000 in
set_option maxRecDepth 100000 in
theorem ctX4_leader (l : Launch) (D : va_G) (ac cs : Nat → Nat) (q : Nat → Nat) (sh : Sh) (res : Int32) (hf : Sh_leader sh = res) : Met l yX4_leader (cWW yX4_leader cX4_leader 1 (some .int)) { frames := 2, cells := 0, slots := 0, locals := 43 } (zR D ac cs [.ref (q 0)] (shW ac q sh)) (vp_Si (fun r => r = res)) 0 0 (fun _ => False) := by
  refine Met.ofW (cc := cX4_leader) (maxL := 1) (ret := (some .int)) (by decide) rfl ?_
  intro p e s m args below meth c s₁ B hml hv
  obtain ⟨rfl, hP, hKX, hC⟩ := hv
  have hx := B.exec
  have hb := B.bytes
  have hr := B.returns
  have hts := atoms_spec (ws := cWW yX4_leader cX4_leader 1 (some .int)) B.pre
  have htw : ∀ w ∈ WW, w.before _ s = true := fun w h => hts w (List.mem_cons_of_mem _ h)
  have hown : s.vm.findClass RX4 = some m.cls := findClass_of_methodNamed B.named
  have hlocks := B.notSynchronized
  clear hts B
  have hS : va_S (fun _ => False) s.heap s.heap [] := va_S.rf
  have hl := lv_entry ([.ref (q 0)]) (n := 1) (Nat.le_of_ble_eq_true rfl)
  rw [lg_entry_eq]
  generalize (lg_sl ([.ref (q 0)]) ++ List.replicate (1 - (lg_sl ([.ref (q 0)])).length) Slot.unset).toArray = ls at hl ⊢
  have hl : lv_has ls 1 [(0, .ref (q 0))] := hl
  unfold Sh_leader at hf
  show W p l e ({ frames := 2, cells := 0, slots := 0, locals := 43 } : Room) s m _ below meth c s.heap [] 0 0 _ (F0 m 0 ls [])
  refine lv_aload_n hx hb dX4_leader_0 rfl (lv_at hl 0 rfl) ?_
  refine va_get (D := D) (ci := 4) (v := .int (sh_kicks sh)) (C := RX4) (T := TX4) (N := 10) hx hb htw WW_wsX40 hown hKX.1 hP 0 rfl rfl 3 (Nat.le_of_ble_eq_true rfl) (htw _ mF_RX4_28) (fun _ h9 => h9) rfl dX4_leader_1 ?_
  refine lv_iconst (v := 2) hx hb dX4_leader_4 rfl ?_
  refine zv_irem hx hb dX4_leader_5 (by decide) ?_
  refine lv_iconst (v := 1) hx hb dX4_leader_6 rfl ?_
  refine lv_icmp_ne (tgt := 21) hx hb dX4_leader_7 (by decide) (fun c1 => ?_) (fun c1 => ?_)
  · have hf := z_n c1 hf
    refine lv_aload_n hx hb dX4_leader_21 rfl (lv_at hl 0 rfl) ?_
    refine lv_aload_n hx hb dX4_leader_22 rfl (lv_at hl 0 rfl) ?_
    refine zc_RVi (As := []) (rest := [.ref (q 0)]) hx hb hml hown htw (ctX4_round l D ac cs q sh    _ rfl) (g_V mM_RX4_51 mI_yX4_round mS_RX4_yX4_round_yX4_round mN_RX4 mC_yX4_round) rfl (hd_yX4_round) ⟨rfl, rfl⟩ ⟨(Nat.le_of_ble_eq_true rfl), (Nat.le_of_ble_eq_true rfl)⟩ hKX hC hS hP 4 rfl rfl rfl hl.1 rfl (Nat.le_of_ble_eq_true rfl) ⟨Nat.zero_le _, Nat.zero_le _⟩ dX4_leader_23 ?_
    refine lv_aload_n hx hb dX4_leader_26 rfl (lv_at hl 0 rfl) ?_
    refine zc_RVi (As := []) (rest := [.int (Sh_round sh), .ref (q 0)]) hx hb hml hown htw (ctX4_lead l D ac cs q sh    _ rfl) (g_V mM_RX4_68 mI_yX4_lead mS_RX4_yX4_lead_yX4_lead mN_RX4 mC_yX4_lead) rfl (hd_yX4_lead) ⟨rfl, rfl⟩ ⟨(Nat.le_of_ble_eq_true rfl), (Nat.le_of_ble_eq_true rfl)⟩ hKX hC hS hP 4 rfl rfl rfl hl.1 rfl (Nat.le_of_ble_eq_true rfl) ⟨Nat.zero_le _, Nat.zero_le _⟩ dX4_leader_27 ?_
    refine lv_aload_n hx hb dX4_leader_30 rfl (lv_at hl 0 rfl) ?_
    refine va_get (D := D) (ci := 4) (v := .int (sh_kicks sh)) (C := RX4) (T := TX4) (N := 10) hx hb htw WW_wsX40 hown hKX.1 hP 0 rfl rfl 3 (Nat.le_of_ble_eq_true rfl) (htw _ mF_RX4_28) (fun _ h9 => h9) rfl dX4_leader_31 ?_
    refine lv_iconst (v := 2) hx hb dX4_leader_34 rfl ?_
    have hj4 : ∀ (v2 : Int32), v2 = (if (sh_kicks sh) < 2 then (sh_first sh) else (Sh_sideOfKick sh ((sh_kicks sh) - 2))) → ∀ (ls : Array Slot), lv_has ls 1 [] → W p l e ({ frames := 2, cells := 0, slots := 0, locals := 43 } : Room) s m (([.ref (q 0)] : List Value).toArray) below meth c s.heap [] 0 0 (MQ below (vp_Si (fun r => r = res)) ([.ref (q 0)] : List Value).toArray s 0 0 (fun _ => False)) (F0 m 55 ls [.int v2, .int (Sh_lead sh), .int (Sh_round sh), .ref (q 0)]) := by
      intro v2 hv2 ls hl
      have hf := z_let_u hv2 hf
      refine zc_RVi (As := [.int (Sh_round sh), .int (Sh_lead sh), .int v2]) (rest := []) hx hb hml hown htw (ctX4_leaderOf l D ac cs q sh (Sh_round sh) (Sh_lead sh) v2   _ rfl) (g_V mM_RX4_79 mI_yX4_leaderOf mS_RX4_yX4_leaderOf_yX4_leaderOf mN_RX4 mC_yX4_leaderOf) rfl (hd_yX4_leaderOf) ⟨rfl, rfl⟩ ⟨(Nat.le_of_ble_eq_true rfl), (Nat.le_of_ble_eq_true rfl)⟩ hKX hC hS hP 4 rfl rfl rfl hl.1 rfl (Nat.le_of_ble_eq_true rfl) ⟨Nat.zero_le _, Nat.zero_le _⟩ dX4_leader_55 ?_
      exact zr_Ri hx hb hr hlocks hf dX4_leader_58
    refine lv_icmp_lt (tgt := 51) hx hb dX4_leader_35 (by decide) (fun c5 => ?_) (fun c5 => ?_)
    · skip
      refine lv_aload_n hx hb dX4_leader_51 rfl (lv_at hl 0 rfl) ?_
      refine va_get (D := D) (ci := 4) (v := .int (sh_first sh)) (C := RX4) (T := TX4) (N := 10) hx hb htw WW_wsX40 hown hKX.1 hP 0 rfl rfl 2 (Nat.le_of_ble_eq_true rfl) (htw _ mF_RX4_25) (fun _ h9 => h9) rfl dX4_leader_52 ?_
      exact hj4 (sh_first sh) (if_pos c5).symm ls (lv_sub hl [] rfl)
    · skip
      refine lv_aload_n hx hb dX4_leader_38 rfl (lv_at hl 0 rfl) ?_
      refine lv_aload_n hx hb dX4_leader_39 rfl (lv_at hl 0 rfl) ?_
      refine va_get (D := D) (ci := 4) (v := .int (sh_kicks sh)) (C := RX4) (T := TX4) (N := 10) hx hb htw WW_wsX40 hown hKX.1 hP 0 rfl rfl 3 (Nat.le_of_ble_eq_true rfl) (htw _ mF_RX4_28) (fun _ h9 => h9) rfl dX4_leader_40 ?_
      refine lv_iconst (v := 2) hx hb dX4_leader_43 rfl ?_
      refine lv_isub hx hb dX4_leader_44 ?_
      refine zc_RVi (As := [.int ((sh_kicks sh) - 2)]) (rest := [.int (Sh_lead sh), .int (Sh_round sh), .ref (q 0)]) hx hb hml hown htw (ctX4_sideOfKick l D ac cs q sh ((sh_kicks sh) - 2)   _ rfl) (g_V mM_RX4_47 mI_yX4_sideOfKick mS_RX4_yX4_sideOfKick_yX4_sideOfKick mN_RX4 mC_yX4_sideOfKick) rfl (hd_yX4_sideOfKick) ⟨rfl, rfl⟩ ⟨(Nat.le_of_ble_eq_true rfl), (Nat.le_of_ble_eq_true rfl)⟩ hKX hC hS hP 4 rfl rfl rfl hl.1 rfl (Nat.le_of_ble_eq_true rfl) ⟨Nat.zero_le _, Nat.zero_le _⟩ dX4_leader_45 ?_
      refine lv_goto (tgt := 55) hx hb dX4_leader_48 (by decide) ?_
      exact hj4 (Sh_sideOfKick sh ((sh_kicks sh) - 2)) (if_neg c5).symm ls (lv_sub hl [] rfl)
  · have hf := z_p c1 hf
    refine lv_aload_n hx hb dX4_leader_10 rfl (lv_at hl 0 rfl) ?_
    refine lv_aload_n hx hb dX4_leader_11 rfl (lv_at hl 0 rfl) ?_
    refine va_get (D := D) (ci := 4) (v := .int (sh_kicks sh)) (C := RX4) (T := TX4) (N := 10) hx hb htw WW_wsX40 hown hKX.1 hP 0 rfl rfl 3 (Nat.le_of_ble_eq_true rfl) (htw _ mF_RX4_28) (fun _ h9 => h9) rfl dX4_leader_12 ?_
    refine lv_iconst (v := 1) hx hb dX4_leader_15 rfl ?_
    refine lv_isub hx hb dX4_leader_16 ?_
    refine zc_RVi (As := [.int ((sh_kicks sh) - 1)]) (rest := []) hx hb hml hown htw (ctX4_sideOfKick l D ac cs q sh ((sh_kicks sh) - 1)   _ rfl) (g_V mM_RX4_47 mI_yX4_sideOfKick mS_RX4_yX4_sideOfKick_yX4_sideOfKick mN_RX4 mC_yX4_sideOfKick) rfl (hd_yX4_sideOfKick) ⟨rfl, rfl⟩ ⟨(Nat.le_of_ble_eq_true rfl), (Nat.le_of_ble_eq_true rfl)⟩ hKX hC hS hP 4 rfl rfl rfl hl.1 rfl (Nat.le_of_ble_eq_true rfl) ⟨Nat.zero_le _, Nat.zero_le _⟩ dX4_leader_17 ?_
    exact zr_Ri hx hb hr hlocks hf dX4_leader_20

theorem hd_yX4_kicker : hdY yX4_kicker 0 := by decide +kernel
def Sh_kicker (sh : Sh) : Int32 := if (z_rem (sh_kicks sh) 2) = 0 then (Sh_leader sh) else (1 - (Sh_leader sh))
set_option maxHeartbeats 4000000 in
set_option maxRecDepth 100000 in
theorem ctX4_kicker (l : Launch) (D : va_G) (ac cs : Nat → Nat) (q : Nat → Nat) (sh : Sh) (res : Int32) (hf : Sh_kicker sh = res) : Met l yX4_kicker (cWW yX4_kicker cX4_kicker 1 (some .int)) { frames := 3, cells := 0, slots := 0, locals := 63 } (zR D ac cs [.ref (q 0)] (shW ac q sh)) (vp_Si (fun r => r = res)) 0 0 (fun _ => False) := by
  refine Met.ofW (cc := cX4_kicker) (maxL := 1) (ret := (some .int)) (by decide) rfl ?_
  intro p e s m args below meth c s₁ B hml hv
  obtain ⟨rfl, hP, hKX, hC⟩ := hv
  have hx := B.exec
  have hb := B.bytes
  have hr := B.returns
  have hts := atoms_spec (ws := cWW yX4_kicker cX4_kicker 1 (some .int)) B.pre
  have htw : ∀ w ∈ WW, w.before _ s = true := fun w h => hts w (List.mem_cons_of_mem _ h)
  have hown : s.vm.findClass RX4 = some m.cls := findClass_of_methodNamed B.named
  have hlocks := B.notSynchronized
  clear hts B
  have hS : va_S (fun _ => False) s.heap s.heap [] := va_S.rf
  have hl := lv_entry ([.ref (q 0)]) (n := 1) (Nat.le_of_ble_eq_true rfl)
  rw [lg_entry_eq]
  generalize (lg_sl ([.ref (q 0)]) ++ List.replicate (1 - (lg_sl ([.ref (q 0)])).length) Slot.unset).toArray = ls at hl ⊢
  have hl : lv_has ls 1 [(0, .ref (q 0))] := hl
  unfold Sh_kicker at hf
  show W p l e ({ frames := 3, cells := 0, slots := 0, locals := 63 } : Room) s m _ below meth c s.heap [] 0 0 _ (F0 m 0 ls [])
  refine lv_aload_n hx hb dX4_kicker_0 rfl (lv_at hl 0 rfl) ?_
  refine va_get (D := D) (ci := 4) (v := .int (sh_kicks sh)) (C := RX4) (T := TX4) (N := 10) hx hb htw WW_wsX40 hown hKX.1 hP 0 rfl rfl 3 (Nat.le_of_ble_eq_true rfl) (htw _ mF_RX4_28) (fun _ h9 => h9) rfl dX4_kicker_1 ?_
  refine lv_iconst (v := 2) hx hb dX4_kicker_4 rfl ?_
  refine zv_irem hx hb dX4_kicker_5 (by decide) ?_
  refine lv_if_ne (tgt := 16) hx hb dX4_kicker_6 (by decide) (fun c1 => ?_) (fun c1 => ?_)
  · have hf := z_n c1 hf
    refine lv_iconst (v := 1) hx hb dX4_kicker_16 rfl ?_
    refine lv_aload_n hx hb dX4_kicker_17 rfl (lv_at hl 0 rfl) ?_
    refine zc_RVi (As := []) (rest := [.int 1]) hx hb hml hown htw (ctX4_leader l D ac cs q sh    _ rfl) (g_V mM_RX4_83 mI_yX4_leader mS_RX4_yX4_leader_yX4_leader mN_RX4 mC_yX4_leader) rfl (hd_yX4_leader) ⟨rfl, rfl⟩ ⟨(Nat.le_of_ble_eq_true rfl), (Nat.le_of_ble_eq_true rfl)⟩ hKX hC hS hP 4 rfl rfl rfl hl.1 rfl (Nat.le_of_ble_eq_true rfl) ⟨Nat.zero_le _, Nat.zero_le _⟩ dX4_kicker_18 ?_
    refine lv_isub hx hb dX4_kicker_21 ?_
    exact zr_Ri hx hb hr hlocks hf dX4_kicker_22
  · have hf := z_p c1 hf
    refine lv_aload_n hx hb dX4_kicker_9 rfl (lv_at hl 0 rfl) ?_
    refine zc_RVi (As := []) (rest := []) hx hb hml hown htw (ctX4_leader l D ac cs q sh    _ rfl) (g_V mM_RX4_83 mI_yX4_leader mS_RX4_yX4_leader_yX4_leader mN_RX4 mC_yX4_leader) rfl (hd_yX4_leader) ⟨rfl, rfl⟩ ⟨(Nat.le_of_ble_eq_true rfl), (Nat.le_of_ble_eq_true rfl)⟩ hKX hC hS hP 4 rfl rfl rfl hl.1 rfl (Nat.le_of_ble_eq_true rfl) ⟨Nat.zero_le _, Nat.zero_le _⟩ dX4_kicker_10 ?_
    refine lv_goto (tgt := 22) hx hb dX4_kicker_13 (by decide) ?_
    exact zr_Ri hx hb hr hlocks hf dX4_kicker_22

theorem hd_yX4_chance : hdY yX4_chance 0 := by decide +kernel
def Sh_chance (sh : Sh) : Int32 := z_let (Sh_kicker sh) (fun x1 : Int32 => z_let (if x1 = 0 then (Sh_lead sh) else (-(Sh_lead sh))) (fun v2 : Int32 => Sh_chanceOf sh x1 (Sh_shooter sh) v2))
set_option maxHeartbeats 4000000 in
set_option maxRecDepth 100000 in
theorem ctX4_chance (l : Launch) (D : va_G) (ac cs : Nat → Nat) (q : Nat → Nat) (sh : Sh) (res : Int32) (hf : Sh_chance sh = res) : Met l yX4_chance (cWW yX4_chance cX4_chance 2 (some .int)) { frames := 4, cells := 0, slots := 0, locals := 83 } (zR D ac cs [.ref (q 0)] (shW ac q sh)) (vp_Si (fun r => r = res)) 0 0 (fun _ => False) := by
  refine Met.ofW (cc := cX4_chance) (maxL := 2) (ret := (some .int)) (by decide) rfl ?_
  intro p e s m args below meth c s₁ B hml hv
  obtain ⟨rfl, hP, hKX, hC⟩ := hv
  have hx := B.exec
  have hb := B.bytes
  have hr := B.returns
  have hts := atoms_spec (ws := cWW yX4_chance cX4_chance 2 (some .int)) B.pre
  have htw : ∀ w ∈ WW, w.before _ s = true := fun w h => hts w (List.mem_cons_of_mem _ h)
  have hown : s.vm.findClass RX4 = some m.cls := findClass_of_methodNamed B.named
  have hlocks := B.notSynchronized
  clear hts B
  have hS : va_S (fun _ => False) s.heap s.heap [] := va_S.rf
  have hl := lv_entry ([.ref (q 0)]) (n := 2) (Nat.le_of_ble_eq_true rfl)
  rw [lg_entry_eq]
  generalize (lg_sl ([.ref (q 0)]) ++ List.replicate (2 - (lg_sl ([.ref (q 0)])).length) Slot.unset).toArray = ls at hl ⊢
  have hl : lv_has ls 2 [(0, .ref (q 0))] := hl
  unfold Sh_chance at hf
  show W p l e ({ frames := 4, cells := 0, slots := 0, locals := 83 } : Room) s m _ below meth c s.heap [] 0 0 _ (F0 m 0 ls [])
  refine lv_aload_n hx hb dX4_chance_0 rfl (lv_at hl 0 rfl) ?_
  refine zc_RVi (As := []) (rest := []) hx hb hml hown htw (ctX4_kicker l D ac cs q sh    _ rfl) (g_V mM_RX4_86 mI_yX4_kicker mS_RX4_yX4_kicker_yX4_kicker mN_RX4 mC_yX4_kicker) rfl (hd_yX4_kicker) ⟨rfl, rfl⟩ ⟨(Nat.le_of_ble_eq_true rfl), (Nat.le_of_ble_eq_true rfl)⟩ hKX hC hS hP 4 rfl rfl rfl hl.1 rfl (Nat.le_of_ble_eq_true rfl) ⟨Nat.zero_le _, Nat.zero_le _⟩ dX4_chance_1 ?_
  refine lv_topi (fun x1 hx1 => ?_)
  have hf := z_let_u hx1 hf
  refine lv_istore_n (lv' := [(1, .int x1), (0, .ref (q 0))]) hx hb dX4_chance_4 rfl hl (Nat.le_of_ble_eq_true rfl) rfl (fun ls hl => ?_)
  refine lv_aload_n hx hb dX4_chance_5 rfl (lv_at hl 1 rfl) ?_
  refine lv_iload_n hx hb dX4_chance_6 rfl (lv_at hl 0 rfl) ?_
  refine lv_aload_n hx hb dX4_chance_7 rfl (lv_at hl 1 rfl) ?_
  refine zc_RVi (As := []) (rest := [.int x1, .ref (q 0)]) hx hb hml hown htw (ctX4_shooter l D ac cs q sh    _ rfl) (g_V mM_RX4_89 mI_yX4_shooter mS_RX4_yX4_shooter_yX4_shooter mN_RX4 mC_yX4_shooter) rfl (hd_yX4_shooter) ⟨rfl, rfl⟩ ⟨(Nat.le_of_ble_eq_true rfl), (Nat.le_of_ble_eq_true rfl)⟩ hKX hC hS hP 4 rfl rfl rfl hl.1 rfl (Nat.le_of_ble_eq_true rfl) ⟨Nat.zero_le _, Nat.zero_le _⟩ dX4_chance_8 ?_
  refine lv_iload_n hx hb dX4_chance_11 rfl (lv_at hl 0 rfl) ?_
  have hj4 : ∀ (v2 : Int32), v2 = (if x1 = 0 then (Sh_lead sh) else (-(Sh_lead sh))) → ∀ (ls : Array Slot), lv_has ls 2 [] → W p l e ({ frames := 4, cells := 0, slots := 0, locals := 83 } : Room) s m (([.ref (q 0)] : List Value).toArray) below meth c s.heap [] 0 0 (MQ below (vp_Si (fun r => r = res)) ([.ref (q 0)] : List Value).toArray s 0 0 (fun _ => False)) (F0 m 27 ls [.int v2, .int (Sh_shooter sh), .int x1, .ref (q 0)]) := by
    intro v2 hv2 ls hl
    have hf := z_let_u hv2 hf
    refine zc_RVi (As := [.int x1, .int (Sh_shooter sh), .int v2]) (rest := []) hx hb hml hown htw (ctX4_chanceOf l D ac cs q sh x1 (Sh_shooter sh) v2   _ rfl) (g_V mM_RX4_92 mI_yX4_chanceOf mS_RX4_yX4_chanceOf_yX4_chanceOf mN_RX4 mC_yX4_chanceOf) rfl (hd_yX4_chanceOf) ⟨rfl, rfl⟩ ⟨(Nat.le_of_ble_eq_true rfl), (Nat.le_of_ble_eq_true rfl)⟩ hKX hC hS hP 4 rfl rfl rfl hl.1 rfl (Nat.le_of_ble_eq_true rfl) ⟨Nat.zero_le _, Nat.zero_le _⟩ dX4_chance_27 ?_
    exact zr_Ri hx hb hr hlocks hf dX4_chance_30
  refine lv_if_ne (tgt := 22) hx hb dX4_chance_12 (by decide) (fun c5 => ?_) (fun c5 => ?_)
  · skip
    refine lv_aload_n hx hb dX4_chance_22 rfl (lv_at hl 1 rfl) ?_
    refine zc_RVi (As := []) (rest := [.int (Sh_shooter sh), .int x1, .ref (q 0)]) hx hb hml hown htw (ctX4_lead l D ac cs q sh    _ rfl) (g_V mM_RX4_68 mI_yX4_lead mS_RX4_yX4_lead_yX4_lead mN_RX4 mC_yX4_lead) rfl (hd_yX4_lead) ⟨rfl, rfl⟩ ⟨(Nat.le_of_ble_eq_true rfl), (Nat.le_of_ble_eq_true rfl)⟩ hKX hC hS hP 4 rfl rfl rfl hl.1 rfl (Nat.le_of_ble_eq_true rfl) ⟨Nat.zero_le _, Nat.zero_le _⟩ dX4_chance_23 ?_
    refine lv_ineg hx hb dX4_chance_26 ?_
    exact hj4 (-(Sh_lead sh)) (if_neg c5).symm ls (lv_sub hl [] rfl)
  · skip
    refine lv_aload_n hx hb dX4_chance_15 rfl (lv_at hl 1 rfl) ?_
    refine zc_RVi (As := []) (rest := [.int (Sh_shooter sh), .int x1, .ref (q 0)]) hx hb hml hown htw (ctX4_lead l D ac cs q sh    _ rfl) (g_V mM_RX4_68 mI_yX4_lead mS_RX4_yX4_lead_yX4_lead mN_RX4 mC_yX4_lead) rfl (hd_yX4_lead) ⟨rfl, rfl⟩ ⟨(Nat.le_of_ble_eq_true rfl), (Nat.le_of_ble_eq_true rfl)⟩ hKX hC hS hP 4 rfl rfl rfl hl.1 rfl (Nat.le_of_ble_eq_true rfl) ⟨Nat.zero_le _, Nat.zero_le _⟩ dX4_chance_16 ?_
    refine lv_goto (tgt := 27) hx hb dX4_chance_19 (by decide) ?_
    exact hj4 (Sh_lead sh) (if_pos c5).symm ls (lv_sub hl [] rfl)

theorem hd_yX4_put : hdY yX4_put 1 := by decide +kernel
def Sh_put (sh : Sh) (a1 : Int32) : Sh := z_let (Sh_kicker sh) (fun x1 : Int32 => z_let ((sh_sideBits sh) ||| (x1.toInt64 <<< ((sh_kicks sh).toInt64 &&& 63))) (fun x2 : Int64 => z_jn (fun sh3 : Sh => z_let ((sh_kicks sh3) + 1) (fun x6 : Int32 => ((sh_shooters sh3), (sh_order sh3), (sh_first sh3), x6, (sh_goalBits sh3), (sh_sideBits sh3), (sh_goalsOfA sh3), (sh_goalsOfB sh3), (sh_nerves sh3), (sh_skills sh3)))) (fun k4 => if a1 = 0 then (k4 ((sh_shooters sh), (sh_order sh), (sh_first sh), (sh_kicks sh), (sh_goalBits sh), x2, (sh_goalsOfA sh), (sh_goalsOfB sh), (sh_nerves sh), (sh_skills sh))) else (z_let ((sh_goalBits sh) ||| (1 <<< ((sh_kicks sh).toInt64 &&& 63))) (fun x8 : Int64 => z_let ((sh_goalsOfA sh) + (1 - x1)) (fun x9 : Int32 => z_let ((sh_goalsOfB sh) + x1) (fun x10 : Int32 => k4 ((sh_shooters sh), (sh_order sh), (sh_first sh), (sh_kicks sh), x8, x2, x9, x10, (sh_nerves sh), (sh_skills sh)))))))))
set_option maxHeartbeats 4000000 in
set_option maxRecDepth 100000 in
theorem ctX4_put (l : Launch) (D : va_G) (ac cs : Nat → Nat) (q : Nat → Nat) (sz : Nat) (sh : Sh) (a1 : Int32) (res : Sh) (hf : Sh_put sh a1 = res) : Met l yX4_put (cWW yX4_put cX4_put 3 none) { frames := 4, cells := 0, slots := 0, locals := 83 } (zM D ac cs [.ref (q 0), .int a1] (shW ac q sh) sz) (va_Qv (fun _ : Unit => True) (fun _ => zB D (va_A (shW ac q sh) sz) (shW ac q res)) (va_A (shW ac q sh) sz)) 0 0 (va_A (shW ac q sh) sz) := by
  refine Met.ofW (cc := cX4_put) (maxL := 3) (ret := none) (by decide) rfl ?_
  intro p e s m args below meth c s₁ B hml hv
  obtain ⟨rfl, hsz, hP, hKX, hD0, hC⟩ := hv
  have hx := B.exec
  have hb := B.bytes
  have hr := B.returns
  have hts := atoms_spec (ws := cWW yX4_put cX4_put 3 none) B.pre
  have htw : ∀ w ∈ WW, w.before _ s = true := fun w h => hts w (List.mem_cons_of_mem _ h)
  have hown : s.vm.findClass RX4 = some m.cls := findClass_of_methodNamed B.named
  have hlocks := B.notSynchronized
  clear hts B
  subst hsz
  have hD := hD0.self (sz := s.heap.size)
  generalize hAe : va_A (shW ac q sh) s.heap.size = A at hD hC ⊢
  have hA : ∀ q : Nat, s.heap.size ≤ q → A q := fun q h => by rw [← hAe]; exact Or.inr h
  have hS : va_S A s.heap s.heap [] := va_S.rf
  clear hD0 hAe
  have hP : va_P D vwCl (shW ac q sh) s.heap := hP
  have hl := lv_entry ([.ref (q 0), .int a1]) (n := 3) (Nat.le_of_ble_eq_true rfl)
  rw [lg_entry_eq]
  generalize (lg_sl ([.ref (q 0), .int a1]) ++ List.replicate (3 - (lg_sl ([.ref (q 0), .int a1])).length) Slot.unset).toArray = ls at hl ⊢
  have hl : lv_has ls 3 [(0, .ref (q 0)), (1, .int a1)] := hl
  unfold Sh_put at hf
  show W p l e ({ frames := 4, cells := 0, slots := 0, locals := 83 } : Room) s m _ below meth c s.heap [] 0 0 _ (F0 m 0 ls [])
  refine lv_aload_n hx hb dX4_put_0 rfl (lv_at hl 0 rfl) ?_
  refine zc_RVi (As := []) (rest := []) hx hb hml hown htw (ctX4_kicker l D ac cs q sh    _ rfl) (g_V mM_RX4_86 mI_yX4_kicker mS_RX4_yX4_kicker_yX4_kicker mN_RX4 mC_yX4_kicker) rfl (hd_yX4_kicker) ⟨rfl, rfl⟩ ⟨(Nat.le_of_ble_eq_true rfl), (Nat.le_of_ble_eq_true rfl)⟩ hKX hC hS hP 4 rfl rfl rfl hl.1 rfl (Nat.le_of_ble_eq_true rfl) ⟨Nat.zero_le _, Nat.zero_le _⟩ dX4_put_1 ?_
  refine lv_topi (fun x1 hx1 => ?_)
  have hf := z_let_u hx1 hf
  refine lv_istore_n (lv' := [(2, .int x1), (0, .ref (q 0)), (1, .int a1)]) hx hb dX4_put_4 rfl hl (Nat.le_of_ble_eq_true rfl) rfl (fun ls hl => ?_)
  refine lv_aload_n hx hb dX4_put_5 rfl (lv_at hl 1 rfl) ?_
  refine lv_dup hx hb dX4_put_6 rfl ?_
  refine va_get (D := D) (ci := 4) (v := .long (sh_sideBits sh)) (C := RX4) (T := TX4) (N := 10) hx hb htw WW_wsX40 hown hKX.1 hP 0 rfl rfl 5 (Nat.le_of_ble_eq_true rfl) (htw _ mF_RX4_35) (fun _ h9 => h9) rfl dX4_put_7 ?_
  refine lv_iload_n hx hb dX4_put_10 rfl (lv_at hl 0 rfl) ?_
  refine lv_i2l hx hb dX4_put_11 rfl ?_
  refine lv_aload_n hx hb dX4_put_12 rfl (lv_at hl 1 rfl) ?_
  refine va_get (D := D) (ci := 4) (v := .int (sh_kicks sh)) (C := RX4) (T := TX4) (N := 10) hx hb htw WW_wsX40 hown hKX.1 hP 0 rfl rfl 3 (Nat.le_of_ble_eq_true rfl) (htw _ mF_RX4_28) (fun _ h9 => h9) rfl dX4_put_13 ?_
  refine lv_lshl hx hb dX4_put_16 rfl ?_
  refine lv_lor hx hb dX4_put_17 ?_
  refine lv_topl (fun x2 hx2 => ?_)
  have hf := z_let_u hx2 hf
  refine va_put (D := D) (ci := 4) (v := .long x2) (ty := tyX4 5) (C := RX4) (T := TX4) (N := 10) hx hb htw WW_wsX40 tyX4 tyX4_ok nmX4 hown hKX.1 hP hD hS 0 rfl rfl 5 (Nat.le_of_ble_eq_true rfl) (htw _ mF_RX4_35) (fun _ h9 => h9) rfl (tyX4_ok 5 (Nat.le_of_ble_eq_true rfl)) rfl rfl (Nat.le_of_ble_eq_true rfl) dX4_put_18 (fun H locs hP hD hS => ?_)
  have hP : va_P D vwCl (shW ac q ((sh_shooters sh), (sh_order sh), (sh_first sh), (sh_kicks sh), (sh_goalBits sh), x2, (sh_goalsOfA sh), (sh_goalsOfB sh), (sh_nerves sh), (sh_skills sh))) H := hP
  have hD : va_D A (shW ac q ((sh_shooters sh), (sh_order sh), (sh_first sh), (sh_kicks sh), (sh_goalBits sh), x2, (sh_goalsOfA sh), (sh_goalsOfB sh), (sh_nerves sh), (sh_skills sh))) := hD
  refine lv_iload_n hx hb dX4_put_21 rfl (lv_at hl 2 rfl) ?_
  obtain ⟨k4, hk4, hf⟩ := z_jn_u hf
  have hj5 : ∀ (sh3 : Sh), k4 sh3 = res → ∀ (H : Heap) (locs : List Loc) (ls : Array Slot), va_P D vwCl (shW ac q sh3) H → va_D A (shW ac q sh3) → va_S A s.heap H locs → lv_has ls 3 [(0, .ref (q 0))] → W p l e ({ frames := 4, cells := 0, slots := 0, locals := 83 } : Room) s m (([.ref (q 0), .int a1] : List Value).toArray) below meth c H locs 0 0 (MQ below (va_Qv (fun _ : Unit => True) (fun _ => zB D A (shW ac q res)) A) ([.ref (q 0), .int a1] : List Value).toArray s 0 0 A) (F0 m 62 ls []) := by
    intro sh3 hf H locs ls hP hD hS hl
    have hf := hk4 _ hf
    refine lv_aload_n hx hb dX4_put_62 rfl (lv_at hl 0 rfl) ?_
    refine lv_dup hx hb dX4_put_63 rfl ?_
    refine va_get (D := D) (ci := 4) (v := .int (sh_kicks sh3)) (C := RX4) (T := TX4) (N := 10) hx hb htw WW_wsX40 hown hKX.1 hP 0 rfl rfl 3 (Nat.le_of_ble_eq_true rfl) (htw _ mF_RX4_28) (fun _ h9 => h9) rfl dX4_put_64 ?_
    refine lv_iconst (v := 1) hx hb dX4_put_67 rfl ?_
    refine lv_iadd hx hb dX4_put_68 ?_
    refine lv_topi (fun x6 hx6 => ?_)
    have hf := z_let_u hx6 hf
    refine va_put (D := D) (ci := 4) (v := .int x6) (ty := tyX4 3) (C := RX4) (T := TX4) (N := 10) hx hb htw WW_wsX40 tyX4 tyX4_ok nmX4 hown hKX.1 hP hD hS 0 rfl rfl 3 (Nat.le_of_ble_eq_true rfl) (htw _ mF_RX4_28) (fun _ h9 => h9) rfl (tyX4_ok 3 (Nat.le_of_ble_eq_true rfl)) rfl rfl (Nat.le_of_ble_eq_true rfl) dX4_put_69 (fun H locs hP hD hS => ?_)
    have hP : va_P D vwCl (shW ac q ((sh_shooters sh3), (sh_order sh3), (sh_first sh3), x6, (sh_goalBits sh3), (sh_sideBits sh3), (sh_goalsOfA sh3), (sh_goalsOfB sh3), (sh_nerves sh3), (sh_skills sh3))) H := hP
    have hD : va_D A (shW ac q ((sh_shooters sh3), (sh_order sh3), (sh_first sh3), x6, (sh_goalBits sh3), (sh_sideBits sh3), (sh_goalsOfA sh3), (sh_goalsOfB sh3), (sh_nerves sh3), (sh_skills sh3))) := hD
    subst hf
    exact zr_Mv hx hb hr hlocks hP hD hS dX4_put_72
  refine lv_if_eq (tgt := 62) hx hb dX4_put_22 (by decide) (fun c7 => ?_) (fun c7 => ?_)
  · have hf := z_p c7 hf
    exact hj5 ((sh_shooters sh), (sh_order sh), (sh_first sh), (sh_kicks sh), (sh_goalBits sh), x2, (sh_goalsOfA sh), (sh_goalsOfB sh), (sh_nerves sh), (sh_skills sh)) hf _ _ ls  hP hD hS (lv_sub hl [1] rfl)
  · have hf := z_n c7 hf
    refine lv_aload_n hx hb dX4_put_25 rfl (lv_at hl 1 rfl) ?_
    refine lv_dup hx hb dX4_put_26 rfl ?_
    refine va_get (D := D) (ci := 4) (v := .long (sh_goalBits sh)) (C := RX4) (T := TX4) (N := 10) hx hb htw WW_wsX40 hown hKX.1 hP 0 rfl rfl 4 (Nat.le_of_ble_eq_true rfl) (htw _ mF_RX4_31) (fun _ h9 => h9) rfl dX4_put_27 ?_
    refine lv_lconst (v := 1) hx hb dX4_put_30 rfl ?_
    refine lv_aload_n hx hb dX4_put_31 rfl (lv_at hl 1 rfl) ?_
    refine va_get (D := D) (ci := 4) (v := .int (sh_kicks sh)) (C := RX4) (T := TX4) (N := 10) hx hb htw WW_wsX40 hown hKX.1 hP 0 rfl rfl 3 (Nat.le_of_ble_eq_true rfl) (htw _ mF_RX4_28) (fun _ h9 => h9) rfl dX4_put_32 ?_
    refine lv_lshl hx hb dX4_put_35 rfl ?_
    refine lv_lor hx hb dX4_put_36 ?_
    refine lv_topl (fun x8 hx8 => ?_)
    have hf := z_let_u hx8 hf
    refine va_put (D := D) (ci := 4) (v := .long x8) (ty := tyX4 4) (C := RX4) (T := TX4) (N := 10) hx hb htw WW_wsX40 tyX4 tyX4_ok nmX4 hown hKX.1 hP hD hS 0 rfl rfl 4 (Nat.le_of_ble_eq_true rfl) (htw _ mF_RX4_31) (fun _ h9 => h9) rfl (tyX4_ok 4 (Nat.le_of_ble_eq_true rfl)) rfl rfl (Nat.le_of_ble_eq_true rfl) dX4_put_37 (fun H locs hP hD hS => ?_)
    have hP : va_P D vwCl (shW ac q ((sh_shooters sh), (sh_order sh), (sh_first sh), (sh_kicks sh), x8, x2, (sh_goalsOfA sh), (sh_goalsOfB sh), (sh_nerves sh), (sh_skills sh))) H := hP
    have hD : va_D A (shW ac q ((sh_shooters sh), (sh_order sh), (sh_first sh), (sh_kicks sh), x8, x2, (sh_goalsOfA sh), (sh_goalsOfB sh), (sh_nerves sh), (sh_skills sh))) := hD
    refine lv_aload_n hx hb dX4_put_40 rfl (lv_at hl 1 rfl) ?_
    refine lv_dup hx hb dX4_put_41 rfl ?_
    refine va_get (D := D) (ci := 4) (v := .int (sh_goalsOfA sh)) (C := RX4) (T := TX4) (N := 10) hx hb htw WW_wsX40 hown hKX.1 hP 0 rfl rfl 6 (Nat.le_of_ble_eq_true rfl) (htw _ mF_RX4_38) (fun _ h9 => h9) rfl dX4_put_42 ?_
    refine lv_iconst (v := 1) hx hb dX4_put_45 rfl ?_
    refine lv_iload_n hx hb dX4_put_46 rfl (lv_at hl 0 rfl) ?_
    refine lv_isub hx hb dX4_put_47 ?_
    refine lv_iadd hx hb dX4_put_48 ?_
    refine lv_topi (fun x9 hx9 => ?_)
    have hf := z_let_u hx9 hf
    refine va_put (D := D) (ci := 4) (v := .int x9) (ty := tyX4 6) (C := RX4) (T := TX4) (N := 10) hx hb htw WW_wsX40 tyX4 tyX4_ok nmX4 hown hKX.1 hP hD hS 0 rfl rfl 6 (Nat.le_of_ble_eq_true rfl) (htw _ mF_RX4_38) (fun _ h9 => h9) rfl (tyX4_ok 6 (Nat.le_of_ble_eq_true rfl)) rfl rfl (Nat.le_of_ble_eq_true rfl) dX4_put_49 (fun H locs hP hD hS => ?_)
    have hP : va_P D vwCl (shW ac q ((sh_shooters sh), (sh_order sh), (sh_first sh), (sh_kicks sh), x8, x2, x9, (sh_goalsOfB sh), (sh_nerves sh), (sh_skills sh))) H := hP
    have hD : va_D A (shW ac q ((sh_shooters sh), (sh_order sh), (sh_first sh), (sh_kicks sh), x8, x2, x9, (sh_goalsOfB sh), (sh_nerves sh), (sh_skills sh))) := hD
    refine lv_aload_n hx hb dX4_put_52 rfl (lv_at hl 1 rfl) ?_
    refine lv_dup hx hb dX4_put_53 rfl ?_
    refine va_get (D := D) (ci := 4) (v := .int (sh_goalsOfB sh)) (C := RX4) (T := TX4) (N := 10) hx hb htw WW_wsX40 hown hKX.1 hP 0 rfl rfl 7 (Nat.le_of_ble_eq_true rfl) (htw _ mF_RX4_41) (fun _ h9 => h9) rfl dX4_put_54 ?_
    refine lv_iload_n hx hb dX4_put_57 rfl (lv_at hl 0 rfl) ?_
    refine lv_iadd hx hb dX4_put_58 ?_
    refine lv_topi (fun x10 hx10 => ?_)
    have hf := z_let_u hx10 hf
    refine va_put (D := D) (ci := 4) (v := .int x10) (ty := tyX4 7) (C := RX4) (T := TX4) (N := 10) hx hb htw WW_wsX40 tyX4 tyX4_ok nmX4 hown hKX.1 hP hD hS 0 rfl rfl 7 (Nat.le_of_ble_eq_true rfl) (htw _ mF_RX4_41) (fun _ h9 => h9) rfl (tyX4_ok 7 (Nat.le_of_ble_eq_true rfl)) rfl rfl (Nat.le_of_ble_eq_true rfl) dX4_put_59 (fun H locs hP hD hS => ?_)
    have hP : va_P D vwCl (shW ac q ((sh_shooters sh), (sh_order sh), (sh_first sh), (sh_kicks sh), x8, x2, x9, x10, (sh_nerves sh), (sh_skills sh))) H := hP
    have hD : va_D A (shW ac q ((sh_shooters sh), (sh_order sh), (sh_first sh), (sh_kicks sh), x8, x2, x9, x10, (sh_nerves sh), (sh_skills sh))) := hD
    exact hj5 ((sh_shooters sh), (sh_order sh), (sh_first sh), (sh_kicks sh), x8, x2, x9, x10, (sh_nerves sh), (sh_skills sh)) hf _ _ ls  hP hD hS (lv_sub hl [1] rfl)

theorem hd_yX4_kicksOf : hdY yX4_kicksOf 1 := by decide +kernel
def Sh_kicksOf (sh : Sh) (a1 : Int32) : Int32 := if (z_rem (sh_kicks sh) 2) = 1 then (if Sh_sideOfKick sh ((sh_kicks sh) - 1) = a1 then (((sh_kicks sh) / 2) + 1) else (((sh_kicks sh) / 2) + 0)) else (((sh_kicks sh) / 2) + 0)
set_option maxHeartbeats 4000000 in
set_option maxRecDepth 100000 in
theorem ctX4_kicksOf (l : Launch) (D : va_G) (ac cs : Nat → Nat) (q : Nat → Nat) (sh : Sh) (a1 : Int32) (res : Int32) (hf : Sh_kicksOf sh a1 = res) : Met l yX4_kicksOf (cWW yX4_kicksOf cX4_kicksOf 2 (some .int)) { frames := 1, cells := 0, slots := 0, locals := 21 } (zR D ac cs [.ref (q 0), .int a1] (shW ac q sh)) (vp_Si (fun r => r = res)) 0 0 (fun _ => False) := by
  refine Met.ofW (cc := cX4_kicksOf) (maxL := 2) (ret := (some .int)) (by decide) rfl ?_
  intro p e s m args below meth c s₁ B hml hv
  obtain ⟨rfl, hP, hKX, hC⟩ := hv
  have hx := B.exec
  have hb := B.bytes
  have hr := B.returns
  have hts := atoms_spec (ws := cWW yX4_kicksOf cX4_kicksOf 2 (some .int)) B.pre
  have htw : ∀ w ∈ WW, w.before _ s = true := fun w h => hts w (List.mem_cons_of_mem _ h)
  have hown : s.vm.findClass RX4 = some m.cls := findClass_of_methodNamed B.named
  have hlocks := B.notSynchronized
  clear hts B
  have hS : va_S (fun _ => False) s.heap s.heap [] := va_S.rf
  have hl := lv_entry ([.ref (q 0), .int a1]) (n := 2) (Nat.le_of_ble_eq_true rfl)
  rw [lg_entry_eq]
  generalize (lg_sl ([.ref (q 0), .int a1]) ++ List.replicate (2 - (lg_sl ([.ref (q 0), .int a1])).length) Slot.unset).toArray = ls at hl ⊢
  have hl : lv_has ls 2 [(0, .ref (q 0)), (1, .int a1)] := hl
  unfold Sh_kicksOf at hf
  show W p l e ({ frames := 1, cells := 0, slots := 0, locals := 21 } : Room) s m _ below meth c s.heap [] 0 0 _ (F0 m 0 ls [])
  refine lv_aload_n hx hb dX4_kicksOf_0 rfl (lv_at hl 0 rfl) ?_
  refine va_get (D := D) (ci := 4) (v := .int (sh_kicks sh)) (C := RX4) (T := TX4) (N := 10) hx hb htw WW_wsX40 hown hKX.1 hP 0 rfl rfl 3 (Nat.le_of_ble_eq_true rfl) (htw _ mF_RX4_28) (fun _ h9 => h9) rfl dX4_kicksOf_1 ?_
  refine lv_iconst (v := 2) hx hb dX4_kicksOf_4 rfl ?_
  refine lv_idiv hx hb dX4_kicksOf_5 (by decide) ?_
  refine lv_aload_n hx hb dX4_kicksOf_6 rfl (lv_at hl 0 rfl) ?_
  refine va_get (D := D) (ci := 4) (v := .int (sh_kicks sh)) (C := RX4) (T := TX4) (N := 10) hx hb htw WW_wsX40 hown hKX.1 hP 0 rfl rfl 3 (Nat.le_of_ble_eq_true rfl) (htw _ mF_RX4_28) (fun _ h9 => h9) rfl dX4_kicksOf_7 ?_
  refine lv_iconst (v := 2) hx hb dX4_kicksOf_10 rfl ?_
  refine zv_irem hx hb dX4_kicksOf_11 (by decide) ?_
  refine lv_iconst (v := 1) hx hb dX4_kicksOf_12 rfl ?_
  refine lv_icmp_ne (tgt := 34) hx hb dX4_kicksOf_13 (by decide) (fun c1 => ?_) (fun c1 => ?_)
  · have hf := z_n c1 hf
    refine lv_iconst (v := 0) hx hb dX4_kicksOf_34 rfl ?_
    refine lv_iadd hx hb dX4_kicksOf_35 ?_
    exact zr_Ri hx hb hr hlocks hf dX4_kicksOf_36
  · have hf := z_p c1 hf
    refine lv_aload_n hx hb dX4_kicksOf_16 rfl (lv_at hl 0 rfl) ?_
    refine lv_aload_n hx hb dX4_kicksOf_17 rfl (lv_at hl 0 rfl) ?_
    refine va_get (D := D) (ci := 4) (v := .int (sh_kicks sh)) (C := RX4) (T := TX4) (N := 10) hx hb htw WW_wsX40 hown hKX.1 hP 0 rfl rfl 3 (Nat.le_of_ble_eq_true rfl) (htw _ mF_RX4_28) (fun _ h9 => h9) rfl dX4_kicksOf_18 ?_
    refine lv_iconst (v := 1) hx hb dX4_kicksOf_21 rfl ?_
    refine lv_isub hx hb dX4_kicksOf_22 ?_
    refine zc_RVi (As := [.int ((sh_kicks sh) - 1)]) (rest := [.int ((sh_kicks sh) / 2)]) hx hb hml hown htw (ctX4_sideOfKick l D ac cs q sh ((sh_kicks sh) - 1)   _ rfl) (g_V mM_RX4_47 mI_yX4_sideOfKick mS_RX4_yX4_sideOfKick_yX4_sideOfKick mN_RX4 mC_yX4_sideOfKick) rfl (hd_yX4_sideOfKick) ⟨rfl, rfl⟩ ⟨(Nat.le_of_ble_eq_true rfl), (Nat.le_of_ble_eq_true rfl)⟩ hKX hC hS hP 4 rfl rfl rfl hl.1 rfl (Nat.le_of_ble_eq_true rfl) ⟨Nat.zero_le _, Nat.zero_le _⟩ dX4_kicksOf_23 ?_
    refine lv_iload_n hx hb dX4_kicksOf_26 rfl (lv_at hl 1 rfl) ?_
    refine lv_icmp_ne (tgt := 34) hx hb dX4_kicksOf_27 (by decide) (fun c2 => ?_) (fun c2 => ?_)
    · have hf := z_n c2 hf
      refine lv_iconst (v := 0) hx hb dX4_kicksOf_34 rfl ?_
      refine lv_iadd hx hb dX4_kicksOf_35 ?_
      exact zr_Ri hx hb hr hlocks hf dX4_kicksOf_36
    · have hf := z_p c2 hf
      refine lv_iconst (v := 1) hx hb dX4_kicksOf_30 rfl ?_
      refine lv_goto (tgt := 35) hx hb dX4_kicksOf_31 (by decide) ?_
      refine lv_iadd hx hb dX4_kicksOf_35 ?_
      exact zr_Ri hx hb hr hlocks hf dX4_kicksOf_36

theorem hd_yX4_copyFrom : hdY yX4_copyFrom 1 := by decide +kernel
def Sh_copyFrom_L66 (so : Sh) (kx14 : Sh → Option (Sh)) : Nat → Int32 → Sh → Option (Sh)
  | 0, _, _ => none
  | n12 + 1, x9, sh10 => if 4 ≤ x9 then (kx14 sh10) else (z_gd (z_in x9 4) (z_let ((sh_nerves so) x9.toNatClampNeg) (fun x18 : Int32 => z_gd (z_in x9 4) (z_let (x9 + 1) (fun x20 : Int32 => Sh_copyFrom_L66 so kx14 n12 x20 ((sh_shooters sh10), (sh_order sh10), (sh_first sh10), (sh_kicks sh10), (sh_goalBits sh10), (sh_sideBits sh10), (sh_goalsOfA sh10), (sh_goalsOfB sh10), (upd (sh_nerves sh10) x9.toNatClampNeg x18), (sh_skills sh10)))))))
def Sh_copyFrom_L95 (so : Sh) : Nat → Int32 → Sh → Option (Sh)
  | 0, _, _ => none
  | n24 + 1, x21, sh22 => if 10 ≤ x21 then (some sh22) else (z_gd (z_in x21 10) (z_let ((sh_skills so) x21.toNatClampNeg) (fun x28 : Int32 => z_gd (z_in x21 10) (z_let (x21 + 1) (fun x30 : Int32 => Sh_copyFrom_L95 so n24 x30 ((sh_shooters sh22), (sh_order sh22), (sh_first sh22), (sh_kicks sh22), (sh_goalBits sh22), (sh_sideBits sh22), (sh_goalsOfA sh22), (sh_goalsOfB sh22), (sh_nerves sh22), (upd (sh_skills sh22) x21.toNatClampNeg x28)))))))
def Sh_copyFrom (F : Nat) (sh : Sh) (so : Sh) : Option (Sh) := z_let (sh_shooters so) (fun x1 : Int32 => z_let (sh_order so) (fun x2 : Int32 => z_let (sh_first so) (fun x3 : Int32 => z_let (sh_kicks so) (fun x4 : Int32 => z_let (sh_goalBits so) (fun x5 : Int64 => z_let (sh_sideBits so) (fun x6 : Int64 => z_let (sh_goalsOfA so) (fun x7 : Int32 => z_let (sh_goalsOfB so) (fun x8 : Int32 => Sh_copyFrom_L66 so (fun (sh15 : Sh) => Sh_copyFrom_L95 so F 0 sh15) F 0 (x1, x2, x3, x4, x5, x6, x7, x8, (sh_nerves sh), (sh_skills sh))))))))))
set_option maxHeartbeats 4000000 in
set_option maxRecDepth 100000 in
theorem ctX4_copyFrom (l : Launch) (D : va_G) (ac cs : Nat → Nat) (q : Nat → Nat) (qo : Nat → Nat) (sz : Nat) (sh : Sh) (so : Sh) (F : Nat) (res : Sh) (hf : Sh_copyFrom F sh so = some res) : Met l yX4_copyFrom (cWW yX4_copyFrom cX4_copyFrom 3 none) { frames := 0, cells := 0, slots := 0, locals := 0 } (zM D ac cs [.ref (q 0), .ref (qo 0)] (shW ac q sh ++ (shW ac qo so)) sz) (va_Qv (fun _ : Unit => True) (fun _ => zB D (va_A (shW ac q sh ++ (shW ac qo so)) sz) (shW ac q res ++ (shW ac qo so))) (va_A (shW ac q sh ++ (shW ac qo so)) sz)) 0 0 (va_A (shW ac q sh ++ (shW ac qo so)) sz) := by
  refine Met.ofW (cc := cX4_copyFrom) (maxL := 3) (ret := none) (by decide) rfl ?_
  intro p e s m args below meth c s₁ B hml hv
  obtain ⟨rfl, hsz, hP, hKX, hD0, hC⟩ := hv
  have hx := B.exec
  have hb := B.bytes
  have hr := B.returns
  have hts := atoms_spec (ws := cWW yX4_copyFrom cX4_copyFrom 3 none) B.pre
  have htw : ∀ w ∈ WW, w.before _ s = true := fun w h => hts w (List.mem_cons_of_mem _ h)
  have hown : s.vm.findClass RX4 = some m.cls := findClass_of_methodNamed B.named
  have hlocks := B.notSynchronized
  clear hts B
  subst hsz
  have hD := hD0.self (sz := s.heap.size)
  generalize hAe : va_A (shW ac q sh ++ (shW ac qo so)) s.heap.size = A at hD hC ⊢
  have hA : ∀ q : Nat, s.heap.size ≤ q → A q := fun q h => by rw [← hAe]; exact Or.inr h
  have hS : va_S A s.heap s.heap [] := va_S.rf
  clear hD0 hAe
  have hP : va_P D vwCl (shW ac q sh ++ (shW ac qo so)) s.heap := hP
  have hl := lv_entry ([.ref (q 0), .ref (qo 0)]) (n := 3) (Nat.le_of_ble_eq_true rfl)
  rw [lg_entry_eq]
  generalize (lg_sl ([.ref (q 0), .ref (qo 0)]) ++ List.replicate (3 - (lg_sl ([.ref (q 0), .ref (qo 0)])).length) Slot.unset).toArray = ls at hl ⊢
  have hl : lv_has ls 3 [(0, .ref (q 0)), (1, .ref (qo 0))] := hl
  unfold Sh_copyFrom at hf
  show W p l e ({ frames := 0, cells := 0, slots := 0, locals := 0 } : Room) s m _ below meth c s.heap [] 0 0 _ (F0 m 0 ls [])
  refine lv_aload_n hx hb dX4_copyFrom_0 rfl (lv_at hl 0 rfl) ?_
  refine lv_aload_n hx hb dX4_copyFrom_1 rfl (lv_at hl 1 rfl) ?_
  refine va_get (D := D) (ci := 4) (v := .int (sh_shooters so)) (C := RX4) (T := TX4) (N := 10) hx hb htw WW_wsX40 hown hKX.1 hP 3 rfl rfl 0 (Nat.le_of_ble_eq_true rfl) (htw _ mF_RX4_18) (fun _ h9 => h9) rfl dX4_copyFrom_2 ?_
  refine lv_topi (fun x1 hx1 => ?_)
  have hf := z_let_u hx1 hf
  refine va_put (D := D) (ci := 4) (v := .int x1) (ty := tyX4 0) (C := RX4) (T := TX4) (N := 10) hx hb htw WW_wsX40 tyX4 tyX4_ok nmX4 hown hKX.1 hP hD hS 0 rfl rfl 0 (Nat.le_of_ble_eq_true rfl) (htw _ mF_RX4_18) (fun _ h9 => h9) rfl (tyX4_ok 0 (Nat.le_of_ble_eq_true rfl)) rfl rfl (Nat.le_of_ble_eq_true rfl) dX4_copyFrom_5 (fun H locs hP hD hS => ?_)
  have hP : va_P D vwCl (shW ac q (x1, (sh_order sh), (sh_first sh), (sh_kicks sh), (sh_goalBits sh), (sh_sideBits sh), (sh_goalsOfA sh), (sh_goalsOfB sh), (sh_nerves sh), (sh_skills sh)) ++ (shW ac qo so)) H := hP
  have hD : va_D A (shW ac q (x1, (sh_order sh), (sh_first sh), (sh_kicks sh), (sh_goalBits sh), (sh_sideBits sh), (sh_goalsOfA sh), (sh_goalsOfB sh), (sh_nerves sh), (sh_skills sh)) ++ (shW ac qo so)) := hD
  refine lv_aload_n hx hb dX4_copyFrom_8 rfl (lv_at hl 0 rfl) ?_
  refine lv_aload_n hx hb dX4_copyFrom_9 rfl (lv_at hl 1 rfl) ?_
  refine va_get (D := D) (ci := 4) (v := .int (sh_order so)) (C := RX4) (T := TX4) (N := 10) hx hb htw WW_wsX40 hown hKX.1 hP 3 rfl rfl 1 (Nat.le_of_ble_eq_true rfl) (htw _ mF_RX4_22) (fun _ h9 => h9) rfl dX4_copyFrom_10 ?_
  refine lv_topi (fun x2 hx2 => ?_)
  have hf := z_let_u hx2 hf
  refine va_put (D := D) (ci := 4) (v := .int x2) (ty := tyX4 1) (C := RX4) (T := TX4) (N := 10) hx hb htw WW_wsX40 tyX4 tyX4_ok nmX4 hown hKX.1 hP hD hS 0 rfl rfl 1 (Nat.le_of_ble_eq_true rfl) (htw _ mF_RX4_22) (fun _ h9 => h9) rfl (tyX4_ok 1 (Nat.le_of_ble_eq_true rfl)) rfl rfl (Nat.le_of_ble_eq_true rfl) dX4_copyFrom_13 (fun H locs hP hD hS => ?_)
  have hP : va_P D vwCl (shW ac q (x1, x2, (sh_first sh), (sh_kicks sh), (sh_goalBits sh), (sh_sideBits sh), (sh_goalsOfA sh), (sh_goalsOfB sh), (sh_nerves sh), (sh_skills sh)) ++ (shW ac qo so)) H := hP
  have hD : va_D A (shW ac q (x1, x2, (sh_first sh), (sh_kicks sh), (sh_goalBits sh), (sh_sideBits sh), (sh_goalsOfA sh), (sh_goalsOfB sh), (sh_nerves sh), (sh_skills sh)) ++ (shW ac qo so)) := hD
  refine lv_aload_n hx hb dX4_copyFrom_16 rfl (lv_at hl 0 rfl) ?_
  refine lv_aload_n hx hb dX4_copyFrom_17 rfl (lv_at hl 1 rfl) ?_
  refine va_get (D := D) (ci := 4) (v := .int (sh_first so)) (C := RX4) (T := TX4) (N := 10) hx hb htw WW_wsX40 hown hKX.1 hP 3 rfl rfl 2 (Nat.le_of_ble_eq_true rfl) (htw _ mF_RX4_25) (fun _ h9 => h9) rfl dX4_copyFrom_18 ?_
  refine lv_topi (fun x3 hx3 => ?_)
  have hf := z_let_u hx3 hf
  refine va_put (D := D) (ci := 4) (v := .int x3) (ty := tyX4 2) (C := RX4) (T := TX4) (N := 10) hx hb htw WW_wsX40 tyX4 tyX4_ok nmX4 hown hKX.1 hP hD hS 0 rfl rfl 2 (Nat.le_of_ble_eq_true rfl) (htw _ mF_RX4_25) (fun _ h9 => h9) rfl (tyX4_ok 2 (Nat.le_of_ble_eq_true rfl)) rfl rfl (Nat.le_of_ble_eq_true rfl) dX4_copyFrom_21 (fun H locs hP hD hS => ?_)
  have hP : va_P D vwCl (shW ac q (x1, x2, x3, (sh_kicks sh), (sh_goalBits sh), (sh_sideBits sh), (sh_goalsOfA sh), (sh_goalsOfB sh), (sh_nerves sh), (sh_skills sh)) ++ (shW ac qo so)) H := hP
  have hD : va_D A (shW ac q (x1, x2, x3, (sh_kicks sh), (sh_goalBits sh), (sh_sideBits sh), (sh_goalsOfA sh), (sh_goalsOfB sh), (sh_nerves sh), (sh_skills sh)) ++ (shW ac qo so)) := hD
  refine lv_aload_n hx hb dX4_copyFrom_24 rfl (lv_at hl 0 rfl) ?_
  refine lv_aload_n hx hb dX4_copyFrom_25 rfl (lv_at hl 1 rfl) ?_
  refine va_get (D := D) (ci := 4) (v := .int (sh_kicks so)) (C := RX4) (T := TX4) (N := 10) hx hb htw WW_wsX40 hown hKX.1 hP 3 rfl rfl 3 (Nat.le_of_ble_eq_true rfl) (htw _ mF_RX4_28) (fun _ h9 => h9) rfl dX4_copyFrom_26 ?_
  refine lv_topi (fun x4 hx4 => ?_)
  have hf := z_let_u hx4 hf
  refine va_put (D := D) (ci := 4) (v := .int x4) (ty := tyX4 3) (C := RX4) (T := TX4) (N := 10) hx hb htw WW_wsX40 tyX4 tyX4_ok nmX4 hown hKX.1 hP hD hS 0 rfl rfl 3 (Nat.le_of_ble_eq_true rfl) (htw _ mF_RX4_28) (fun _ h9 => h9) rfl (tyX4_ok 3 (Nat.le_of_ble_eq_true rfl)) rfl rfl (Nat.le_of_ble_eq_true rfl) dX4_copyFrom_29 (fun H locs hP hD hS => ?_)
  have hP : va_P D vwCl (shW ac q (x1, x2, x3, x4, (sh_goalBits sh), (sh_sideBits sh), (sh_goalsOfA sh), (sh_goalsOfB sh), (sh_nerves sh), (sh_skills sh)) ++ (shW ac qo so)) H := hP
  have hD : va_D A (shW ac q (x1, x2, x3, x4, (sh_goalBits sh), (sh_sideBits sh), (sh_goalsOfA sh), (sh_goalsOfB sh), (sh_nerves sh), (sh_skills sh)) ++ (shW ac qo so)) := hD
  refine lv_aload_n hx hb dX4_copyFrom_32 rfl (lv_at hl 0 rfl) ?_
  refine lv_aload_n hx hb dX4_copyFrom_33 rfl (lv_at hl 1 rfl) ?_
  refine va_get (D := D) (ci := 4) (v := .long (sh_goalBits so)) (C := RX4) (T := TX4) (N := 10) hx hb htw WW_wsX40 hown hKX.1 hP 3 rfl rfl 4 (Nat.le_of_ble_eq_true rfl) (htw _ mF_RX4_31) (fun _ h9 => h9) rfl dX4_copyFrom_34 ?_
  refine lv_topl (fun x5 hx5 => ?_)
  have hf := z_let_u hx5 hf
  refine va_put (D := D) (ci := 4) (v := .long x5) (ty := tyX4 4) (C := RX4) (T := TX4) (N := 10) hx hb htw WW_wsX40 tyX4 tyX4_ok nmX4 hown hKX.1 hP hD hS 0 rfl rfl 4 (Nat.le_of_ble_eq_true rfl) (htw _ mF_RX4_31) (fun _ h9 => h9) rfl (tyX4_ok 4 (Nat.le_of_ble_eq_true rfl)) rfl rfl (Nat.le_of_ble_eq_true rfl) dX4_copyFrom_37 (fun H locs hP hD hS => ?_)
  have hP : va_P D vwCl (shW ac q (x1, x2, x3, x4, x5, (sh_sideBits sh), (sh_goalsOfA sh), (sh_goalsOfB sh), (sh_nerves sh), (sh_skills sh)) ++ (shW ac qo so)) H := hP
  have hD : va_D A (shW ac q (x1, x2, x3, x4, x5, (sh_sideBits sh), (sh_goalsOfA sh), (sh_goalsOfB sh), (sh_nerves sh), (sh_skills sh)) ++ (shW ac qo so)) := hD
  refine lv_aload_n hx hb dX4_copyFrom_40 rfl (lv_at hl 0 rfl) ?_
  refine lv_aload_n hx hb dX4_copyFrom_41 rfl (lv_at hl 1 rfl) ?_
  refine va_get (D := D) (ci := 4) (v := .long (sh_sideBits so)) (C := RX4) (T := TX4) (N := 10) hx hb htw WW_wsX40 hown hKX.1 hP 3 rfl rfl 5 (Nat.le_of_ble_eq_true rfl) (htw _ mF_RX4_35) (fun _ h9 => h9) rfl dX4_copyFrom_42 ?_
  refine lv_topl (fun x6 hx6 => ?_)
  have hf := z_let_u hx6 hf
  refine va_put (D := D) (ci := 4) (v := .long x6) (ty := tyX4 5) (C := RX4) (T := TX4) (N := 10) hx hb htw WW_wsX40 tyX4 tyX4_ok nmX4 hown hKX.1 hP hD hS 0 rfl rfl 5 (Nat.le_of_ble_eq_true rfl) (htw _ mF_RX4_35) (fun _ h9 => h9) rfl (tyX4_ok 5 (Nat.le_of_ble_eq_true rfl)) rfl rfl (Nat.le_of_ble_eq_true rfl) dX4_copyFrom_45 (fun H locs hP hD hS => ?_)
  have hP : va_P D vwCl (shW ac q (x1, x2, x3, x4, x5, x6, (sh_goalsOfA sh), (sh_goalsOfB sh), (sh_nerves sh), (sh_skills sh)) ++ (shW ac qo so)) H := hP
  have hD : va_D A (shW ac q (x1, x2, x3, x4, x5, x6, (sh_goalsOfA sh), (sh_goalsOfB sh), (sh_nerves sh), (sh_skills sh)) ++ (shW ac qo so)) := hD
  refine lv_aload_n hx hb dX4_copyFrom_48 rfl (lv_at hl 0 rfl) ?_
  refine lv_aload_n hx hb dX4_copyFrom_49 rfl (lv_at hl 1 rfl) ?_
  refine va_get (D := D) (ci := 4) (v := .int (sh_goalsOfA so)) (C := RX4) (T := TX4) (N := 10) hx hb htw WW_wsX40 hown hKX.1 hP 3 rfl rfl 6 (Nat.le_of_ble_eq_true rfl) (htw _ mF_RX4_38) (fun _ h9 => h9) rfl dX4_copyFrom_50 ?_
  refine lv_topi (fun x7 hx7 => ?_)
  have hf := z_let_u hx7 hf
  refine va_put (D := D) (ci := 4) (v := .int x7) (ty := tyX4 6) (C := RX4) (T := TX4) (N := 10) hx hb htw WW_wsX40 tyX4 tyX4_ok nmX4 hown hKX.1 hP hD hS 0 rfl rfl 6 (Nat.le_of_ble_eq_true rfl) (htw _ mF_RX4_38) (fun _ h9 => h9) rfl (tyX4_ok 6 (Nat.le_of_ble_eq_true rfl)) rfl rfl (Nat.le_of_ble_eq_true rfl) dX4_copyFrom_53 (fun H locs hP hD hS => ?_)
  have hP : va_P D vwCl (shW ac q (x1, x2, x3, x4, x5, x6, x7, (sh_goalsOfB sh), (sh_nerves sh), (sh_skills sh)) ++ (shW ac qo so)) H := hP
  have hD : va_D A (shW ac q (x1, x2, x3, x4, x5, x6, x7, (sh_goalsOfB sh), (sh_nerves sh), (sh_skills sh)) ++ (shW ac qo so)) := hD
  refine lv_aload_n hx hb dX4_copyFrom_56 rfl (lv_at hl 0 rfl) ?_
  refine lv_aload_n hx hb dX4_copyFrom_57 rfl (lv_at hl 1 rfl) ?_
  refine va_get (D := D) (ci := 4) (v := .int (sh_goalsOfB so)) (C := RX4) (T := TX4) (N := 10) hx hb htw WW_wsX40 hown hKX.1 hP 3 rfl rfl 7 (Nat.le_of_ble_eq_true rfl) (htw _ mF_RX4_41) (fun _ h9 => h9) rfl dX4_copyFrom_58 ?_
  refine lv_topi (fun x8 hx8 => ?_)
  have hf := z_let_u hx8 hf
  refine va_put (D := D) (ci := 4) (v := .int x8) (ty := tyX4 7) (C := RX4) (T := TX4) (N := 10) hx hb htw WW_wsX40 tyX4 tyX4_ok nmX4 hown hKX.1 hP hD hS 0 rfl rfl 7 (Nat.le_of_ble_eq_true rfl) (htw _ mF_RX4_41) (fun _ h9 => h9) rfl (tyX4_ok 7 (Nat.le_of_ble_eq_true rfl)) rfl rfl (Nat.le_of_ble_eq_true rfl) dX4_copyFrom_61 (fun H locs hP hD hS => ?_)
  have hP : va_P D vwCl (shW ac q (x1, x2, x3, x4, x5, x6, x7, x8, (sh_nerves sh), (sh_skills sh)) ++ (shW ac qo so)) H := hP
  have hD : va_D A (shW ac q (x1, x2, x3, x4, x5, x6, x7, x8, (sh_nerves sh), (sh_skills sh)) ++ (shW ac qo so)) := hD
  refine lv_iconst (v := 0) hx hb dX4_copyFrom_64 rfl ?_
  refine lv_istore_n (lv' := [(2, .int 0), (0, .ref (q 0)), (1, .ref (qo 0))]) hx hb dX4_copyFrom_65 rfl hl (Nat.le_of_ble_eq_true rfl) rfl (fun ls hl => ?_)
  have hL11 : ∀ (kx14 : Sh → Option (Sh)) (hkx14 : ∀ (sh15 : Sh), kx14 sh15 = some res → ∀ (H : Heap) (locs : List Loc) (ls : Array Slot), va_P D vwCl (shW ac q sh15 ++ (shW ac qo so)) H → va_D A (shW ac q sh15 ++ (shW ac qo so)) → va_S A s.heap H locs → lv_has ls 3 [(0, .ref (q 0)), (1, .ref (qo 0))] → W p l e ({ frames := 0, cells := 0, slots := 0, locals := 0 } : Room) s m (([.ref (q 0), .ref (qo 0)] : List Value).toArray) below meth c H locs 0 0 (MQ below (va_Qv (fun _ : Unit => True) (fun _ => zB D A (shW ac q res ++ (shW ac qo so))) A) ([.ref (q 0), .ref (qo 0)] : List Value).toArray s 0 0 A) (F0 m 93 ls [])) (n12 : Nat) (x9 : Int32) (sh10 : Sh), Sh_copyFrom_L66 so kx14 n12 x9 sh10 = some res → ∀ (H : Heap) (locs : List Loc) (ls : Array Slot), va_P D vwCl (shW ac q sh10 ++ (shW ac qo so)) H → va_D A (shW ac q sh10 ++ (shW ac qo so)) → va_S A s.heap H locs → lv_has ls 3 [(0, .ref (q 0)), (1, .ref (qo 0)), (2, .int x9)] → W p l e ({ frames := 0, cells := 0, slots := 0, locals := 0 } : Room) s m (([.ref (q 0), .ref (qo 0)] : List Value).toArray) below meth c H locs 0 0 (MQ below (va_Qv (fun _ : Unit => True) (fun _ => zB D A (shW ac q res ++ (shW ac qo so))) A) ([.ref (q 0), .ref (qo 0)] : List Value).toArray s 0 0 A) (F0 m 66 ls []) := by
    intro kx14 hkx14 n12
    induction n12 with
    | zero => intro x9 sh10 hf; rw [Sh_copyFrom_L66] at hf; cases hf
    | succ n12 ih13 =>
      intro x9 sh10 hf H locs ls hP hD hS hl
      rw [Sh_copyFrom_L66] at hf
      refine lv_iload_n hx hb dX4_copyFrom_66 rfl (lv_at hl 2 rfl) ?_
      refine lv_aload_n hx hb dX4_copyFrom_67 rfl (lv_at hl 0 rfl) ?_
      refine va_get (D := D) (ci := 4) (v := .ref (q 1)) (C := RX4) (T := TX4) (N := 10) hx hb htw WW_wsX40 hown hKX.1 hP 0 rfl rfl 8 (Nat.le_of_ble_eq_true rfl) (htw _ mF_RX4_9) (fun _ h9 => h9) rfl dX4_copyFrom_68 ?_
      refine va_alen hx hb hKX.1 hP 1 0 rfl rfl (v := 4) rfl dX4_copyFrom_71 ?_
      refine lv_icmp_ge (tgt := 93) hx hb dX4_copyFrom_72 (by decide) (fun c16 => ?_) (fun c16 => ?_)
      · have hf := z_p c16 hf
        exact hkx14 sh10 hf _ _ ls  hP hD hS (lv_sub hl [0, 1] rfl)
      · have hf := z_n c16 hf
        refine lv_aload_n hx hb dX4_copyFrom_75 rfl (lv_at hl 0 rfl) ?_
        refine va_get (D := D) (ci := 4) (v := .ref (q 1)) (C := RX4) (T := TX4) (N := 10) hx hb htw WW_wsX40 hown hKX.1 hP 0 rfl rfl 8 (Nat.le_of_ble_eq_true rfl) (htw _ mF_RX4_9) (fun _ h9 => h9) rfl dX4_copyFrom_76 ?_
        refine lv_iload_n hx hb dX4_copyFrom_79 rfl (lv_at hl 2 rfl) ?_
        refine lv_aload_n hx hb dX4_copyFrom_80 rfl (lv_at hl 1 rfl) ?_
        refine va_get (D := D) (ci := 4) (v := .ref (qo 1)) (C := RX4) (T := TX4) (N := 10) hx hb htw WW_wsX40 hown hKX.1 hP 3 rfl rfl 8 (Nat.le_of_ble_eq_true rfl) (htw _ mF_RX4_9) (fun _ h9 => h9) rfl dX4_copyFrom_81 ?_
        refine lv_iload_n hx hb dX4_copyFrom_84 rfl (lv_at hl 2 rfl) ?_
        obtain ⟨g17, hf⟩ := z_gd_u hf
        refine va_iald hx hb hKX.1 hP 4 0 rfl rfl (z_in_u g17) dX4_copyFrom_85 ?_
        refine lv_topi (fun x18 hx18 => ?_)
        have hf := z_let_u hx18 hf
        obtain ⟨g19, hf⟩ := z_gd_u hf
        refine va_iast hx hb hKX.1 hP hD hS 1 0 rfl rfl (z_in_u g19) dX4_copyFrom_86 (fun H locs hP hD hS => ?_)
        have hP : va_P D vwCl (shW ac q ((sh_shooters sh10), (sh_order sh10), (sh_first sh10), (sh_kicks sh10), (sh_goalBits sh10), (sh_sideBits sh10), (sh_goalsOfA sh10), (sh_goalsOfB sh10), (upd (sh_nerves sh10) x9.toNatClampNeg x18), (sh_skills sh10)) ++ (shW ac qo so)) H := hP
        have hD : va_D A (shW ac q ((sh_shooters sh10), (sh_order sh10), (sh_first sh10), (sh_kicks sh10), (sh_goalBits sh10), (sh_sideBits sh10), (sh_goalsOfA sh10), (sh_goalsOfB sh10), (upd (sh_nerves sh10) x9.toNatClampNeg x18), (sh_skills sh10)) ++ (shW ac qo so)) := hD
        obtain ⟨x20, hx20⟩ : ∃ y : Int32, y = (x9 + 1) := ⟨_, rfl⟩
        have hf := z_let_u hx20 hf
        refine lv_iinc (v := x20) (lv' := [(2, .int x20), (0, .ref (q 0)), (1, .ref (qo 0))]) hx hb dX4_copyFrom_87 hl (k := 2) rfl (by rw [hx20]; rfl) (Nat.le_of_ble_eq_true rfl) rfl (fun ls hl => ?_)
        refine lv_goto (tgt := 66) hx hb dX4_copyFrom_90 (by decide) ?_
        exact ih13 x20 ((sh_shooters sh10), (sh_order sh10), (sh_first sh10), (sh_kicks sh10), (sh_goalBits sh10), (sh_sideBits sh10), (sh_goalsOfA sh10), (sh_goalsOfB sh10), (upd (sh_nerves sh10) x9.toNatClampNeg x18), (sh_skills sh10)) hf _ _ ls  hP hD hS (lv_sub hl [1, 2, 0] rfl)
  refine hL11 _ ?_ F 0 (x1, x2, x3, x4, x5, x6, x7, x8, (sh_nerves sh), (sh_skills sh)) hf _ _ ls  hP hD hS (lv_sub hl [1, 2, 0] rfl)
  intro sh15 hf H locs ls hP hD hS hl
  refine lv_iconst (v := 0) hx hb dX4_copyFrom_93 rfl ?_
  refine lv_istore_n (lv' := [(2, .int 0), (0, .ref (q 0)), (1, .ref (qo 0))]) hx hb dX4_copyFrom_94 rfl hl (Nat.le_of_ble_eq_true rfl) rfl (fun ls hl => ?_)
  have hL23 : ∀ (n24 : Nat) (x21 : Int32) (sh22 : Sh), Sh_copyFrom_L95 so n24 x21 sh22 = some res → ∀ (H : Heap) (locs : List Loc) (ls : Array Slot), va_P D vwCl (shW ac q sh22 ++ (shW ac qo so)) H → va_D A (shW ac q sh22 ++ (shW ac qo so)) → va_S A s.heap H locs → lv_has ls 3 [(0, .ref (q 0)), (1, .ref (qo 0)), (2, .int x21)] → W p l e ({ frames := 0, cells := 0, slots := 0, locals := 0 } : Room) s m (([.ref (q 0), .ref (qo 0)] : List Value).toArray) below meth c H locs 0 0 (MQ below (va_Qv (fun _ : Unit => True) (fun _ => zB D A (shW ac q res ++ (shW ac qo so))) A) ([.ref (q 0), .ref (qo 0)] : List Value).toArray s 0 0 A) (F0 m 95 ls []) := by
    intro n24
    induction n24 with
    | zero => intro x21 sh22 hf; rw [Sh_copyFrom_L95] at hf; cases hf
    | succ n24 ih25 =>
      intro x21 sh22 hf H locs ls hP hD hS hl
      rw [Sh_copyFrom_L95] at hf
      refine lv_iload_n hx hb dX4_copyFrom_95 rfl (lv_at hl 2 rfl) ?_
      refine lv_aload_n hx hb dX4_copyFrom_96 rfl (lv_at hl 0 rfl) ?_
      refine va_get (D := D) (ci := 4) (v := .ref (q 2)) (C := RX4) (T := TX4) (N := 10) hx hb htw WW_wsX40 hown hKX.1 hP 0 rfl rfl 9 (Nat.le_of_ble_eq_true rfl) (htw _ mF_RX4_15) (fun _ h9 => h9) rfl dX4_copyFrom_97 ?_
      refine va_alen hx hb hKX.1 hP 2 0 rfl rfl (v := 10) rfl dX4_copyFrom_100 ?_
      refine lv_icmp_ge (tgt := 122) hx hb dX4_copyFrom_101 (by decide) (fun c26 => ?_) (fun c26 => ?_)
      · have hf := z_p c26 hf
        obtain rfl := Option.some.inj hf
        exact zr_Mv hx hb hr hlocks hP hD hS dX4_copyFrom_122
      · have hf := z_n c26 hf
        refine lv_aload_n hx hb dX4_copyFrom_104 rfl (lv_at hl 0 rfl) ?_
        refine va_get (D := D) (ci := 4) (v := .ref (q 2)) (C := RX4) (T := TX4) (N := 10) hx hb htw WW_wsX40 hown hKX.1 hP 0 rfl rfl 9 (Nat.le_of_ble_eq_true rfl) (htw _ mF_RX4_15) (fun _ h9 => h9) rfl dX4_copyFrom_105 ?_
        refine lv_iload_n hx hb dX4_copyFrom_108 rfl (lv_at hl 2 rfl) ?_
        refine lv_aload_n hx hb dX4_copyFrom_109 rfl (lv_at hl 1 rfl) ?_
        refine va_get (D := D) (ci := 4) (v := .ref (qo 2)) (C := RX4) (T := TX4) (N := 10) hx hb htw WW_wsX40 hown hKX.1 hP 3 rfl rfl 9 (Nat.le_of_ble_eq_true rfl) (htw _ mF_RX4_15) (fun _ h9 => h9) rfl dX4_copyFrom_110 ?_
        refine lv_iload_n hx hb dX4_copyFrom_113 rfl (lv_at hl 2 rfl) ?_
        obtain ⟨g27, hf⟩ := z_gd_u hf
        refine va_iald hx hb hKX.1 hP 5 0 rfl rfl (z_in_u g27) dX4_copyFrom_114 ?_
        refine lv_topi (fun x28 hx28 => ?_)
        have hf := z_let_u hx28 hf
        obtain ⟨g29, hf⟩ := z_gd_u hf
        refine va_iast hx hb hKX.1 hP hD hS 2 0 rfl rfl (z_in_u g29) dX4_copyFrom_115 (fun H locs hP hD hS => ?_)
        have hP : va_P D vwCl (shW ac q ((sh_shooters sh22), (sh_order sh22), (sh_first sh22), (sh_kicks sh22), (sh_goalBits sh22), (sh_sideBits sh22), (sh_goalsOfA sh22), (sh_goalsOfB sh22), (sh_nerves sh22), (upd (sh_skills sh22) x21.toNatClampNeg x28)) ++ (shW ac qo so)) H := hP
        have hD : va_D A (shW ac q ((sh_shooters sh22), (sh_order sh22), (sh_first sh22), (sh_kicks sh22), (sh_goalBits sh22), (sh_sideBits sh22), (sh_goalsOfA sh22), (sh_goalsOfB sh22), (sh_nerves sh22), (upd (sh_skills sh22) x21.toNatClampNeg x28)) ++ (shW ac qo so)) := hD
        obtain ⟨x30, hx30⟩ : ∃ y : Int32, y = (x21 + 1) := ⟨_, rfl⟩
        have hf := z_let_u hx30 hf
        refine lv_iinc (v := x30) (lv' := [(2, .int x30), (0, .ref (q 0)), (1, .ref (qo 0))]) hx hb dX4_copyFrom_116 hl (k := 2) rfl (by rw [hx30]; rfl) (Nat.le_of_ble_eq_true rfl) rfl (fun ls hl => ?_)
        refine lv_goto (tgt := 95) hx hb dX4_copyFrom_119 (by decide) ?_
        exact ih25 x30 ((sh_shooters sh22), (sh_order sh22), (sh_first sh22), (sh_kicks sh22), (sh_goalBits sh22), (sh_sideBits sh22), (sh_goalsOfA sh22), (sh_goalsOfB sh22), (sh_nerves sh22), (upd (sh_skills sh22) x21.toNatClampNeg x28)) hf _ _ ls  hP hD hS (lv_sub hl [1, 2, 0] rfl)
  refine hL23  F 0 sh15 hf _ _ ls  hP hD hS (lv_sub hl [1, 2, 0] rfl)

theorem hd_yX4_forgetAll : hdY yX4_forgetAll 0 := by decide +kernel
def Sh_forgetAll_L21 (kx7 : Sh → Option (Sh)) : Nat → Int32 → Sh → Option (Sh)
  | 0, _, _ => none
  | n5 + 1, x2, sh3 => if 4 ≤ x2 then (kx7 sh3) else (z_gd (z_in x2 4) (z_let (x2 + 1) (fun x11 : Int32 => Sh_forgetAll_L21 kx7 n5 x11 ((sh_shooters sh3), (sh_order sh3), (sh_first sh3), (sh_kicks sh3), (sh_goalBits sh3), (sh_sideBits sh3), (sh_goalsOfA sh3), (sh_goalsOfB sh3), (upd (sh_nerves sh3) x2.toNatClampNeg 0), (sh_skills sh3)))))
def Sh_forgetAll_L45 : Nat → Int32 → Sh → Option (Sh)
  | 0, _, _ => none
  | n15 + 1, x12, sh13 => if 10 ≤ x12 then (some sh13) else (z_gd (z_in x12 10) (z_let (x12 + 1) (fun x19 : Int32 => Sh_forgetAll_L45 n15 x19 ((sh_shooters sh13), (sh_order sh13), (sh_first sh13), (sh_kicks sh13), (sh_goalBits sh13), (sh_sideBits sh13), (sh_goalsOfA sh13), (sh_goalsOfB sh13), (sh_nerves sh13), (upd (sh_skills sh13) x12.toNatClampNeg 0)))))
def Sh_forgetAll (F : Nat) (sh : Sh) : Option (Sh) := z_let (Sh_restart sh) (fun u1 : Sh => Sh_forgetAll_L21 (fun (sh8 : Sh) => Sh_forgetAll_L45  F 0 sh8) F 0 (0, 0, 0, (sh_kicks u1), (sh_goalBits u1), (sh_sideBits u1), (sh_goalsOfA u1), (sh_goalsOfB u1), (sh_nerves u1), (sh_skills u1)))
set_option maxHeartbeats 4000000 in
set_option maxRecDepth 100000 in
theorem ctX4_forgetAll (l : Launch) (D : va_G) (ac cs : Nat → Nat) (q : Nat → Nat) (sz : Nat) (sh : Sh) (F : Nat) (res : Sh) (hf : Sh_forgetAll F sh = some res) : Met l yX4_forgetAll (cWW yX4_forgetAll cX4_forgetAll 2 none) { frames := 1, cells := 0, slots := 0, locals := 20 } (zM D ac cs [.ref (q 0)] (shW ac q sh) sz) (va_Qv (fun _ : Unit => True) (fun _ => zB D (va_A (shW ac q sh) sz) (shW ac q res)) (va_A (shW ac q sh) sz)) 0 0 (va_A (shW ac q sh) sz) := by
  refine Met.ofW (cc := cX4_forgetAll) (maxL := 2) (ret := none) (by decide) rfl ?_
  intro p e s m args below meth c s₁ B hml hv
  obtain ⟨rfl, hsz, hP, hKX, hD0, hC⟩ := hv
  have hx := B.exec
  have hb := B.bytes
  have hr := B.returns
  have hts := atoms_spec (ws := cWW yX4_forgetAll cX4_forgetAll 2 none) B.pre
  have htw : ∀ w ∈ WW, w.before _ s = true := fun w h => hts w (List.mem_cons_of_mem _ h)
  have hown : s.vm.findClass RX4 = some m.cls := findClass_of_methodNamed B.named
  have hlocks := B.notSynchronized
  clear hts B
  subst hsz
  have hD := hD0.self (sz := s.heap.size)
  generalize hAe : va_A (shW ac q sh) s.heap.size = A at hD hC ⊢
  have hA : ∀ q : Nat, s.heap.size ≤ q → A q := fun q h => by rw [← hAe]; exact Or.inr h
  have hS : va_S A s.heap s.heap [] := va_S.rf
  clear hD0 hAe
  have hP : va_P D vwCl (shW ac q sh) s.heap := hP
  have hl := lv_entry ([.ref (q 0)]) (n := 2) (Nat.le_of_ble_eq_true rfl)
  rw [lg_entry_eq]
  generalize (lg_sl ([.ref (q 0)]) ++ List.replicate (2 - (lg_sl ([.ref (q 0)])).length) Slot.unset).toArray = ls at hl ⊢
  have hl : lv_has ls 2 [(0, .ref (q 0))] := hl
  unfold Sh_forgetAll at hf
  show W p l e ({ frames := 1, cells := 0, slots := 0, locals := 20 } : Room) s m _ below meth c s.heap [] 0 0 _ (F0 m 0 ls [])
  refine lv_aload_n hx hb dX4_forgetAll_0 rfl (lv_at hl 0 rfl) ?_
  obtain ⟨u1, hu1⟩ : ∃ y : Sh, y = Sh_restart sh := ⟨_, rfl⟩
  have hf := z_let_u hu1 hf
  refine zc_MVv (As := []) (rest := []) (wr := []) (wsc := shW ac q sh) (wsc' := shW ac q u1) hx hb hml hown htw (ctX4_restart l D ac cs q s.heap.size sh    u1 hu1.symm) (g_V mM_RX4_44 mI_yX4_restart mS_RX4_yX4_restart_yX4_restart mN_RX4 mC_yX4_restart) rfl (hd_yX4_restart) ⟨rfl, rfl⟩ ⟨(Nat.le_of_ble_eq_true rfl), (Nat.le_of_ble_eq_true rfl)⟩ hKX hC hS hA hP hD [0, 1, 2] [] rfl (by decide) rfl (by decide) (by decide) 4 rfl rfl rfl hl.1 rfl (Nat.le_of_ble_eq_true rfl) ⟨Nat.zero_le _, Nat.zero_le _⟩ dX4_forgetAll_1 (fun H locs hP hD hS => ?_)
  have hP : va_P D vwCl (shW ac q u1) H := hP
  have hD : va_D A (shW ac q u1) := hD
  refine lv_aload_n hx hb dX4_forgetAll_4 rfl (lv_at hl 0 rfl) ?_
  refine lv_iconst (v := 0) hx hb dX4_forgetAll_5 rfl ?_
  refine va_put (D := D) (ci := 4) (v := .int 0) (ty := tyX4 0) (C := RX4) (T := TX4) (N := 10) hx hb htw WW_wsX40 tyX4 tyX4_ok nmX4 hown hKX.1 hP hD hS 0 rfl rfl 0 (Nat.le_of_ble_eq_true rfl) (htw _ mF_RX4_18) (fun _ h9 => h9) rfl (tyX4_ok 0 (Nat.le_of_ble_eq_true rfl)) rfl rfl (Nat.le_of_ble_eq_true rfl) dX4_forgetAll_6 (fun H locs hP hD hS => ?_)
  have hP : va_P D vwCl (shW ac q (0, (sh_order u1), (sh_first u1), (sh_kicks u1), (sh_goalBits u1), (sh_sideBits u1), (sh_goalsOfA u1), (sh_goalsOfB u1), (sh_nerves u1), (sh_skills u1))) H := hP
  have hD : va_D A (shW ac q (0, (sh_order u1), (sh_first u1), (sh_kicks u1), (sh_goalBits u1), (sh_sideBits u1), (sh_goalsOfA u1), (sh_goalsOfB u1), (sh_nerves u1), (sh_skills u1))) := hD
  refine lv_aload_n hx hb dX4_forgetAll_9 rfl (lv_at hl 0 rfl) ?_
  refine lv_iconst (v := 0) hx hb dX4_forgetAll_10 rfl ?_
  refine va_put (D := D) (ci := 4) (v := .int 0) (ty := tyX4 1) (C := RX4) (T := TX4) (N := 10) hx hb htw WW_wsX40 tyX4 tyX4_ok nmX4 hown hKX.1 hP hD hS 0 rfl rfl 1 (Nat.le_of_ble_eq_true rfl) (htw _ mF_RX4_22) (fun _ h9 => h9) rfl (tyX4_ok 1 (Nat.le_of_ble_eq_true rfl)) rfl rfl (Nat.le_of_ble_eq_true rfl) dX4_forgetAll_11 (fun H locs hP hD hS => ?_)
  have hP : va_P D vwCl (shW ac q (0, 0, (sh_first u1), (sh_kicks u1), (sh_goalBits u1), (sh_sideBits u1), (sh_goalsOfA u1), (sh_goalsOfB u1), (sh_nerves u1), (sh_skills u1))) H := hP
  have hD : va_D A (shW ac q (0, 0, (sh_first u1), (sh_kicks u1), (sh_goalBits u1), (sh_sideBits u1), (sh_goalsOfA u1), (sh_goalsOfB u1), (sh_nerves u1), (sh_skills u1))) := hD
  refine lv_aload_n hx hb dX4_forgetAll_14 rfl (lv_at hl 0 rfl) ?_
  refine lv_iconst (v := 0) hx hb dX4_forgetAll_15 rfl ?_
  refine va_put (D := D) (ci := 4) (v := .int 0) (ty := tyX4 2) (C := RX4) (T := TX4) (N := 10) hx hb htw WW_wsX40 tyX4 tyX4_ok nmX4 hown hKX.1 hP hD hS 0 rfl rfl 2 (Nat.le_of_ble_eq_true rfl) (htw _ mF_RX4_25) (fun _ h9 => h9) rfl (tyX4_ok 2 (Nat.le_of_ble_eq_true rfl)) rfl rfl (Nat.le_of_ble_eq_true rfl) dX4_forgetAll_16 (fun H locs hP hD hS => ?_)
  have hP : va_P D vwCl (shW ac q (0, 0, 0, (sh_kicks u1), (sh_goalBits u1), (sh_sideBits u1), (sh_goalsOfA u1), (sh_goalsOfB u1), (sh_nerves u1), (sh_skills u1))) H := hP
  have hD : va_D A (shW ac q (0, 0, 0, (sh_kicks u1), (sh_goalBits u1), (sh_sideBits u1), (sh_goalsOfA u1), (sh_goalsOfB u1), (sh_nerves u1), (sh_skills u1))) := hD
  refine lv_iconst (v := 0) hx hb dX4_forgetAll_19 rfl ?_
  refine lv_istore_n (lv' := [(1, .int 0), (0, .ref (q 0))]) hx hb dX4_forgetAll_20 rfl hl (Nat.le_of_ble_eq_true rfl) rfl (fun ls hl => ?_)
  have hL4 : ∀ (kx7 : Sh → Option (Sh)) (hkx7 : ∀ (sh8 : Sh), kx7 sh8 = some res → ∀ (H : Heap) (locs : List Loc) (ls : Array Slot), va_P D vwCl (shW ac q sh8) H → va_D A (shW ac q sh8) → va_S A s.heap H locs → lv_has ls 2 [(0, .ref (q 0))] → W p l e ({ frames := 1, cells := 0, slots := 0, locals := 20 } : Room) s m (([.ref (q 0)] : List Value).toArray) below meth c H locs 0 0 (MQ below (va_Qv (fun _ : Unit => True) (fun _ => zB D A (shW ac q res)) A) ([.ref (q 0)] : List Value).toArray s 0 0 A) (F0 m 43 ls [])) (n5 : Nat) (x2 : Int32) (sh3 : Sh), Sh_forgetAll_L21 kx7 n5 x2 sh3 = some res → ∀ (H : Heap) (locs : List Loc) (ls : Array Slot), va_P D vwCl (shW ac q sh3) H → va_D A (shW ac q sh3) → va_S A s.heap H locs → lv_has ls 2 [(0, .ref (q 0)), (1, .int x2)] → W p l e ({ frames := 1, cells := 0, slots := 0, locals := 20 } : Room) s m (([.ref (q 0)] : List Value).toArray) below meth c H locs 0 0 (MQ below (va_Qv (fun _ : Unit => True) (fun _ => zB D A (shW ac q res)) A) ([.ref (q 0)] : List Value).toArray s 0 0 A) (F0 m 21 ls []) := by
    intro kx7 hkx7 n5
    induction n5 with
    | zero => intro x2 sh3 hf; rw [Sh_forgetAll_L21] at hf; cases hf
    | succ n5 ih6 =>
      intro x2 sh3 hf H locs ls hP hD hS hl
      rw [Sh_forgetAll_L21] at hf
      refine lv_iload_n hx hb dX4_forgetAll_21 rfl (lv_at hl 1 rfl) ?_
      refine lv_aload_n hx hb dX4_forgetAll_22 rfl (lv_at hl 0 rfl) ?_
      refine va_get (D := D) (ci := 4) (v := .ref (q 1)) (C := RX4) (T := TX4) (N := 10) hx hb htw WW_wsX40 hown hKX.1 hP 0 rfl rfl 8 (Nat.le_of_ble_eq_true rfl) (htw _ mF_RX4_9) (fun _ h9 => h9) rfl dX4_forgetAll_23 ?_
      refine va_alen hx hb hKX.1 hP 1 0 rfl rfl (v := 4) rfl dX4_forgetAll_26 ?_
      refine lv_icmp_ge (tgt := 43) hx hb dX4_forgetAll_27 (by decide) (fun c9 => ?_) (fun c9 => ?_)
      · have hf := z_p c9 hf
        exact hkx7 sh3 hf _ _ ls  hP hD hS (lv_sub hl [0] rfl)
      · have hf := z_n c9 hf
        refine lv_aload_n hx hb dX4_forgetAll_30 rfl (lv_at hl 0 rfl) ?_
        refine va_get (D := D) (ci := 4) (v := .ref (q 1)) (C := RX4) (T := TX4) (N := 10) hx hb htw WW_wsX40 hown hKX.1 hP 0 rfl rfl 8 (Nat.le_of_ble_eq_true rfl) (htw _ mF_RX4_9) (fun _ h9 => h9) rfl dX4_forgetAll_31 ?_
        refine lv_iload_n hx hb dX4_forgetAll_34 rfl (lv_at hl 1 rfl) ?_
        refine lv_iconst (v := 0) hx hb dX4_forgetAll_35 rfl ?_
        obtain ⟨g10, hf⟩ := z_gd_u hf
        refine va_iast hx hb hKX.1 hP hD hS 1 0 rfl rfl (z_in_u g10) dX4_forgetAll_36 (fun H locs hP hD hS => ?_)
        have hP : va_P D vwCl (shW ac q ((sh_shooters sh3), (sh_order sh3), (sh_first sh3), (sh_kicks sh3), (sh_goalBits sh3), (sh_sideBits sh3), (sh_goalsOfA sh3), (sh_goalsOfB sh3), (upd (sh_nerves sh3) x2.toNatClampNeg 0), (sh_skills sh3))) H := hP
        have hD : va_D A (shW ac q ((sh_shooters sh3), (sh_order sh3), (sh_first sh3), (sh_kicks sh3), (sh_goalBits sh3), (sh_sideBits sh3), (sh_goalsOfA sh3), (sh_goalsOfB sh3), (upd (sh_nerves sh3) x2.toNatClampNeg 0), (sh_skills sh3))) := hD
        obtain ⟨x11, hx11⟩ : ∃ y : Int32, y = (x2 + 1) := ⟨_, rfl⟩
        have hf := z_let_u hx11 hf
        refine lv_iinc (v := x11) (lv' := [(1, .int x11), (0, .ref (q 0))]) hx hb dX4_forgetAll_37 hl (k := 1) rfl (by rw [hx11]; rfl) (Nat.le_of_ble_eq_true rfl) rfl (fun ls hl => ?_)
        refine lv_goto (tgt := 21) hx hb dX4_forgetAll_40 (by decide) ?_
        exact ih6 x11 ((sh_shooters sh3), (sh_order sh3), (sh_first sh3), (sh_kicks sh3), (sh_goalBits sh3), (sh_sideBits sh3), (sh_goalsOfA sh3), (sh_goalsOfB sh3), (upd (sh_nerves sh3) x2.toNatClampNeg 0), (sh_skills sh3)) hf _ _ ls  hP hD hS (lv_sub hl [1, 0] rfl)
  refine hL4 _ ?_ F 0 (0, 0, 0, (sh_kicks u1), (sh_goalBits u1), (sh_sideBits u1), (sh_goalsOfA u1), (sh_goalsOfB u1), (sh_nerves u1), (sh_skills u1)) hf _ _ ls  hP hD hS (lv_sub hl [1, 0] rfl)
  intro sh8 hf H locs ls hP hD hS hl
  refine lv_iconst (v := 0) hx hb dX4_forgetAll_43 rfl ?_
  refine lv_istore_n (lv' := [(1, .int 0), (0, .ref (q 0))]) hx hb dX4_forgetAll_44 rfl hl (Nat.le_of_ble_eq_true rfl) rfl (fun ls hl => ?_)
  have hL14 : ∀ (n15 : Nat) (x12 : Int32) (sh13 : Sh), Sh_forgetAll_L45 n15 x12 sh13 = some res → ∀ (H : Heap) (locs : List Loc) (ls : Array Slot), va_P D vwCl (shW ac q sh13) H → va_D A (shW ac q sh13) → va_S A s.heap H locs → lv_has ls 2 [(0, .ref (q 0)), (1, .int x12)] → W p l e ({ frames := 1, cells := 0, slots := 0, locals := 20 } : Room) s m (([.ref (q 0)] : List Value).toArray) below meth c H locs 0 0 (MQ below (va_Qv (fun _ : Unit => True) (fun _ => zB D A (shW ac q res)) A) ([.ref (q 0)] : List Value).toArray s 0 0 A) (F0 m 45 ls []) := by
    intro n15
    induction n15 with
    | zero => intro x12 sh13 hf; rw [Sh_forgetAll_L45] at hf; cases hf
    | succ n15 ih16 =>
      intro x12 sh13 hf H locs ls hP hD hS hl
      rw [Sh_forgetAll_L45] at hf
      refine lv_iload_n hx hb dX4_forgetAll_45 rfl (lv_at hl 1 rfl) ?_
      refine lv_aload_n hx hb dX4_forgetAll_46 rfl (lv_at hl 0 rfl) ?_
      refine va_get (D := D) (ci := 4) (v := .ref (q 2)) (C := RX4) (T := TX4) (N := 10) hx hb htw WW_wsX40 hown hKX.1 hP 0 rfl rfl 9 (Nat.le_of_ble_eq_true rfl) (htw _ mF_RX4_15) (fun _ h9 => h9) rfl dX4_forgetAll_47 ?_
      refine va_alen hx hb hKX.1 hP 2 0 rfl rfl (v := 10) rfl dX4_forgetAll_50 ?_
      refine lv_icmp_ge (tgt := 67) hx hb dX4_forgetAll_51 (by decide) (fun c17 => ?_) (fun c17 => ?_)
      · have hf := z_p c17 hf
        obtain rfl := Option.some.inj hf
        exact zr_Mv hx hb hr hlocks hP hD hS dX4_forgetAll_67
      · have hf := z_n c17 hf
        refine lv_aload_n hx hb dX4_forgetAll_54 rfl (lv_at hl 0 rfl) ?_
        refine va_get (D := D) (ci := 4) (v := .ref (q 2)) (C := RX4) (T := TX4) (N := 10) hx hb htw WW_wsX40 hown hKX.1 hP 0 rfl rfl 9 (Nat.le_of_ble_eq_true rfl) (htw _ mF_RX4_15) (fun _ h9 => h9) rfl dX4_forgetAll_55 ?_
        refine lv_iload_n hx hb dX4_forgetAll_58 rfl (lv_at hl 1 rfl) ?_
        refine lv_iconst (v := 0) hx hb dX4_forgetAll_59 rfl ?_
        obtain ⟨g18, hf⟩ := z_gd_u hf
        refine va_iast hx hb hKX.1 hP hD hS 2 0 rfl rfl (z_in_u g18) dX4_forgetAll_60 (fun H locs hP hD hS => ?_)
        have hP : va_P D vwCl (shW ac q ((sh_shooters sh13), (sh_order sh13), (sh_first sh13), (sh_kicks sh13), (sh_goalBits sh13), (sh_sideBits sh13), (sh_goalsOfA sh13), (sh_goalsOfB sh13), (sh_nerves sh13), (upd (sh_skills sh13) x12.toNatClampNeg 0))) H := hP
        have hD : va_D A (shW ac q ((sh_shooters sh13), (sh_order sh13), (sh_first sh13), (sh_kicks sh13), (sh_goalBits sh13), (sh_sideBits sh13), (sh_goalsOfA sh13), (sh_goalsOfB sh13), (sh_nerves sh13), (upd (sh_skills sh13) x12.toNatClampNeg 0))) := hD
        obtain ⟨x19, hx19⟩ : ∃ y : Int32, y = (x12 + 1) := ⟨_, rfl⟩
        have hf := z_let_u hx19 hf
        refine lv_iinc (v := x19) (lv' := [(1, .int x19), (0, .ref (q 0))]) hx hb dX4_forgetAll_61 hl (k := 1) rfl (by rw [hx19]; rfl) (Nat.le_of_ble_eq_true rfl) rfl (fun ls hl => ?_)
        refine lv_goto (tgt := 45) hx hb dX4_forgetAll_64 (by decide) ?_
        exact ih16 x19 ((sh_shooters sh13), (sh_order sh13), (sh_first sh13), (sh_kicks sh13), (sh_goalBits sh13), (sh_sideBits sh13), (sh_goalsOfA sh13), (sh_goalsOfB sh13), (sh_nerves sh13), (upd (sh_skills sh13) x12.toNatClampNeg 0)) hf _ _ ls  hP hD hS (lv_sub hl [1, 0] rfl)
  refine hL14  F 0 sh8 hf _ _ ls  hP hD hS (lv_sub hl [1, 0] rfl)

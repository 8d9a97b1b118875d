theorem hd_yX2_forget : hdY yX2_forget 0 := by decide +kernel
def Pa_forget (pa : Pa) : Pa := ((pa_next pa), 0)
set_option maxHeartbeats 4000000 in
set_option maxRecDepth 100000 in
theorem ctX2_forget (l : Launch) (D : va_G) (ac cs : Nat → Nat) (a : Nat → Nat → Nat) (sz : Nat) (pa : Pa) (res : Pa) (hf : Pa_forget pa = res) : Met l yX2_forget (cWW yX2_forget cX2_forget 1 none) { frames := 0, cells := 0, slots := 0, locals := 0 } (zM D ac cs [.ref (a 5 0)] (paW ac a pa) sz) (va_Qv (fun _ : Unit => True) (fun _ => zB D (va_A (paW ac a pa) sz) (paW ac a res)) (va_A (paW ac a pa) sz)) 0 0 (va_A (paW ac a pa) sz) := by
  refine Met.ofW (cc := cX2_forget) (maxL := 1) (ret := none) (by decide) rfl ?_
  intro p e s m args below meth c s₁ B hml hv
  obtain ⟨rfl, hsz, hP, hKX, hD0, hC⟩ := hv
  have hx := B.exec
  have hb := B.bytes
  have hr := B.returns
  have hts := atoms_spec (ws := cWW yX2_forget cX2_forget 1 none) B.pre
  have htw : ∀ w ∈ WW, w.before _ s = true := fun w h => hts w (List.mem_cons_of_mem _ h)
  have hown : s.vm.findClass RX2 = some m.cls := findClass_of_methodNamed B.named
  have hlocks := B.notSynchronized
  clear hts B
  subst hsz
  have hD := hD0.self (sz := s.heap.size)
  generalize hAe : va_A (paW ac a pa) s.heap.size = A at hD hC ⊢
  have hA : ∀ q : Nat, s.heap.size ≤ q → A q := fun q h => by rw [← hAe]; exact Or.inr h
  have hS : va_S A s.heap s.heap [] := va_S.rf
  clear hD0 hAe
  have hP : va_P D vwCl (paW ac a pa) s.heap := hP
  have hl := lv_entry ([.ref (a 5 0)]) (n := 1) (Nat.le_of_ble_eq_true rfl)
  rw [lg_entry_eq]
  generalize (lg_sl ([.ref (a 5 0)]) ++ List.replicate (1 - (lg_sl ([.ref (a 5 0)])).length) Slot.unset).toArray = ls at hl ⊢
  have hl : lv_has ls 1 [(0, .ref (a 5 0))] := hl
  unfold Pa_forget at hf
  show W p l e ({ frames := 0, cells := 0, slots := 0, locals := 0 } : Room) s m _ below meth c s.heap [] 0 0 _ (F0 m 0 ls [])
  refine lv_aload_n hx hb dX2_forget_0 rfl (lv_at hl 0 rfl) ?_
  refine lv_iconst (v := 0) hx hb dX2_forget_1 rfl ?_
  refine va_put (D := D) (ci := 2) (v := .int 0) (ty := tyX2 2) (C := RX2) (T := TX2) (N := 3) hx hb htw WW_wsX20 tyX2 tyX2_ok nmX2 hown hKX.1 hP hD hS 0 rfl rfl 2 (Nat.le_of_ble_eq_true rfl) (htw _ mF_RX2_18) (fun _ h9 => h9) rfl (tyX2_ok 2 (Nat.le_of_ble_eq_true rfl)) rfl rfl (Nat.le_of_ble_eq_true rfl) dX2_forget_2 (fun H locs hP hD hS => ?_)
  have hP : va_P D vwCl (paW ac a ((pa_next pa), 0)) H := hP
  have hD : va_D A (paW ac a ((pa_next pa), 0)) := hD
  subst hf
  exact zr_Mv hx hb hr hlocks hP hD hS dX2_forget_5

theorem hd_yX2_push : hdY yX2_push 1 := by decide +kernel
def Pa_push (F : Nat) (pa : Pa) (sh : Sh) (rg : Nat → Sh) : Option (Pa × (Nat → Sh)) := z_jn (fun pa1 : Pa => z_gd (z_in (pa_next pa1) 20) (z_bd (Sh_copyFrom F (rg ((pa_next pa1).toNatClampNeg)) sh) (fun u6 : Sh => z_let (z_rem ((pa_next pa1) + 1) 20) (fun x7 : Int32 => z_let (if 20 < ((pa_size pa1) + 1) then 20 else ((pa_size pa1) + 1)) (fun x8 : Int32 => some ((x7, x8), (va_up rg ((pa_next pa1).toNatClampNeg) u6))))))) (fun k2 => z_jn (fun _ : Unit => k2 (0, (pa_size pa))) (fun k9 => if (pa_next pa) < 0 then (k9 ()) else (if (pa_next pa) < 20 then (k2 pa) else (k9 ()))))
set_option maxHeartbeats 4000000 in
set_option maxRecDepth 100000 in
theorem ctX2_push (l : Launch) (D : va_G) (ac cs : Nat → Nat) (a : Nat → Nat → Nat) (qs : Nat → Nat) (sz : Nat) (pa : Pa) (sh : Sh) (rg : Nat → Sh) (F : Nat) (res : Pa × (Nat → Sh)) (hf : Pa_push F pa sh rg = some res) : Met l yX2_push (cWW yX2_push cX2_push 2 none) { frames := 1, cells := 0, slots := 0, locals := 22 } (zM D ac cs [.ref (a 5 0), .ref (qs 0)] ((paW ac a pa ++ (shW ac qs sh)) ++ ringW ac a rg) sz) (va_Qv (fun _ : Unit => True) (fun _ => zB D (va_A ((paW ac a pa ++ (shW ac qs sh)) ++ ringW ac a rg) sz) ((paW ac a res.1 ++ (shW ac qs sh)) ++ ringW ac a res.2)) (va_A ((paW ac a pa ++ (shW ac qs sh)) ++ ringW ac a rg) sz)) 0 0 (va_A ((paW ac a pa ++ (shW ac qs sh)) ++ ringW ac a rg) sz) := by
  refine Met.ofW (cc := cX2_push) (maxL := 2) (ret := none) (by decide) rfl ?_
  intro p e s m args below meth c s₁ B hml hv
  obtain ⟨rfl, hsz, hP, hKX, hD0, hC⟩ := hv
  have hx := B.exec
  have hb := B.bytes
  have hr := B.returns
  have hts := atoms_spec (ws := cWW yX2_push cX2_push 2 none) B.pre
  have htw : ∀ w ∈ WW, w.before _ s = true := fun w h => hts w (List.mem_cons_of_mem _ h)
  have hown : s.vm.findClass RX2 = some m.cls := findClass_of_methodNamed B.named
  have hlocks := B.notSynchronized
  clear hts B
  subst hsz
  have hD := hD0.self (sz := s.heap.size)
  generalize hAe : va_A ((paW ac a pa ++ (shW ac qs sh)) ++ ringW ac a rg) s.heap.size = A at hD hC ⊢
  have hA : ∀ q : Nat, s.heap.size ≤ q → A q := fun q h => by rw [← hAe]; exact Or.inr h
  have hS : va_S A s.heap s.heap [] := va_S.rf
  clear hD0 hAe
  have hP : va_P D vwCl ((paW ac a pa ++ (shW ac qs sh)) ++ ringW ac a rg) s.heap := hP
  have hl := lv_entry ([.ref (a 5 0), .ref (qs 0)]) (n := 2) (Nat.le_of_ble_eq_true rfl)
  rw [lg_entry_eq]
  generalize (lg_sl ([.ref (a 5 0), .ref (qs 0)]) ++ List.replicate (2 - (lg_sl ([.ref (a 5 0), .ref (qs 0)])).length) Slot.unset).toArray = ls at hl ⊢
  have hl : lv_has ls 2 [(0, .ref (a 5 0)), (1, .ref (qs 0))] := hl
  unfold Pa_push at hf
  show W p l e ({ frames := 1, cells := 0, slots := 0, locals := 22 } : Room) s m _ below meth c s.heap [] 0 0 _ (F0 m 0 ls [])
  refine lv_aload_n hx hb dX2_push_0 rfl (lv_at hl 0 rfl) ?_
  refine va_get (D := D) (ci := 2) (v := .int (pa_next pa)) (C := RX2) (T := TX2) (N := 3) hx hb htw WW_wsX20 hown hKX.1 hP 0 rfl rfl 1 (Nat.le_of_ble_eq_true rfl) (htw _ mF_RX2_22) (fun _ h9 => h9) rfl dX2_push_1 ?_
  obtain ⟨k2, hk2, hf⟩ := z_jn_u hf
  have hj3 : ∀ (pa1 : Pa), k2 pa1 = some res → ∀ (H : Heap) (locs : List Loc) (ls : Array Slot), va_P D vwCl ((paW ac a pa1 ++ (shW ac qs sh)) ++ ringW ac a rg) H → va_D A ((paW ac a pa1 ++ (shW ac qs sh)) ++ ringW ac a rg) → va_S A s.heap H locs → lv_has ls 2 [(0, .ref (a 5 0)), (1, .ref (qs 0))] → W p l e ({ frames := 1, cells := 0, slots := 0, locals := 22 } : Room) s m (([.ref (a 5 0), .ref (qs 0)] : List Value).toArray) below meth c H locs 0 0 (MQ below (va_Qv (fun _ : Unit => True) (fun _ => zB D A ((paW ac a res.1 ++ (shW ac qs sh)) ++ ringW ac a res.2)) A) ([.ref (a 5 0), .ref (qs 0)] : List Value).toArray s 0 0 A) (F0 m 24 ls []) := by
    intro pa1 hf H locs ls hP hD hS hl
    have hf := hk2 _ hf
    refine lv_aload_n hx hb dX2_push_24 rfl (lv_at hl 0 rfl) ?_
    refine va_get (D := D) (ci := 2) (v := .ref (a 5 1)) (C := RX2) (T := TX2) (N := 3) hx hb htw WW_wsX20 hown hKX.1 hP 0 rfl rfl 0 (Nat.le_of_ble_eq_true rfl) (htw _ mF_RX2_11) (fun _ h9 => h9) rfl dX2_push_25 ?_
    refine lv_aload_n hx hb dX2_push_28 rfl (lv_at hl 0 rfl) ?_
    refine va_get (D := D) (ci := 2) (v := .int (pa_next pa1)) (C := RX2) (T := TX2) (N := 3) hx hb htw WW_wsX20 hown hKX.1 hP 0 rfl rfl 1 (Nat.le_of_ble_eq_true rfl) (htw _ mF_RX2_22) (fun _ h9 => h9) rfl dX2_push_29 ?_
    obtain ⟨g4, hf⟩ := z_gd_u hf
    have hq5 := (z_in_u (i := (pa_next pa1)) (n := 20) g4)
    refine zv_aldq (b := a (20 + (pa_next pa1).toNatClampNeg) 0) hx hb hKX.1 hP 1 5 rfl rfl hq5 (if_pos (z_in_lt hq5)) dX2_push_32 ?_
    refine lv_aload_n hx hb dX2_push_33 rfl (lv_at hl 1 rfl) ?_
    obtain ⟨u6, hu6, hf⟩ := z_bd_u hf
    refine zc_MVvT (E := shW ac (a (20 + (pa_next pa1).toNatClampNeg)) (rg ((pa_next pa1).toNatClampNeg)) ++ shW ac qs sh) (TT := paW ac a pa1 ++ ringR ac a rg ((pa_next pa1).toNatClampNeg)) (As := [.ref (qs 0)]) (rest := []) (wr := []) (wsc := shW ac (a (20 + (pa_next pa1).toNatClampNeg)) (rg ((pa_next pa1).toNatClampNeg)) ++ shW ac qs sh) (wsc' := shW ac (a (20 + (pa_next pa1).toNatClampNeg)) u6 ++ shW ac qs sh) hx hb hml hown htw (ctX4_copyFrom l D ac cs (a (20 + (pa_next pa1).toNatClampNeg)) qs H.size (rg ((pa_next pa1).toNatClampNeg)) sh F u6 hu6) (g_V mM_RX2_25 mI_yX4_copyFrom mS_RX4_yX4_copyFrom_yX4_copyFrom mN_RX4 mC_yX4_copyFrom) rfl (hd_yX4_copyFrom) ⟨rfl, rfl⟩ ⟨(Nat.le_of_ble_eq_true rfl), (Nat.le_of_ble_eq_true rfl)⟩ hKX hC hS hA (zP_perm (zpush (zring (z_in_lt hq5))) hP) (zD_perm (zpush (zring (z_in_lt hq5))) hD) (List.range 6) [] rfl (by decide) rfl rfl (fun _ h => by cases h) 4 rfl rfl rfl hl.1 rfl (Nat.le_of_ble_eq_true rfl) ⟨Nat.zero_le _, Nat.zero_le _⟩ dX2_push_34 (fun H locs hP hD hS => ?_)
    have hP : va_P D vwCl ((paW ac a pa1 ++ (shW ac qs sh)) ++ ringW ac a (va_up rg ((pa_next pa1).toNatClampNeg) u6)) H := zP_perm ((zpush (zring2 (z_in_lt hq5) u6)).symm) hP
    have hD : va_D A ((paW ac a pa1 ++ (shW ac qs sh)) ++ ringW ac a (va_up rg ((pa_next pa1).toNatClampNeg) u6)) := zD_perm ((zpush (zring2 (z_in_lt hq5) u6)).symm) hD
    refine lv_aload_n hx hb dX2_push_37 rfl (lv_at hl 0 rfl) ?_
    refine lv_aload_n hx hb dX2_push_38 rfl (lv_at hl 0 rfl) ?_
    refine va_get (D := D) (ci := 2) (v := .int (pa_next pa1)) (C := RX2) (T := TX2) (N := 3) hx hb htw WW_wsX20 hown hKX.1 hP 0 rfl rfl 1 (Nat.le_of_ble_eq_true rfl) (htw _ mF_RX2_22) (fun _ h9 => h9) rfl dX2_push_39 ?_
    refine lv_iconst (v := 1) hx hb dX2_push_42 rfl ?_
    refine lv_iadd hx hb dX2_push_43 ?_
    refine lv_bipush (v := 20) hx hb dX2_push_44 rfl ?_
    refine zv_irem hx hb dX2_push_46 (by decide) ?_
    refine lv_topi (fun x7 hx7 => ?_)
    have hf := z_let_u hx7 hf
    refine va_put (D := D) (ci := 2) (v := .int x7) (ty := tyX2 1) (C := RX2) (T := TX2) (N := 3) hx hb htw WW_wsX20 tyX2 tyX2_ok nmX2 hown hKX.1 hP hD hS 0 rfl rfl 1 (Nat.le_of_ble_eq_true rfl) (htw _ mF_RX2_22) (fun _ h9 => h9) rfl (tyX2_ok 1 (Nat.le_of_ble_eq_true rfl)) rfl rfl (Nat.le_of_ble_eq_true rfl) dX2_push_47 (fun H locs hP hD hS => ?_)
    have hP : va_P D vwCl ((paW ac a (x7, (pa_size pa1)) ++ (shW ac qs sh)) ++ ringW ac a (va_up rg ((pa_next pa1).toNatClampNeg) u6)) H := hP
    have hD : va_D A ((paW ac a (x7, (pa_size pa1)) ++ (shW ac qs sh)) ++ ringW ac a (va_up rg ((pa_next pa1).toNatClampNeg) u6)) := hD
    refine lv_aload_n hx hb dX2_push_50 rfl (lv_at hl 0 rfl) ?_
    refine lv_aload_n hx hb dX2_push_51 rfl (lv_at hl 0 rfl) ?_
    refine va_get (D := D) (ci := 2) (v := .int (pa_size pa1)) (C := RX2) (T := TX2) (N := 3) hx hb htw WW_wsX20 hown hKX.1 hP 0 rfl rfl 2 (Nat.le_of_ble_eq_true rfl) (htw _ mF_RX2_18) (fun _ h9 => h9) rfl dX2_push_52 ?_
    refine lv_iconst (v := 1) hx hb dX2_push_55 rfl ?_
    refine lv_iadd hx hb dX2_push_56 ?_
    refine lv_bipush (v := 20) hx hb dX2_push_57 rfl ?_
    refine va_mmin hx hb (hml.trans hl.1.symm) hown (htw _ mM_RX2_29) (htw _ mT_Lib_Math_min_name) (htw _ mN_java_lang_Math) (htw _ mC_Lib_Math_min_name) (Nat.le_of_ble_eq_true rfl) (Nat.le_of_ble_eq_true rfl) (Nat.zero_le _) (Nat.zero_le _) dX2_push_59 ?_
    refine lv_topi (fun x8 hx8 => ?_)
    have hf := z_let_u hx8 hf
    refine va_put (D := D) (ci := 2) (v := .int x8) (ty := tyX2 2) (C := RX2) (T := TX2) (N := 3) hx hb htw WW_wsX20 tyX2 tyX2_ok nmX2 hown hKX.1 hP hD hS 0 rfl rfl 2 (Nat.le_of_ble_eq_true rfl) (htw _ mF_RX2_18) (fun _ h9 => h9) rfl (tyX2_ok 2 (Nat.le_of_ble_eq_true rfl)) rfl rfl (Nat.le_of_ble_eq_true rfl) dX2_push_62 (fun H locs hP hD hS => ?_)
    have hP : va_P D vwCl ((paW ac a (x7, x8) ++ (shW ac qs sh)) ++ ringW ac a (va_up rg ((pa_next pa1).toNatClampNeg) u6)) H := hP
    have hD : va_D A ((paW ac a (x7, x8) ++ (shW ac qs sh)) ++ ringW ac a (va_up rg ((pa_next pa1).toNatClampNeg) u6)) := hD
    obtain rfl := Option.some.inj hf
    exact zr_Mv hx hb hr hlocks hP hD hS dX2_push_65
  obtain ⟨k9, hk9, hf⟩ := z_jn_u hf
  have hj10 : k9 () = some res → ∀ (H : Heap) (locs : List Loc) (ls : Array Slot), va_P D vwCl ((paW ac a pa ++ (shW ac qs sh)) ++ ringW ac a rg) H → va_D A ((paW ac a pa ++ (shW ac qs sh)) ++ ringW ac a rg) → va_S A s.heap H locs → lv_has ls 2 [(0, .ref (a 5 0)), (1, .ref (qs 0))] → W p l e ({ frames := 1, cells := 0, slots := 0, locals := 22 } : Room) s m (([.ref (a 5 0), .ref (qs 0)] : List Value).toArray) below meth c H locs 0 0 (MQ below (va_Qv (fun _ : Unit => True) (fun _ => zB D A ((paW ac a res.1 ++ (shW ac qs sh)) ++ ringW ac a res.2)) A) ([.ref (a 5 0), .ref (qs 0)] : List Value).toArray s 0 0 A) (F0 m 19 ls []) := by
    intro hf H locs ls hP hD hS hl
    have hf := hk9 _ hf
    refine lv_aload_n hx hb dX2_push_19 rfl (lv_at hl 0 rfl) ?_
    refine lv_iconst (v := 0) hx hb dX2_push_20 rfl ?_
    refine va_put (D := D) (ci := 2) (v := .int 0) (ty := tyX2 1) (C := RX2) (T := TX2) (N := 3) hx hb htw WW_wsX20 tyX2 tyX2_ok nmX2 hown hKX.1 hP hD hS 0 rfl rfl 1 (Nat.le_of_ble_eq_true rfl) (htw _ mF_RX2_22) (fun _ h9 => h9) rfl (tyX2_ok 1 (Nat.le_of_ble_eq_true rfl)) rfl rfl (Nat.le_of_ble_eq_true rfl) dX2_push_21 (fun H locs hP hD hS => ?_)
    have hP : va_P D vwCl ((paW ac a (0, (pa_size pa)) ++ (shW ac qs sh)) ++ ringW ac a rg) H := hP
    have hD : va_D A ((paW ac a (0, (pa_size pa)) ++ (shW ac qs sh)) ++ ringW ac a rg) := hD
    exact hj3 (0, (pa_size pa)) hf _ _ ls  hP hD hS (lv_sub hl [0, 1] rfl)
  refine lv_if_lt (tgt := 19) hx hb dX2_push_4 (by decide) (fun c11 => ?_) (fun c11 => ?_)
  · have hf := z_p c11 hf
    exact hj10  hf _ _ ls  hP hD hS (lv_sub hl [0, 1] rfl)
  · have hf := z_n c11 hf
    refine lv_aload_n hx hb dX2_push_7 rfl (lv_at hl 0 rfl) ?_
    refine va_get (D := D) (ci := 2) (v := .int (pa_next pa)) (C := RX2) (T := TX2) (N := 3) hx hb htw WW_wsX20 hown hKX.1 hP 0 rfl rfl 1 (Nat.le_of_ble_eq_true rfl) (htw _ mF_RX2_22) (fun _ h9 => h9) rfl dX2_push_8 ?_
    refine lv_aload_n hx hb dX2_push_11 rfl (lv_at hl 0 rfl) ?_
    refine va_get (D := D) (ci := 2) (v := .ref (a 5 1)) (C := RX2) (T := TX2) (N := 3) hx hb htw WW_wsX20 hown hKX.1 hP 0 rfl rfl 0 (Nat.le_of_ble_eq_true rfl) (htw _ mF_RX2_11) (fun _ h9 => h9) rfl dX2_push_12 ?_
    refine va_alen hx hb hKX.1 hP 1 5 rfl rfl (v := 20) rfl dX2_push_15 ?_
    refine lv_icmp_lt (tgt := 24) hx hb dX2_push_16 (by decide) (fun c12 => ?_) (fun c12 => ?_)
    · have hf := z_p c12 hf
      exact hj3 pa hf _ _ ls  hP hD hS (lv_sub hl [0, 1] rfl)
    · have hf := z_n c12 hf
      exact hj10  hf _ _ ls  hP hD hS (lv_sub hl [0, 1] rfl)

theorem hd_yX2_popInto : hdY yX2_popInto 1 := by decide +kernel
def Pa_popInto (F : Nat) (pa : Pa) (sh : Sh) (rg : Nat → Sh) : Option (Int32 × Pa × Sh) := if (pa_size pa) = 0 then (some (0, pa, sh)) else (z_let (if (pa_next pa) ≤ 0 then (20 - 1) else (if 20 < (pa_next pa) then (20 - 1) else ((pa_next pa) - 1))) (fun v2 : Int32 => z_let ((pa_size pa) - 1) (fun x7 : Int32 => z_gd (z_in v2 20) (z_bd (Sh_copyFrom F sh (rg v2.toNatClampNeg)) (fun u10 : Sh => some (1, (v2, x7), u10))))))
set_option maxHeartbeats 4000000 in
set_option maxRecDepth 100000 in
theorem ctX2_popInto (l : Launch) (D : va_G) (ac cs : Nat → Nat) (a : Nat → Nat → Nat) (qs : Nat → Nat) (sz : Nat) (pa : Pa) (sh : Sh) (rg : Nat → Sh) (F : Nat) (res : Int32 × Pa × Sh) (hf : Pa_popInto F pa sh rg = some res) : Met l yX2_popInto (cWW yX2_popInto cX2_popInto 2 (some .boolean)) { frames := 1, cells := 0, slots := 0, locals := 22 } (zM D ac cs [.ref (a 5 0), .ref (qs 0)] ((paW ac a pa ++ (shW ac qs sh)) ++ ringW ac a rg) sz) (va_Qi (fun r (_ : Unit) => r = res.1) (fun _ => zB D (va_A ((paW ac a pa ++ (shW ac qs sh)) ++ ringW ac a rg) sz) ((paW ac a res.2.1 ++ (shW ac qs res.2.2)) ++ ringW ac a rg)) (va_A ((paW ac a pa ++ (shW ac qs sh)) ++ ringW ac a rg) sz)) 0 0 (va_A ((paW ac a pa ++ (shW ac qs sh)) ++ ringW ac a rg) sz) := by
  refine Met.ofW (cc := cX2_popInto) (maxL := 2) (ret := (some .boolean)) (by decide) rfl ?_
  intro p e s m args below meth c s₁ B hml hv
  obtain ⟨rfl, hsz, hP, hKX, hD0, hC⟩ := hv
  have hx := B.exec
  have hb := B.bytes
  have hr := B.returns
  have hts := atoms_spec (ws := cWW yX2_popInto cX2_popInto 2 (some .boolean)) B.pre
  have htw : ∀ w ∈ WW, w.before _ s = true := fun w h => hts w (List.mem_cons_of_mem _ h)
  have hown : s.vm.findClass RX2 = some m.cls := findClass_of_methodNamed B.named
  have hlocks := B.notSynchronized
  clear hts B
  subst hsz
  have hD := hD0.self (sz := s.heap.size)
  generalize hAe : va_A ((paW ac a pa ++ (shW ac qs sh)) ++ ringW ac a rg) s.heap.size = A at hD hC ⊢
  have hA : ∀ q : Nat, s.heap.size ≤ q → A q := fun q h => by rw [← hAe]; exact Or.inr h
  have hS : va_S A s.heap s.heap [] := va_S.rf
  clear hD0 hAe
  have hP : va_P D vwCl ((paW ac a pa ++ (shW ac qs sh)) ++ ringW ac a rg) s.heap := hP
  have hl := lv_entry ([.ref (a 5 0), .ref (qs 0)]) (n := 2) (Nat.le_of_ble_eq_true rfl)
  rw [lg_entry_eq]
  generalize (lg_sl ([.ref (a 5 0), .ref (qs 0)]) ++ List.replicate (2 - (lg_sl ([.ref (a 5 0), .ref (qs 0)])).length) Slot.unset).toArray = ls at hl ⊢
  have hl : lv_has ls 2 [(0, .ref (a 5 0)), (1, .ref (qs 0))] := hl
  unfold Pa_popInto at hf
  show W p l e ({ frames := 1, cells := 0, slots := 0, locals := 22 } : Room) s m _ below meth c s.heap [] 0 0 _ (F0 m 0 ls [])
  refine lv_aload_n hx hb dX2_popInto_0 rfl (lv_at hl 0 rfl) ?_
  refine va_get (D := D) (ci := 2) (v := .int (pa_size pa)) (C := RX2) (T := TX2) (N := 3) hx hb htw WW_wsX20 hown hKX.1 hP 0 rfl rfl 2 (Nat.le_of_ble_eq_true rfl) (htw _ mF_RX2_18) (fun _ h9 => h9) rfl dX2_popInto_1 ?_
  refine lv_if_ne (tgt := 9) hx hb dX2_popInto_4 (by decide) (fun c1 => ?_) (fun c1 => ?_)
  · have hf := z_n c1 hf
    refine lv_aload_n hx hb dX2_popInto_9 rfl (lv_at hl 0 rfl) ?_
    refine lv_aload_n hx hb dX2_popInto_10 rfl (lv_at hl 0 rfl) ?_
    refine va_get (D := D) (ci := 2) (v := .int (pa_next pa)) (C := RX2) (T := TX2) (N := 3) hx hb htw WW_wsX20 hown hKX.1 hP 0 rfl rfl 1 (Nat.le_of_ble_eq_true rfl) (htw _ mF_RX2_22) (fun _ h9 => h9) rfl dX2_popInto_11 ?_
    have hj4 : ∀ (v2 : Int32), v2 = (if (pa_next pa) ≤ 0 then (20 - 1) else (if 20 < (pa_next pa) then (20 - 1) else ((pa_next pa) - 1))) → ∀ (H : Heap) (locs : List Loc) (ls : Array Slot), va_P D vwCl ((paW ac a pa ++ (shW ac qs sh)) ++ ringW ac a rg) H → va_D A ((paW ac a pa ++ (shW ac qs sh)) ++ ringW ac a rg) → va_S A s.heap H locs → lv_has ls 2 [(0, .ref (a 5 0)), (1, .ref (qs 0))] → W p l e ({ frames := 1, cells := 0, slots := 0, locals := 22 } : Room) s m (([.ref (a 5 0), .ref (qs 0)] : List Value).toArray) below meth c H locs 0 0 (MQ below (va_Qi (fun r (_ : Unit) => r = res.1) (fun _ => zB D A ((paW ac a res.2.1 ++ (shW ac qs res.2.2)) ++ ringW ac a rg)) A) ([.ref (a 5 0), .ref (qs 0)] : List Value).toArray s 0 0 A) (F0 m 45 ls [.int v2, .ref (a 5 0)]) := by
      intro v2 hv2 H locs ls hP hD hS hl
      have hf := z_let_u hv2 hf
      refine va_put (D := D) (ci := 2) (v := .int v2) (ty := tyX2 1) (C := RX2) (T := TX2) (N := 3) hx hb htw WW_wsX20 tyX2 tyX2_ok nmX2 hown hKX.1 hP hD hS 0 rfl rfl 1 (Nat.le_of_ble_eq_true rfl) (htw _ mF_RX2_22) (fun _ h9 => h9) rfl (tyX2_ok 1 (Nat.le_of_ble_eq_true rfl)) rfl rfl (Nat.le_of_ble_eq_true rfl) dX2_popInto_45 (fun H locs hP hD hS => ?_)
      have hP : va_P D vwCl ((paW ac a (v2, (pa_size pa)) ++ (shW ac qs sh)) ++ ringW ac a rg) H := hP
      have hD : va_D A ((paW ac a (v2, (pa_size pa)) ++ (shW ac qs sh)) ++ ringW ac a rg) := hD
      refine lv_aload_n hx hb dX2_popInto_48 rfl (lv_at hl 0 rfl) ?_
      refine lv_dup hx hb dX2_popInto_49 rfl ?_
      refine va_get (D := D) (ci := 2) (v := .int (pa_size pa)) (C := RX2) (T := TX2) (N := 3) hx hb htw WW_wsX20 hown hKX.1 hP 0 rfl rfl 2 (Nat.le_of_ble_eq_true rfl) (htw _ mF_RX2_18) (fun _ h9 => h9) rfl dX2_popInto_50 ?_
      refine lv_iconst (v := 1) hx hb dX2_popInto_53 rfl ?_
      refine lv_isub hx hb dX2_popInto_54 ?_
      refine lv_topi (fun x7 hx7 => ?_)
      have hf := z_let_u hx7 hf
      refine va_put (D := D) (ci := 2) (v := .int x7) (ty := tyX2 2) (C := RX2) (T := TX2) (N := 3) hx hb htw WW_wsX20 tyX2 tyX2_ok nmX2 hown hKX.1 hP hD hS 0 rfl rfl 2 (Nat.le_of_ble_eq_true rfl) (htw _ mF_RX2_18) (fun _ h9 => h9) rfl (tyX2_ok 2 (Nat.le_of_ble_eq_true rfl)) rfl rfl (Nat.le_of_ble_eq_true rfl) dX2_popInto_55 (fun H locs hP hD hS => ?_)
      have hP : va_P D vwCl ((paW ac a (v2, x7) ++ (shW ac qs sh)) ++ ringW ac a rg) H := hP
      have hD : va_D A ((paW ac a (v2, x7) ++ (shW ac qs sh)) ++ ringW ac a rg) := hD
      refine lv_aload_n hx hb dX2_popInto_58 rfl (lv_at hl 1 rfl) ?_
      refine lv_aload_n hx hb dX2_popInto_59 rfl (lv_at hl 0 rfl) ?_
      refine va_get (D := D) (ci := 2) (v := .ref (a 5 1)) (C := RX2) (T := TX2) (N := 3) hx hb htw WW_wsX20 hown hKX.1 hP 0 rfl rfl 0 (Nat.le_of_ble_eq_true rfl) (htw _ mF_RX2_11) (fun _ h9 => h9) rfl dX2_popInto_60 ?_
      refine lv_aload_n hx hb dX2_popInto_63 rfl (lv_at hl 0 rfl) ?_
      refine va_get (D := D) (ci := 2) (v := .int v2) (C := RX2) (T := TX2) (N := 3) hx hb htw WW_wsX20 hown hKX.1 hP 0 rfl rfl 1 (Nat.le_of_ble_eq_true rfl) (htw _ mF_RX2_22) (fun _ h9 => h9) rfl dX2_popInto_64 ?_
      obtain ⟨g8, hf⟩ := z_gd_u hf
      have hq9 := (z_in_u (i := v2) (n := 20) g8)
      refine zv_aldq (b := a (20 + v2.toNatClampNeg) 0) hx hb hKX.1 hP 1 5 rfl rfl hq9 (if_pos (z_in_lt hq9)) dX2_popInto_67 ?_
      obtain ⟨u10, hu10, hf⟩ := z_bd_u hf
      refine zc_MVvT (E := shW ac qs sh ++ shW ac (a (20 + v2.toNatClampNeg)) (rg v2.toNatClampNeg)) (TT := paW ac a (v2, x7) ++ ringR ac a rg v2.toNatClampNeg) (As := [.ref (a (20 + v2.toNatClampNeg) 0)]) (rest := []) (wr := []) (wsc := shW ac qs sh ++ shW ac (a (20 + v2.toNatClampNeg)) (rg v2.toNatClampNeg)) (wsc' := shW ac qs u10 ++ shW ac (a (20 + v2.toNatClampNeg)) (rg v2.toNatClampNeg)) hx hb hml hown htw (ctX4_copyFrom l D ac cs qs (a (20 + v2.toNatClampNeg)) H.size sh (rg v2.toNatClampNeg) F u10 hu10) (g_V mM_RX2_25 mI_yX4_copyFrom mS_RX4_yX4_copyFrom_yX4_copyFrom mN_RX4 mC_yX4_copyFrom) rfl (hd_yX4_copyFrom) ⟨rfl, rfl⟩ ⟨(Nat.le_of_ble_eq_true rfl), (Nat.le_of_ble_eq_true rfl)⟩ hKX hC hS hA (zP_perm (zpop (zring (z_in_lt hq9))) hP) (zD_perm (zpop (zring (z_in_lt hq9))) hD) (List.range 6) [] rfl (by decide) rfl rfl (fun _ h => by cases h) 4 rfl rfl rfl hl.1 rfl (Nat.le_of_ble_eq_true rfl) ⟨Nat.zero_le _, Nat.zero_le _⟩ dX2_popInto_68 (fun H locs hP hD hS => ?_)
      have hP : va_P D vwCl ((paW ac a (v2, x7) ++ (shW ac qs u10)) ++ ringW ac a rg) H := zP_perm ((zpop (zring (z_in_lt hq9))).symm) hP
      have hD : va_D A ((paW ac a (v2, x7) ++ (shW ac qs u10)) ++ ringW ac a rg) := zD_perm ((zpop (zring (z_in_lt hq9))).symm) hD
      refine lv_iconst (v := 1) hx hb dX2_popInto_71 rfl ?_
      obtain rfl := Option.some.inj hf
      exact zr_Mz hx hb hr hlocks (z_b_n z_b1) hP hD hS dX2_popInto_72
    refine lv_if_le (tgt := 38) hx hb dX2_popInto_14 (by decide) (fun c5 => ?_) (fun c5 => ?_)
    · skip
      refine lv_aload_n hx hb dX2_popInto_38 rfl (lv_at hl 0 rfl) ?_
      refine va_get (D := D) (ci := 2) (v := .ref (a 5 1)) (C := RX2) (T := TX2) (N := 3) hx hb htw WW_wsX20 hown hKX.1 hP 0 rfl rfl 0 (Nat.le_of_ble_eq_true rfl) (htw _ mF_RX2_11) (fun _ h9 => h9) rfl dX2_popInto_39 ?_
      refine va_alen hx hb hKX.1 hP 1 5 rfl rfl (v := 20) rfl dX2_popInto_42 ?_
      refine lv_iconst (v := 1) hx hb dX2_popInto_43 rfl ?_
      refine lv_isub hx hb dX2_popInto_44 ?_
      exact hj4 (20 - 1) (if_pos c5).symm _ _ ls hP hD hS (lv_sub hl [0, 1] rfl)
    · skip
      refine lv_aload_n hx hb dX2_popInto_17 rfl (lv_at hl 0 rfl) ?_
      refine va_get (D := D) (ci := 2) (v := .int (pa_next pa)) (C := RX2) (T := TX2) (N := 3) hx hb htw WW_wsX20 hown hKX.1 hP 0 rfl rfl 1 (Nat.le_of_ble_eq_true rfl) (htw _ mF_RX2_22) (fun _ h9 => h9) rfl dX2_popInto_18 ?_
      refine lv_aload_n hx hb dX2_popInto_21 rfl (lv_at hl 0 rfl) ?_
      refine va_get (D := D) (ci := 2) (v := .ref (a 5 1)) (C := RX2) (T := TX2) (N := 3) hx hb htw WW_wsX20 hown hKX.1 hP 0 rfl rfl 0 (Nat.le_of_ble_eq_true rfl) (htw _ mF_RX2_11) (fun _ h9 => h9) rfl dX2_popInto_22 ?_
      refine va_alen hx hb hKX.1 hP 1 5 rfl rfl (v := 20) rfl dX2_popInto_25 ?_
      refine lv_icmp_gt (tgt := 38) hx hb dX2_popInto_26 (by decide) (fun c6 => ?_) (fun c6 => ?_)
      · skip
        refine lv_aload_n hx hb dX2_popInto_38 rfl (lv_at hl 0 rfl) ?_
        refine va_get (D := D) (ci := 2) (v := .ref (a 5 1)) (C := RX2) (T := TX2) (N := 3) hx hb htw WW_wsX20 hown hKX.1 hP 0 rfl rfl 0 (Nat.le_of_ble_eq_true rfl) (htw _ mF_RX2_11) (fun _ h9 => h9) rfl dX2_popInto_39 ?_
        refine va_alen hx hb hKX.1 hP 1 5 rfl rfl (v := 20) rfl dX2_popInto_42 ?_
        refine lv_iconst (v := 1) hx hb dX2_popInto_43 rfl ?_
        refine lv_isub hx hb dX2_popInto_44 ?_
        exact hj4 (20 - 1) ((if_neg c5).trans (if_pos c6)).symm _ _ ls hP hD hS (lv_sub hl [0, 1] rfl)
      · skip
        refine lv_aload_n hx hb dX2_popInto_29 rfl (lv_at hl 0 rfl) ?_
        refine va_get (D := D) (ci := 2) (v := .int (pa_next pa)) (C := RX2) (T := TX2) (N := 3) hx hb htw WW_wsX20 hown hKX.1 hP 0 rfl rfl 1 (Nat.le_of_ble_eq_true rfl) (htw _ mF_RX2_22) (fun _ h9 => h9) rfl dX2_popInto_30 ?_
        refine lv_iconst (v := 1) hx hb dX2_popInto_33 rfl ?_
        refine lv_isub hx hb dX2_popInto_34 ?_
        refine lv_goto (tgt := 45) hx hb dX2_popInto_35 (by decide) ?_
        exact hj4 ((pa_next pa) - 1) ((if_neg c5).trans (if_neg c6)).symm _ _ ls hP hD hS (lv_sub hl [0, 1] rfl)
  · have hf := z_p c1 hf
    refine lv_iconst (v := 0) hx hb dX2_popInto_7 rfl ?_
    obtain rfl := Option.some.inj hf
    exact zr_Mz hx hb hr hlocks (z_b_n z_b0) hP hD hS dX2_popInto_8
